/** Promises 14 to 17: groups, group, counted, best. */
public final class GroupsTest {
    private static final Due DUE = new Due();

    public static void main(String[] args) {
        groupsAreInTheOrderOfTheirFirstHit();
        groupsAreOfTheView();
        groupsByMix();
        threeHundredGroups();
        groupsRefuse();
        bestRefusesLast();
        oneGroupOfThreeHundred();
        groupsOfNothing();
        DUE.end();
    }

    private static GroupCursors sample() {
        GroupCursors x = new GroupCursors();
        x.add(-3, 1, 50);
        x.add(Long.MAX_VALUE, 2, 10);
        x.add(-3, 3, 20);
        x.add(0, 4, 30);
        x.add(Long.MAX_VALUE, 5, 60);
        x.add(-3, 6, 40);
        x.commit();
        x.view();
        return x;
    }

    private static void groupsAreInTheOrderOfTheirFirstHit() {
        GroupCursors x = sample();
        DUE.is("groups(0)", 3, () -> x.groups(0));
        DUE.are("groups by kind 0", "9223372036854775807 -3 0", 3, k -> x.group(0, 0, 1, k));
        DUE.are("groups by kind 1", "9223372036854775807 -3 0", 3, k -> x.group(0, 1, 1, k));
        DUE.are("counted by kind 0", "2 3 1", 3, k -> x.counted(0, 0, 1, k));
        DUE.are("best of group 1 by kind 0", "2 5 0", 3, j -> x.best(0, 0, 1, 1, j));
        DUE.are("best of group 1 by kind 1", "0 5 2", 3, j -> x.best(0, 1, 1, 1, j));
        DUE.are("best of group 0 by kind 1", "4 1 throws.IndexOutOfBoundsException", 3, j -> x.best(0, 1, 1, 0, j));
        x.drop(1);
        x.drop(4);
        x.view();
        DUE.are("groups of a later view", "-3 0 throws.IndexOutOfBoundsException", 3, k -> x.group(1, 0, 1, k));
        DUE.are("counted of a later view", "3 1 throws.IndexOutOfBoundsException", 3, k -> x.counted(1, 0, 1, k));
        DUE.is("groups(1)", 2, () -> x.groups(1));
        DUE.is("groups(0) stays", 3, () -> x.groups(0));
    }

    private static void groupsAreOfTheView() {
        GroupCursors x = new GroupCursors();
        x.add(1, 1, 1);
        x.view();
        DUE.is("a new object's group", 0, () -> x.groups(0));
        x.commit();
        x.add(1, 2, 0);
        x.add(2, 3, -1);
        x.view();
        x.commit();
        x.view();
        DUE.are("groups()", "0 1 2", 3, x::groups);
        DUE.is("group of view 1", 1, () -> x.group(1, 0, 0, 0));
        DUE.is("group of view 2", 2, () -> x.group(2, 0, 0, 0));
        DUE.is("counted in view 1", 1, () -> x.counted(1, 0, 0, 0));
        DUE.is("counted in view 2", 2, () -> x.counted(2, 0, 0, 1));
        x.cursor(2, 0, 0, 1, 0, 5);
        x.letGo(2);
        DUE.is("groups of a held view", 2, () -> x.groups(2));
        x.close(0);
        DUE.is("groups of an ended view", 0, () -> x.groups(2));
        DUE.isOutOfBounds("group 0 of an ended view", () -> x.group(2, 0, 0, 0));
    }

    // 1, 2 and 3 steps come last, third and second by the seed 0, 0 first (HitsTest tells why)
    private static void groupsByMix() {
        long step = 0x9E3779B97F4A7C15L;
        GroupCursors x = new GroupCursors();
        x.add(10, step, 1);
        x.add(20, 2 * step, 2);
        x.add(10, 3 * step, 3);
        x.add(30, 0, 4);
        x.add(20, 2 * step, 0);
        x.commit();
        x.view();
        DUE.are("groups by kind 2", "30 10 20", 3, k -> x.group(0, 2, 0, k));
        DUE.are("counted by kind 2", "1 2 2", 3, k -> x.counted(0, 2, 0, k));
        DUE.are("best of group 1", "2 0", 2, j -> x.best(0, 2, 0, 1, j));
        DUE.are("best of group 2", "1 4", 2, j -> x.best(0, 2, 0, 2, j));
        DUE.are("by kind 0 the seed does not count", "20 10 30", 3, k -> x.group(0, 0, 12345, k));
    }

    private static void threeHundredGroups() {
        GroupCursors x = new GroupCursors();
        for (int i = 0; i < 300; i++) {
            x.add(i * 1000L, i, -i);
        }
        x.commit();
        x.view();
        DUE.is("groups(0)", 300, () -> x.groups(0));
        DUE.is("group 0", 299000, () -> x.group(0, 0, 0, 0));
        DUE.is("group 299", 0, () -> x.group(0, 0, 0, 299));
        DUE.is("counted 299", 1, () -> x.counted(0, 0, 0, 299));
        DUE.isOutOfBounds("group 300", () -> x.group(0, 0, 0, 300));
    }

    private static void groupsRefuse() {
        GroupCursors x = sample();
        DUE.isOutOfBounds("groups(-1)", () -> x.groups(-1));
        DUE.isOutOfBounds("groups(1)", () -> x.groups(1));
        DUE.isOutOfBounds("group: view 1", () -> x.group(1, 0, 0, 0));
        DUE.isOutOfBounds("group: view 1 and kind 3", () -> x.group(1, 3, 0, 0));
        DUE.isOutOfBounds("group: k -1", () -> x.group(0, 0, 0, -1));
        DUE.isOutOfBounds("group: k 3", () -> x.group(0, 0, 0, 3));
        DUE.isOutOfBounds("group: k 3 and kind 3", () -> x.group(0, 3, 0, 3));
        DUE.isOutOfBounds("group: k -1 and kind 3", () -> x.group(0, 3, 0, -1));
        DUE.isWrongArgument("group: kind 3", () -> x.group(0, 3, 0, 2));
        DUE.isWrongArgument("group: kind -1", () -> x.group(0, -1, 0, 0));
        DUE.isOutOfBounds("counted: view -1", () -> x.counted(-1, 0, 0, 0));
        DUE.isOutOfBounds("counted: k -1", () -> x.counted(0, 0, 0, -1));
        DUE.isOutOfBounds("counted: k 3 and kind 3", () -> x.counted(0, 3, 0, 3));
        DUE.isWrongArgument("counted: kind 3", () -> x.counted(0, 3, 0, 0));
    }

    private static void bestRefusesLast() {
        GroupCursors x = sample();
        DUE.isOutOfBounds("best: view 1", () -> x.best(1, 0, 0, 0, 0));
        DUE.isOutOfBounds("best: k 3", () -> x.best(0, 0, 0, 3, 0));
        DUE.isOutOfBounds("best: k 3 and kind 3", () -> x.best(0, 3, 0, 3, 0));
        DUE.isWrongArgument("best: kind 3", () -> x.best(0, 3, 0, 0, 0));
        DUE.isWrongArgument("best: kind 3 and j 99", () -> x.best(0, 3, 0, 0, 99));
        DUE.isWrongArgument("best: kind 3 and j -1", () -> x.best(0, 3, 0, 0, -1));
        DUE.isOutOfBounds("best: j -1", () -> x.best(0, 0, 0, 0, -1));
        DUE.isOutOfBounds("best: j 2", () -> x.best(0, 0, 0, 0, 2));
        DUE.isOutOfBounds("best: j most", () -> x.best(0, 0, 0, 0, Integer.MAX_VALUE));
    }

    private static void oneGroupOfThreeHundred() {
        GroupCursors x = new GroupCursors();
        for (int i = 0; i < 300; i++) {
            x.add(-1, i, -i);
        }
        x.commit();
        x.view();
        DUE.is("groups(0)", 1, () -> x.groups(0));
        DUE.are("the only group", "-1 throws.IndexOutOfBoundsException", 2, k -> x.group(0, 1, 0, k));
        DUE.is("counted", 300, () -> x.counted(0, 1, 0, 0));
        DUE.is("its first", 0, () -> x.best(0, 1, 0, 0, 0));
        DUE.is("its last", 299, () -> x.best(0, 1, 0, 0, 299));
        DUE.isOutOfBounds("beyond its last", () -> x.best(0, 1, 0, 0, 300));
    }

    private static void groupsOfNothing() {
        GroupCursors x = new GroupCursors();
        x.view();
        DUE.is("groups of an empty view", 0, () -> x.groups(0));
        DUE.isOutOfBounds("group 0 of an empty view", () -> x.group(0, 0, 0, 0));
        DUE.isOutOfBounds("counted 0 of an empty view", () -> x.counted(0, 0, 0, 0));
        DUE.isOutOfBounds("best 0 0 of an empty view", () -> x.best(0, 0, 0, 0, 0));
        DUE.isOutOfBounds("group 0 of an empty view and kind 3", () -> x.group(0, 3, 0, 0));
    }
}
