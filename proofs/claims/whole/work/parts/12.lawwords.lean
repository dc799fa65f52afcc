theorem wsL_law0_r1_in : ∀ w ∈ wsL_law0_r1, w ∈ lw_tbl := by decide +kernel
theorem wsL_law0_r2_in : ∀ w ∈ wsL_law0_r2, w ∈ lw_tbl := by decide +kernel
theorem wsL_law0_r3_in : ∀ w ∈ wsL_law0_r3, w ∈ lw_tbl := by decide +kernel
theorem wsL_law0_r4_in : ∀ w ∈ wsL_law0_r4, w ∈ lw_tbl := by decide +kernel
theorem wsL_law0_r5_in : ∀ w ∈ wsL_law0_r5, w ∈ lw_tbl := by decide +kernel
theorem wsL_law0_r6_in : ∀ w ∈ wsL_law0_r6, w ∈ lw_tbl := by decide +kernel
theorem wsL_law0_r7_in : ∀ w ∈ wsL_law0_r7, w ∈ lw_tbl := by decide +kernel
theorem wsL_law0_r8_in : ∀ w ∈ wsL_law0_r8, w ∈ lw_tbl := by decide +kernel
theorem wsL_law0_r9_in : ∀ w ∈ wsL_law0_r9, w ∈ lw_tbl := by decide +kernel
theorem wsL_law0_r10_in : ∀ w ∈ wsL_law0_r10, w ∈ lw_tbl := by decide +kernel
theorem wsL_law0_r11_in : ∀ w ∈ wsL_law0_r11, w ∈ lw_tbl := by decide +kernel
theorem wsL_law0_r12_in : ∀ w ∈ wsL_law0_r12, w ∈ lw_tbl := by decide +kernel
theorem wsL_law0_r13_in : ∀ w ∈ wsL_law0_r13, w ∈ lw_tbl := by decide +kernel
theorem wsL_law0_r14_in : ∀ w ∈ wsL_law0_r14, w ∈ lw_tbl := by decide +kernel
theorem wsL_law0_r15_in : ∀ w ∈ wsL_law0_r15, w ∈ lw_tbl := by decide +kernel
theorem wsL_law0_r16_in : ∀ w ∈ wsL_law0_r16, w ∈ lw_tbl := by decide +kernel
theorem wsL_law0_r17_in : ∀ w ∈ wsL_law0_r17, w ∈ lw_tbl := by decide +kernel
theorem wsL_law0_r18_in : ∀ w ∈ wsL_law0_r18, w ∈ lw_tbl := by decide +kernel
theorem wsL_law0_r19_in : ∀ w ∈ wsL_law0_r19, w ∈ lw_tbl := by decide +kernel
theorem wsL_law0_r20_in : ∀ w ∈ wsL_law0_r20, w ∈ lw_tbl := by decide +kernel
theorem wsL_law0_r21_in : ∀ w ∈ wsL_law0_r21, w ∈ lw_tbl := by decide +kernel
theorem wsL_law0_r22_in : ∀ w ∈ wsL_law0_r22, w ∈ lw_tbl := by decide +kernel
theorem wsL_law0_r23_in : ∀ w ∈ wsL_law0_r23, w ∈ lw_tbl := by decide +kernel
theorem wsL_law0_r24_in : ∀ w ∈ wsL_law0_r24, w ∈ lw_tbl := by decide +kernel
theorem wsL_law0_r25_in : ∀ w ∈ wsL_law0_r25, w ∈ lw_tbl := by decide +kernel
theorem wsL_law0_r26_in : ∀ w ∈ wsL_law0_r26, w ∈ lw_tbl := by decide +kernel
theorem wsL_law0_r27_in : ∀ w ∈ wsL_law0_r27, w ∈ lw_tbl := by decide +kernel
theorem wsL_law0_r28_in : ∀ w ∈ wsL_law0_r28, w ∈ lw_tbl := by decide +kernel
theorem wsL_law0_r29_in : ∀ w ∈ wsL_law0_r29, w ∈ lw_tbl := by decide +kernel
theorem wsL_law0_r30_in : ∀ w ∈ wsL_law0_r30, w ∈ lw_tbl := by decide +kernel
theorem wsL_law0_r31_in : ∀ w ∈ wsL_law0_r31, w ∈ lw_tbl := by decide +kernel
theorem wsL_law0_r32_in : ∀ w ∈ wsL_law0_r32, w ∈ lw_tbl := by decide +kernel
theorem wsX50_in : ∀ w ∈ wsX50, w ∈ lw_tbl := by decide +kernel
theorem wsX60_in : ∀ w ∈ wsX60, w ∈ lw_tbl := by decide +kernel
theorem wsX30_in : ∀ w ∈ wsX30, w ∈ lw_tbl := by decide +kernel
theorem wsX20_in : ∀ w ∈ wsX20, w ∈ lw_tbl := by decide +kernel
theorem wsX00_in : ∀ w ∈ wsX00, w ∈ lw_tbl := by decide +kernel
theorem wsX40_in : ∀ w ∈ wsX40, w ∈ lw_tbl := by decide +kernel
theorem wsX10_in : ∀ w ∈ wsX10, w ∈ lw_tbl := by decide +kernel
theorem wsL_law_in0 : ∀ w ∈ wsL_law0, w ∈ lw_tbl := List.forall_mem_append.mpr ⟨List.forall_mem_append.mpr ⟨List.forall_mem_append.mpr ⟨List.forall_mem_append.mpr ⟨List.forall_mem_append.mpr ⟨List.forall_mem_append.mpr ⟨List.forall_mem_append.mpr ⟨List.forall_mem_append.mpr ⟨List.forall_mem_append.mpr ⟨wsL_law0_r1_in, List.forall_mem_append.mpr ⟨wsL_law0_r2_in, List.forall_mem_append.mpr ⟨wsL_law0_r3_in, List.forall_mem_append.mpr ⟨wsL_law0_r4_in, List.forall_mem_append.mpr ⟨wsL_law0_r5_in, List.forall_mem_append.mpr ⟨wsL_law0_r6_in, List.forall_mem_append.mpr ⟨wsL_law0_r7_in, List.forall_mem_append.mpr ⟨wsL_law0_r8_in, List.forall_mem_append.mpr ⟨wsL_law0_r9_in, List.forall_mem_append.mpr ⟨wsL_law0_r10_in, List.forall_mem_append.mpr ⟨wsL_law0_r11_in, List.forall_mem_append.mpr ⟨wsL_law0_r12_in, List.forall_mem_append.mpr ⟨wsL_law0_r13_in, List.forall_mem_append.mpr ⟨wsL_law0_r14_in, List.forall_mem_append.mpr ⟨wsL_law0_r15_in, List.forall_mem_append.mpr ⟨wsL_law0_r16_in, List.forall_mem_append.mpr ⟨wsL_law0_r17_in, List.forall_mem_append.mpr ⟨wsL_law0_r18_in, List.forall_mem_append.mpr ⟨wsL_law0_r19_in, List.forall_mem_append.mpr ⟨wsL_law0_r20_in, List.forall_mem_append.mpr ⟨wsL_law0_r21_in, List.forall_mem_append.mpr ⟨wsL_law0_r22_in, List.forall_mem_append.mpr ⟨wsL_law0_r23_in, List.forall_mem_append.mpr ⟨wsL_law0_r24_in, List.forall_mem_append.mpr ⟨wsL_law0_r25_in, List.forall_mem_append.mpr ⟨wsL_law0_r26_in, List.forall_mem_append.mpr ⟨wsL_law0_r27_in, List.forall_mem_append.mpr ⟨wsL_law0_r28_in, List.forall_mem_append.mpr ⟨wsL_law0_r29_in, List.forall_mem_append.mpr ⟨wsL_law0_r30_in, List.forall_mem_append.mpr ⟨wsL_law0_r31_in, wsL_law0_r32_in⟩⟩⟩⟩⟩⟩⟩⟩⟩⟩⟩⟩⟩⟩⟩⟩⟩⟩⟩⟩⟩⟩⟩⟩⟩⟩⟩⟩⟩⟩⟩, wsX50_in⟩, wsX60_in⟩, wsX30_in⟩, wsX20_in⟩, wsX00_in⟩, wsX40_in⟩, wsX10_in⟩, fun _ h => absurd h List.not_mem_nil⟩
theorem wsL_law_x0 : ∀ w ∈ (vx_atS RX5 120 "java/lang/IndexOutOfBoundsException" ["java/lang/RuntimeException", "java/lang/Exception"]).filter goodWord, w ∈ lw_tbl := by decide +kernel
theorem wsL_law_x1 : ∀ w ∈ (vx_atS RX5 307 "java/lang/IllegalStateException" ["java/lang/RuntimeException", "java/lang/Exception"]).filter goodWord, w ∈ lw_tbl := by decide +kernel
theorem wsL_law_x2 : ∀ w ∈ (vx_atS RX5 230 "java/lang/IllegalArgumentException" ["java/lang/RuntimeException", "java/lang/Exception"]).filter goodWord, w ∈ lw_tbl := by decide +kernel
theorem wsL_law_x3 : ∀ w ∈ (vx_atS RX0 87 "java/lang/IndexOutOfBoundsException" ["java/lang/RuntimeException", "java/lang/Exception"]).filter goodWord, w ∈ lw_tbl := by decide +kernel
theorem wsL_law_x4 : ∀ w ∈ (vx_atX RX5 271 "java/util/NoSuchElementException" 13 six13 ["java/lang/RuntimeException", "java/lang/Exception"]).filter goodWord, w ∈ lw_tbl := by decide +kernel
theorem wsL_law_in : ∀ w ∈ wsL_law, w ∈ lw_tbl := fun w h => (List.mem_append.mp h).elim (fun h => (List.mem_append.mp h).elim (fun h => (List.mem_append.mp h).elim (fun h => (List.mem_append.mp h).elim (fun h => (List.mem_append.mp h).elim (fun h => wsL_law_in0 w h) (fun h => wsL_law_x0 w h)) (fun h => wsL_law_x1 w h)) (fun h => wsL_law_x2 w h)) (fun h => wsL_law_x3 w h)) (fun h => wsL_law_x4 w h)
theorem inlX0 : ∀ w ∈ wsX00, w ∈ wsL_law := fun _ h => List.mem_append_left _ (List.mem_append_left _ (List.mem_append_left _ (List.mem_append_left _ (List.mem_append_left _ (List.mem_append_left _ (List.mem_append_left _ (List.mem_append_left _ (List.mem_append_right _ h))))))))
theorem inlX1 : ∀ w ∈ wsX10, w ∈ wsL_law := fun _ h => List.mem_append_left _ (List.mem_append_left _ (List.mem_append_left _ (List.mem_append_left _ (List.mem_append_left _ (List.mem_append_left _ (List.mem_append_right _ h))))))
theorem inlX2 : ∀ w ∈ wsX20, w ∈ wsL_law := fun _ h => List.mem_append_left _ (List.mem_append_left _ (List.mem_append_left _ (List.mem_append_left _ (List.mem_append_left _ (List.mem_append_left _ (List.mem_append_left _ (List.mem_append_left _ (List.mem_append_left _ (List.mem_append_right _ h)))))))))
theorem inlX3 : ∀ w ∈ wsX30, w ∈ wsL_law := fun _ h => List.mem_append_left _ (List.mem_append_left _ (List.mem_append_left _ (List.mem_append_left _ (List.mem_append_left _ (List.mem_append_left _ (List.mem_append_left _ (List.mem_append_left _ (List.mem_append_left _ (List.mem_append_left _ (List.mem_append_right _ h))))))))))
theorem inlX4 : ∀ w ∈ wsX40, w ∈ wsL_law := fun _ h => List.mem_append_left _ (List.mem_append_left _ (List.mem_append_left _ (List.mem_append_left _ (List.mem_append_left _ (List.mem_append_left _ (List.mem_append_left _ (List.mem_append_right _ h)))))))
theorem inlX5 : ∀ w ∈ wsX50, w ∈ wsL_law := fun _ h => List.mem_append_left _ (List.mem_append_left _ (List.mem_append_left _ (List.mem_append_left _ (List.mem_append_left _ (List.mem_append_left _ (List.mem_append_left _ (List.mem_append_left _ (List.mem_append_left _ (List.mem_append_left _ (List.mem_append_left _ (List.mem_append_left _ (List.mem_append_right _ h))))))))))))
theorem inlX6 : ∀ w ∈ wsX60, w ∈ wsL_law := fun _ h => List.mem_append_left _ (List.mem_append_left _ (List.mem_append_left _ (List.mem_append_left _ (List.mem_append_left _ (List.mem_append_left _ (List.mem_append_left _ (List.mem_append_left _ (List.mem_append_left _ (List.mem_append_left _ (List.mem_append_left _ (List.mem_append_right _ h)))))))))))
