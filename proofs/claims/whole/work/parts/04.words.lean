/-! words among the tables' words, by their places -/
theorem mem_l {a b : List Cond} {w : Cond} (h : w ∈ a) : w ∈ a ++ b := List.mem_append_left _ h
theorem mem_r {a b : List Cond} {w : Cond} (h : w ∈ b) : w ∈ a ++ b := List.mem_append_right _ h
theorem wsL_law_r1_big : ∀ w ∈ wsL_law_r1, w ∈ wsL_law := fun w h => (mem_l (mem_l (mem_l (mem_l (mem_l (mem_l (mem_l (mem_l (mem_l (mem_l (mem_l (mem_l (mem_l (mem_l h))))))))))))))
theorem wsL_law_r2_big : ∀ w ∈ wsL_law_r2, w ∈ wsL_law := fun w h => (mem_l (mem_l (mem_l (mem_l (mem_l (mem_l (mem_l (mem_l (mem_l (mem_l (mem_l (mem_l (mem_l (mem_r (mem_l h)))))))))))))))
theorem wsL_law_r3_big : ∀ w ∈ wsL_law_r3, w ∈ wsL_law := fun w h => (mem_l (mem_l (mem_l (mem_l (mem_l (mem_l (mem_l (mem_l (mem_l (mem_l (mem_l (mem_l (mem_l (mem_r (mem_r (mem_l h))))))))))))))))
theorem wsL_law_r4_big : ∀ w ∈ wsL_law_r4, w ∈ wsL_law := fun w h => (mem_l (mem_l (mem_l (mem_l (mem_l (mem_l (mem_l (mem_l (mem_l (mem_l (mem_l (mem_l (mem_l (mem_r (mem_r (mem_r (mem_l h)))))))))))))))))
theorem wsL_law_r5_big : ∀ w ∈ wsL_law_r5, w ∈ wsL_law := fun w h => (mem_l (mem_l (mem_l (mem_l (mem_l (mem_l (mem_l (mem_l (mem_l (mem_l (mem_l (mem_l (mem_l (mem_r (mem_r (mem_r (mem_r (mem_l h))))))))))))))))))
theorem wsL_law_r6_big : ∀ w ∈ wsL_law_r6, w ∈ wsL_law := fun w h => (mem_l (mem_l (mem_l (mem_l (mem_l (mem_l (mem_l (mem_l (mem_l (mem_l (mem_l (mem_l (mem_l (mem_r (mem_r (mem_r (mem_r (mem_r (mem_l h)))))))))))))))))))
theorem wsL_law_r7_big : ∀ w ∈ wsL_law_r7, w ∈ wsL_law := fun w h => (mem_l (mem_l (mem_l (mem_l (mem_l (mem_l (mem_l (mem_l (mem_l (mem_l (mem_l (mem_l (mem_l (mem_r (mem_r (mem_r (mem_r (mem_r (mem_r (mem_l h))))))))))))))))))))
theorem wsL_law_r8_big : ∀ w ∈ wsL_law_r8, w ∈ wsL_law := fun w h => (mem_l (mem_l (mem_l (mem_l (mem_l (mem_l (mem_l (mem_l (mem_l (mem_l (mem_l (mem_l (mem_l (mem_r (mem_r (mem_r (mem_r (mem_r (mem_r (mem_r (mem_l h)))))))))))))))))))))
theorem wsL_law_r9_big : ∀ w ∈ wsL_law_r9, w ∈ wsL_law := fun w h => (mem_l (mem_l (mem_l (mem_l (mem_l (mem_l (mem_l (mem_l (mem_l (mem_l (mem_l (mem_l (mem_l (mem_r (mem_r (mem_r (mem_r (mem_r (mem_r (mem_r (mem_r (mem_l h))))))))))))))))))))))
theorem wsL_law_r10_big : ∀ w ∈ wsL_law_r10, w ∈ wsL_law := fun w h => (mem_l (mem_l (mem_l (mem_l (mem_l (mem_l (mem_l (mem_l (mem_l (mem_l (mem_l (mem_l (mem_l (mem_r (mem_r (mem_r (mem_r (mem_r (mem_r (mem_r (mem_r (mem_r (mem_l h)))))))))))))))))))))))
theorem wsL_law_r11_big : ∀ w ∈ wsL_law_r11, w ∈ wsL_law := fun w h => (mem_l (mem_l (mem_l (mem_l (mem_l (mem_l (mem_l (mem_l (mem_l (mem_l (mem_l (mem_l (mem_l (mem_r (mem_r (mem_r (mem_r (mem_r (mem_r (mem_r (mem_r (mem_r (mem_r (mem_l h))))))))))))))))))))))))
theorem wsL_law_r12_big : ∀ w ∈ wsL_law_r12, w ∈ wsL_law := fun w h => (mem_l (mem_l (mem_l (mem_l (mem_l (mem_l (mem_l (mem_l (mem_l (mem_l (mem_l (mem_l (mem_l (mem_r (mem_r (mem_r (mem_r (mem_r (mem_r (mem_r (mem_r (mem_r (mem_r (mem_r (mem_l h)))))))))))))))))))))))))
theorem wsL_law_r13_big : ∀ w ∈ wsL_law_r13, w ∈ wsL_law := fun w h => (mem_l (mem_l (mem_l (mem_l (mem_l (mem_l (mem_l (mem_l (mem_l (mem_l (mem_l (mem_l (mem_l (mem_r (mem_r (mem_r (mem_r (mem_r (mem_r (mem_r (mem_r (mem_r (mem_r (mem_r (mem_r (mem_l h))))))))))))))))))))))))))
theorem wsL_law_r14_big : ∀ w ∈ wsL_law_r14, w ∈ wsL_law := fun w h => (mem_l (mem_l (mem_l (mem_l (mem_l (mem_l (mem_l (mem_l (mem_l (mem_l (mem_l (mem_l (mem_l (mem_r (mem_r (mem_r (mem_r (mem_r (mem_r (mem_r (mem_r (mem_r (mem_r (mem_r (mem_r (mem_r (mem_l h)))))))))))))))))))))))))))
theorem wsL_law_r15_big : ∀ w ∈ wsL_law_r15, w ∈ wsL_law := fun w h => (mem_l (mem_l (mem_l (mem_l (mem_l (mem_l (mem_l (mem_l (mem_l (mem_l (mem_l (mem_l (mem_l (mem_r (mem_r (mem_r (mem_r (mem_r (mem_r (mem_r (mem_r (mem_r (mem_r (mem_r (mem_r (mem_r (mem_r (mem_l h))))))))))))))))))))))))))))
theorem wsL_law_r16_big : ∀ w ∈ wsL_law_r16, w ∈ wsL_law := fun w h => (mem_l (mem_l (mem_l (mem_l (mem_l (mem_l (mem_l (mem_l (mem_l (mem_l (mem_l (mem_l (mem_l (mem_r (mem_r (mem_r (mem_r (mem_r (mem_r (mem_r (mem_r (mem_r (mem_r (mem_r (mem_r (mem_r (mem_r (mem_r (mem_l h)))))))))))))))))))))))))))))
theorem wsL_law_r17_big : ∀ w ∈ wsL_law_r17, w ∈ wsL_law := fun w h => (mem_l (mem_l (mem_l (mem_l (mem_l (mem_l (mem_l (mem_l (mem_l (mem_l (mem_l (mem_l (mem_l (mem_r (mem_r (mem_r (mem_r (mem_r (mem_r (mem_r (mem_r (mem_r (mem_r (mem_r (mem_r (mem_r (mem_r (mem_r (mem_r (mem_l h))))))))))))))))))))))))))))))
theorem wsL_law_r18_big : ∀ w ∈ wsL_law_r18, w ∈ wsL_law := fun w h => (mem_l (mem_l (mem_l (mem_l (mem_l (mem_l (mem_l (mem_l (mem_l (mem_l (mem_l (mem_l (mem_l (mem_r (mem_r (mem_r (mem_r (mem_r (mem_r (mem_r (mem_r (mem_r (mem_r (mem_r (mem_r (mem_r (mem_r (mem_r (mem_r (mem_r (mem_l h)))))))))))))))))))))))))))))))
theorem wsL_law_r19_big : ∀ w ∈ wsL_law_r19, w ∈ wsL_law := fun w h => (mem_l (mem_l (mem_l (mem_l (mem_l (mem_l (mem_l (mem_l (mem_l (mem_l (mem_l (mem_l (mem_l (mem_r (mem_r (mem_r (mem_r (mem_r (mem_r (mem_r (mem_r (mem_r (mem_r (mem_r (mem_r (mem_r (mem_r (mem_r (mem_r (mem_r (mem_r (mem_l h))))))))))))))))))))))))))))))))
theorem wsL_law_r20_big : ∀ w ∈ wsL_law_r20, w ∈ wsL_law := fun w h => (mem_l (mem_l (mem_l (mem_l (mem_l (mem_l (mem_l (mem_l (mem_l (mem_l (mem_l (mem_l (mem_l (mem_r (mem_r (mem_r (mem_r (mem_r (mem_r (mem_r (mem_r (mem_r (mem_r (mem_r (mem_r (mem_r (mem_r (mem_r (mem_r (mem_r (mem_r (mem_r (mem_l h)))))))))))))))))))))))))))))))))
theorem wsL_law_r21_big : ∀ w ∈ wsL_law_r21, w ∈ wsL_law := fun w h => (mem_l (mem_l (mem_l (mem_l (mem_l (mem_l (mem_l (mem_l (mem_l (mem_l (mem_l (mem_l (mem_l (mem_r (mem_r (mem_r (mem_r (mem_r (mem_r (mem_r (mem_r (mem_r (mem_r (mem_r (mem_r (mem_r (mem_r (mem_r (mem_r (mem_r (mem_r (mem_r (mem_r (mem_l h))))))))))))))))))))))))))))))))))
theorem wsL_law_r22_big : ∀ w ∈ wsL_law_r22, w ∈ wsL_law := fun w h => (mem_l (mem_l (mem_l (mem_l (mem_l (mem_l (mem_l (mem_l (mem_l (mem_l (mem_l (mem_l (mem_l (mem_r (mem_r (mem_r (mem_r (mem_r (mem_r (mem_r (mem_r (mem_r (mem_r (mem_r (mem_r (mem_r (mem_r (mem_r (mem_r (mem_r (mem_r (mem_r (mem_r (mem_r (mem_l h)))))))))))))))))))))))))))))))))))
theorem wsL_law_r23_big : ∀ w ∈ wsL_law_r23, w ∈ wsL_law := fun w h => (mem_l (mem_l (mem_l (mem_l (mem_l (mem_l (mem_l (mem_l (mem_l (mem_l (mem_l (mem_l (mem_l (mem_r (mem_r (mem_r (mem_r (mem_r (mem_r (mem_r (mem_r (mem_r (mem_r (mem_r (mem_r (mem_r (mem_r (mem_r (mem_r (mem_r (mem_r (mem_r (mem_r (mem_r (mem_r (mem_l h))))))))))))))))))))))))))))))))))))
theorem wsL_law_r24_big : ∀ w ∈ wsL_law_r24, w ∈ wsL_law := fun w h => (mem_l (mem_l (mem_l (mem_l (mem_l (mem_l (mem_l (mem_l (mem_l (mem_l (mem_l (mem_l (mem_l (mem_r (mem_r (mem_r (mem_r (mem_r (mem_r (mem_r (mem_r (mem_r (mem_r (mem_r (mem_r (mem_r (mem_r (mem_r (mem_r (mem_r (mem_r (mem_r (mem_r (mem_r (mem_r (mem_r (mem_l h)))))))))))))))))))))))))))))))))))))
theorem wsL_law_r25_big : ∀ w ∈ wsL_law_r25, w ∈ wsL_law := fun w h => (mem_l (mem_l (mem_l (mem_l (mem_l (mem_l (mem_l (mem_l (mem_l (mem_l (mem_l (mem_l (mem_l (mem_r (mem_r (mem_r (mem_r (mem_r (mem_r (mem_r (mem_r (mem_r (mem_r (mem_r (mem_r (mem_r (mem_r (mem_r (mem_r (mem_r (mem_r (mem_r (mem_r (mem_r (mem_r (mem_r (mem_r (mem_l h))))))))))))))))))))))))))))))))))))))
theorem wsL_law_r26_big : ∀ w ∈ wsL_law_r26, w ∈ wsL_law := fun w h => (mem_l (mem_l (mem_l (mem_l (mem_l (mem_l (mem_l (mem_l (mem_l (mem_l (mem_l (mem_l (mem_l (mem_r (mem_r (mem_r (mem_r (mem_r (mem_r (mem_r (mem_r (mem_r (mem_r (mem_r (mem_r (mem_r (mem_r (mem_r (mem_r (mem_r (mem_r (mem_r (mem_r (mem_r (mem_r (mem_r (mem_r (mem_r (mem_l h)))))))))))))))))))))))))))))))))))))))
theorem wsL_law_r27_big : ∀ w ∈ wsL_law_r27, w ∈ wsL_law := fun w h => (mem_l (mem_l (mem_l (mem_l (mem_l (mem_l (mem_l (mem_l (mem_l (mem_l (mem_l (mem_l (mem_l (mem_r (mem_r (mem_r (mem_r (mem_r (mem_r (mem_r (mem_r (mem_r (mem_r (mem_r (mem_r (mem_r (mem_r (mem_r (mem_r (mem_r (mem_r (mem_r (mem_r (mem_r (mem_r (mem_r (mem_r (mem_r (mem_r (mem_l h))))))))))))))))))))))))))))))))))))))))
theorem wsL_law_r28_big : ∀ w ∈ wsL_law_r28, w ∈ wsL_law := fun w h => (mem_l (mem_l (mem_l (mem_l (mem_l (mem_l (mem_l (mem_l (mem_l (mem_l (mem_l (mem_l (mem_l (mem_r (mem_r (mem_r (mem_r (mem_r (mem_r (mem_r (mem_r (mem_r (mem_r (mem_r (mem_r (mem_r (mem_r (mem_r (mem_r (mem_r (mem_r (mem_r (mem_r (mem_r (mem_r (mem_r (mem_r (mem_r (mem_r (mem_r (mem_l h)))))))))))))))))))))))))))))))))))))))))
theorem wsL_law_r29_big : ∀ w ∈ wsL_law_r29, w ∈ wsL_law := fun w h => (mem_l (mem_l (mem_l (mem_l (mem_l (mem_l (mem_l (mem_l (mem_l (mem_l (mem_l (mem_l (mem_l (mem_r (mem_r (mem_r (mem_r (mem_r (mem_r (mem_r (mem_r (mem_r (mem_r (mem_r (mem_r (mem_r (mem_r (mem_r (mem_r (mem_r (mem_r (mem_r (mem_r (mem_r (mem_r (mem_r (mem_r (mem_r (mem_r (mem_r (mem_r (mem_l h))))))))))))))))))))))))))))))))))))))))))
theorem wsL_law_r30_big : ∀ w ∈ wsL_law_r30, w ∈ wsL_law := fun w h => (mem_l (mem_l (mem_l (mem_l (mem_l (mem_l (mem_l (mem_l (mem_l (mem_l (mem_l (mem_l (mem_l (mem_r (mem_r (mem_r (mem_r (mem_r (mem_r (mem_r (mem_r (mem_r (mem_r (mem_r (mem_r (mem_r (mem_r (mem_r (mem_r (mem_r (mem_r (mem_r (mem_r (mem_r (mem_r (mem_r (mem_r (mem_r (mem_r (mem_r (mem_r (mem_r (mem_l h)))))))))))))))))))))))))))))))))))))))))))
theorem wsL_law_r31_big : ∀ w ∈ wsL_law_r31, w ∈ wsL_law := fun w h => (mem_l (mem_l (mem_l (mem_l (mem_l (mem_l (mem_l (mem_l (mem_l (mem_l (mem_l (mem_l (mem_l (mem_r (mem_r (mem_r (mem_r (mem_r (mem_r (mem_r (mem_r (mem_r (mem_r (mem_r (mem_r (mem_r (mem_r (mem_r (mem_r (mem_r (mem_r (mem_r (mem_r (mem_r (mem_r (mem_r (mem_r (mem_r (mem_r (mem_r (mem_r (mem_r (mem_r (mem_l h))))))))))))))))))))))))))))))))))))))))))))
theorem wsL_law_r32_big : ∀ w ∈ wsL_law_r32, w ∈ wsL_law := fun w h => (mem_l (mem_l (mem_l (mem_l (mem_l (mem_l (mem_l (mem_l (mem_l (mem_l (mem_l (mem_l (mem_l (mem_r (mem_r (mem_r (mem_r (mem_r (mem_r (mem_r (mem_r (mem_r (mem_r (mem_r (mem_r (mem_r (mem_r (mem_r (mem_r (mem_r (mem_r (mem_r (mem_r (mem_r (mem_r (mem_r (mem_r (mem_r (mem_r (mem_r (mem_r (mem_r (mem_r (mem_r (mem_l h)))))))))))))))))))))))))))))))))))))))))))))
theorem wsL_law_r33_big : ∀ w ∈ wsL_law_r33, w ∈ wsL_law := fun w h => (mem_l (mem_l (mem_l (mem_l (mem_l (mem_l (mem_l (mem_l (mem_l (mem_l (mem_l (mem_l (mem_l (mem_r (mem_r (mem_r (mem_r (mem_r (mem_r (mem_r (mem_r (mem_r (mem_r (mem_r (mem_r (mem_r (mem_r (mem_r (mem_r (mem_r (mem_r (mem_r (mem_r (mem_r (mem_r (mem_r (mem_r (mem_r (mem_r (mem_r (mem_r (mem_r (mem_r (mem_r (mem_r (mem_l h))))))))))))))))))))))))))))))))))))))))))))))
theorem wsL_law_r34_big : ∀ w ∈ wsL_law_r34, w ∈ wsL_law := fun w h => (mem_l (mem_l (mem_l (mem_l (mem_l (mem_l (mem_l (mem_l (mem_l (mem_l (mem_l (mem_l (mem_l (mem_r (mem_r (mem_r (mem_r (mem_r (mem_r (mem_r (mem_r (mem_r (mem_r (mem_r (mem_r (mem_r (mem_r (mem_r (mem_r (mem_r (mem_r (mem_r (mem_r (mem_r (mem_r (mem_r (mem_r (mem_r (mem_r (mem_r (mem_r (mem_r (mem_r (mem_r (mem_r (mem_r (mem_l h)))))))))))))))))))))))))))))))))))))))))))))))
theorem wsL_law_r35_big : ∀ w ∈ wsL_law_r35, w ∈ wsL_law := fun w h => (mem_l (mem_l (mem_l (mem_l (mem_l (mem_l (mem_l (mem_l (mem_l (mem_l (mem_l (mem_l (mem_l (mem_r (mem_r (mem_r (mem_r (mem_r (mem_r (mem_r (mem_r (mem_r (mem_r (mem_r (mem_r (mem_r (mem_r (mem_r (mem_r (mem_r (mem_r (mem_r (mem_r (mem_r (mem_r (mem_r (mem_r (mem_r (mem_r (mem_r (mem_r (mem_r (mem_r (mem_r (mem_r (mem_r (mem_r (mem_l h))))))))))))))))))))))))))))))))))))))))))))))))
theorem wsL_law_r36_big : ∀ w ∈ wsL_law_r36, w ∈ wsL_law := fun w h => (mem_l (mem_l (mem_l (mem_l (mem_l (mem_l (mem_l (mem_l (mem_l (mem_l (mem_l (mem_l (mem_l (mem_r (mem_r (mem_r (mem_r (mem_r (mem_r (mem_r (mem_r (mem_r (mem_r (mem_r (mem_r (mem_r (mem_r (mem_r (mem_r (mem_r (mem_r (mem_r (mem_r (mem_r (mem_r (mem_r (mem_r (mem_r (mem_r (mem_r (mem_r (mem_r (mem_r (mem_r (mem_r (mem_r (mem_r (mem_r (mem_l h)))))))))))))))))))))))))))))))))))))))))))))))))
theorem wsL_law_r37_big : ∀ w ∈ wsL_law_r37, w ∈ wsL_law := fun w h => (mem_l (mem_l (mem_l (mem_l (mem_l (mem_l (mem_l (mem_l (mem_l (mem_l (mem_l (mem_l (mem_l (mem_r (mem_r (mem_r (mem_r (mem_r (mem_r (mem_r (mem_r (mem_r (mem_r (mem_r (mem_r (mem_r (mem_r (mem_r (mem_r (mem_r (mem_r (mem_r (mem_r (mem_r (mem_r (mem_r (mem_r (mem_r (mem_r (mem_r (mem_r (mem_r (mem_r (mem_r (mem_r (mem_r (mem_r (mem_r (mem_r (mem_l h))))))))))))))))))))))))))))))))))))))))))))))))))
theorem wsL_law_r38_big : ∀ w ∈ wsL_law_r38, w ∈ wsL_law := fun w h => (mem_l (mem_l (mem_l (mem_l (mem_l (mem_l (mem_l (mem_l (mem_l (mem_l (mem_l (mem_l (mem_l (mem_r (mem_r (mem_r (mem_r (mem_r (mem_r (mem_r (mem_r (mem_r (mem_r (mem_r (mem_r (mem_r (mem_r (mem_r (mem_r (mem_r (mem_r (mem_r (mem_r (mem_r (mem_r (mem_r (mem_r (mem_r (mem_r (mem_r (mem_r (mem_r (mem_r (mem_r (mem_r (mem_r (mem_r (mem_r (mem_r (mem_r (mem_l h)))))))))))))))))))))))))))))))))))))))))))))))))))
theorem wsL_law_r39_big : ∀ w ∈ wsL_law_r39, w ∈ wsL_law := fun w h => (mem_l (mem_l (mem_l (mem_l (mem_l (mem_l (mem_l (mem_l (mem_l (mem_l (mem_l (mem_l (mem_l (mem_r (mem_r (mem_r (mem_r (mem_r (mem_r (mem_r (mem_r (mem_r (mem_r (mem_r (mem_r (mem_r (mem_r (mem_r (mem_r (mem_r (mem_r (mem_r (mem_r (mem_r (mem_r (mem_r (mem_r (mem_r (mem_r (mem_r (mem_r (mem_r (mem_r (mem_r (mem_r (mem_r (mem_r (mem_r (mem_r (mem_r (mem_r (mem_l h))))))))))))))))))))))))))))))))))))))))))))))))))))
theorem wsL_law_r40_big : ∀ w ∈ wsL_law_r40, w ∈ wsL_law := fun w h => (mem_l (mem_l (mem_l (mem_l (mem_l (mem_l (mem_l (mem_l (mem_l (mem_l (mem_l (mem_l (mem_l (mem_r (mem_r (mem_r (mem_r (mem_r (mem_r (mem_r (mem_r (mem_r (mem_r (mem_r (mem_r (mem_r (mem_r (mem_r (mem_r (mem_r (mem_r (mem_r (mem_r (mem_r (mem_r (mem_r (mem_r (mem_r (mem_r (mem_r (mem_r (mem_r (mem_r (mem_r (mem_r (mem_r (mem_r (mem_r (mem_r (mem_r (mem_r (mem_r (mem_l h)))))))))))))))))))))))))))))))))))))))))))))))))))))
theorem wsL_law_r41_big : ∀ w ∈ wsL_law_r41, w ∈ wsL_law := fun w h => (mem_l (mem_l (mem_l (mem_l (mem_l (mem_l (mem_l (mem_l (mem_l (mem_l (mem_l (mem_l (mem_l (mem_r (mem_r (mem_r (mem_r (mem_r (mem_r (mem_r (mem_r (mem_r (mem_r (mem_r (mem_r (mem_r (mem_r (mem_r (mem_r (mem_r (mem_r (mem_r (mem_r (mem_r (mem_r (mem_r (mem_r (mem_r (mem_r (mem_r (mem_r (mem_r (mem_r (mem_r (mem_r (mem_r (mem_r (mem_r (mem_r (mem_r (mem_r (mem_r (mem_r (mem_l h))))))))))))))))))))))))))))))))))))))))))))))))))))))
theorem wsL_law_r42_big : ∀ w ∈ wsL_law_r42, w ∈ wsL_law := fun w h => (mem_l (mem_l (mem_l (mem_l (mem_l (mem_l (mem_l (mem_l (mem_l (mem_l (mem_l (mem_l (mem_l (mem_r (mem_r (mem_r (mem_r (mem_r (mem_r (mem_r (mem_r (mem_r (mem_r (mem_r (mem_r (mem_r (mem_r (mem_r (mem_r (mem_r (mem_r (mem_r (mem_r (mem_r (mem_r (mem_r (mem_r (mem_r (mem_r (mem_r (mem_r (mem_r (mem_r (mem_r (mem_r (mem_r (mem_r (mem_r (mem_r (mem_r (mem_r (mem_r (mem_r (mem_r (mem_l h)))))))))))))))))))))))))))))))))))))))))))))))))))))))
theorem wsL_law_r43_big : ∀ w ∈ wsL_law_r43, w ∈ wsL_law := fun w h => (mem_l (mem_l (mem_l (mem_l (mem_l (mem_l (mem_l (mem_l (mem_l (mem_l (mem_l (mem_l (mem_l (mem_r (mem_r (mem_r (mem_r (mem_r (mem_r (mem_r (mem_r (mem_r (mem_r (mem_r (mem_r (mem_r (mem_r (mem_r (mem_r (mem_r (mem_r (mem_r (mem_r (mem_r (mem_r (mem_r (mem_r (mem_r (mem_r (mem_r (mem_r (mem_r (mem_r (mem_r (mem_r (mem_r (mem_r (mem_r (mem_r (mem_r (mem_r (mem_r (mem_r (mem_r (mem_r (mem_l h))))))))))))))))))))))))))))))))))))))))))))))))))))))))
theorem wsL_law_r44_big : ∀ w ∈ wsL_law_r44, w ∈ wsL_law := fun w h => (mem_l (mem_l (mem_l (mem_l (mem_l (mem_l (mem_l (mem_l (mem_l (mem_l (mem_l (mem_l (mem_l (mem_r (mem_r (mem_r (mem_r (mem_r (mem_r (mem_r (mem_r (mem_r (mem_r (mem_r (mem_r (mem_r (mem_r (mem_r (mem_r (mem_r (mem_r (mem_r (mem_r (mem_r (mem_r (mem_r (mem_r (mem_r (mem_r (mem_r (mem_r (mem_r (mem_r (mem_r (mem_r (mem_r (mem_r (mem_r (mem_r (mem_r (mem_r (mem_r (mem_r (mem_r (mem_r (mem_r (mem_l h)))))))))))))))))))))))))))))))))))))))))))))))))))))))))
theorem wsL_law_r45_big : ∀ w ∈ wsL_law_r45, w ∈ wsL_law := fun w h => (mem_l (mem_l (mem_l (mem_l (mem_l (mem_l (mem_l (mem_l (mem_l (mem_l (mem_l (mem_l (mem_l (mem_r (mem_r (mem_r (mem_r (mem_r (mem_r (mem_r (mem_r (mem_r (mem_r (mem_r (mem_r (mem_r (mem_r (mem_r (mem_r (mem_r (mem_r (mem_r (mem_r (mem_r (mem_r (mem_r (mem_r (mem_r (mem_r (mem_r (mem_r (mem_r (mem_r (mem_r (mem_r (mem_r (mem_r (mem_r (mem_r (mem_r (mem_r (mem_r (mem_r (mem_r (mem_r (mem_r (mem_r (mem_l h))))))))))))))))))))))))))))))))))))))))))))))))))))))))))
theorem wsL_law_r46_big : ∀ w ∈ wsL_law_r46, w ∈ wsL_law := fun w h => (mem_l (mem_l (mem_l (mem_l (mem_l (mem_l (mem_l (mem_l (mem_l (mem_l (mem_l (mem_l (mem_l (mem_r (mem_r (mem_r (mem_r (mem_r (mem_r (mem_r (mem_r (mem_r (mem_r (mem_r (mem_r (mem_r (mem_r (mem_r (mem_r (mem_r (mem_r (mem_r (mem_r (mem_r (mem_r (mem_r (mem_r (mem_r (mem_r (mem_r (mem_r (mem_r (mem_r (mem_r (mem_r (mem_r (mem_r (mem_r (mem_r (mem_r (mem_r (mem_r (mem_r (mem_r (mem_r (mem_r (mem_r (mem_r h))))))))))))))))))))))))))))))))))))))))))))))))))))))))))
theorem bw_14_11 : Cond.fieldLink RX11 40 "NewsDraughtsModel" "readOpen" "[I" ∈ wsL_law := wsL_law_r14_big _ (List.mem_of_getElem? (i := 11) rfl)
theorem bw_14_10 : Cond.fieldLink RX11 37 "NewsDraughtsModel" "readKind" "[I" ∈ wsL_law := wsL_law_r14_big _ (List.mem_of_getElem? (i := 10) rfl)
theorem bw_14_23 : Cond.fieldLink RX11 69 "NewsDraughtsModel" "readNewsMany" "I" ∈ wsL_law := wsL_law_r14_big _ (List.mem_of_getElem? (i := 23) rfl)
theorem bw_14_12 : Cond.fieldLink RX11 43 "NewsDraughtsModel" "readNews" "[I" ∈ wsL_law := wsL_law_r14_big _ (List.mem_of_getElem? (i := 12) rfl)
theorem bw_16_9 : Cond.methodLink RX11 75 yX11_in ∈ wsL_law := wsL_law_r16_big _ (List.mem_of_getElem? (i := 9) rfl)
theorem bw_15_14 : Cond.fieldLink RX11 72 "NewsDraughtsModel" "houses" "I" ∈ wsL_law := wsL_law_r15_big _ (List.mem_of_getElem? (i := 14) rfl)
theorem bw_15_15 : Cond.fieldLink RX11 79 "NewsDraughtsModel" "newsMany" "I" ∈ wsL_law := wsL_law_r15_big _ (List.mem_of_getElem? (i := 15) rfl)
theorem bw_16_8 : Cond.fieldLink RX11 82 "NewsDraughtsModel" "texted" "I" ∈ wsL_law := wsL_law_r16_big _ (List.mem_of_getElem? (i := 8) rfl)
theorem bw_14_8 : Cond.fieldLink RX11 31 "NewsDraughtsModel" "text" "[I" ∈ wsL_law := wsL_law_r14_big _ (List.mem_of_getElem? (i := 8) rfl)
theorem bw_17_4 : Cond.fieldLink RX11 85 "NewsDraughtsModel" "at" "I" ∈ wsL_law := wsL_law_r17_big _ (List.mem_of_getElem? (i := 4) rfl)
theorem bw_17_9 : Cond.methodLink RX11 88 yX11_letterAt ∈ wsL_law := wsL_law_r17_big _ (List.mem_of_getElem? (i := 9) rfl)
theorem bw_14_9 : Cond.fieldLink RX11 34 "NewsDraughtsModel" "told" "[I" ∈ wsL_law := wsL_law_r14_big _ (List.mem_of_getElem? (i := 9) rfl)
theorem bw_17_21 : Cond.methodLink RX11 92 yX11_isFigure ∈ wsL_law := wsL_law_r17_big _ (List.mem_of_getElem? (i := 21) rfl)
theorem bw_14_15 : Cond.fieldLink RX11 62 "NewsDraughtsModel" "readWinds" "I" ∈ wsL_law := wsL_law_r14_big _ (List.mem_of_getElem? (i := 15) rfl)
theorem bw_14_22 : Cond.fieldLink RX11 103 "NewsDraughtsModel" "readColumns" "I" ∈ wsL_law := wsL_law_r14_big _ (List.mem_of_getElem? (i := 22) rfl)
theorem bw_14_21 : Cond.fieldLink RX11 100 "NewsDraughtsModel" "readRows" "I" ∈ wsL_law := wsL_law_r14_big _ (List.mem_of_getElem? (i := 21) rfl)
theorem bw_14_20 : Cond.fieldLink RX11 96 "NewsDraughtsModel" "isBegun" "Z" ∈ wsL_law := wsL_law_r14_big _ (List.mem_of_getElem? (i := 20) rfl)
theorem bw_18_0 : Cond.methodLink RX11 109 yX11_isTold ∈ wsL_law := wsL_law_r18_big _ (List.mem_of_getElem? (i := 0) rfl)
theorem bw_17_17 : Cond.methodLink RX11 106 yX11_readNumbers ∈ wsL_law := wsL_law_r17_big _ (List.mem_of_getElem? (i := 17) rfl)
theorem bw_15_0 : Cond.methodLink RX11 55 yX11_tellsHouse ∈ wsL_law := wsL_law_r15_big _ (List.mem_of_getElem? (i := 0) rfl)
theorem bw_18_8 : Cond.methodLink RX11 112 yX11_lastTold ∈ wsL_law := wsL_law_r18_big _ (List.mem_of_getElem? (i := 8) rfl)
theorem bw_15_4 : Cond.methodLink RX11 59 yX11_tellsNews ∈ wsL_law := wsL_law_r15_big _ (List.mem_of_getElem? (i := 4) rfl)
theorem bw_14_13 : Cond.fieldLink RX11 46 "NewsDraughtsModel" "readWind" "[I" ∈ wsL_law := wsL_law_r14_big _ (List.mem_of_getElem? (i := 13) rfl)
theorem bw_18_4 : Cond.methodLink RX11 120 yX11_readHouseOf ∈ wsL_law := wsL_law_r18_big _ (List.mem_of_getElem? (i := 4) rfl)
theorem bw_18_12 : Cond.methodLink RX11 123 yX11_readNewsOf ∈ wsL_law := wsL_law_r18_big _ (List.mem_of_getElem? (i := 12) rfl)
theorem bw_18_16 : Cond.methodLink RX11 126 yX11_readWindOf ∈ wsL_law := wsL_law_r18_big _ (List.mem_of_getElem? (i := 16) rfl)
theorem bw_17_13 : Cond.methodLink RX11 116 yX11_readGridOf ∈ wsL_law := wsL_law_r17_big _ (List.mem_of_getElem? (i := 13) rfl)
theorem bw_17_5 : Cond.methodLink RX11 129 yX11_readItem ∈ wsL_law := wsL_law_r17_big _ (List.mem_of_getElem? (i := 5) rfl)
theorem bw_14_16 : Cond.methodLink RX11 52 yX11_clearTold ∈ wsL_law := wsL_law_r14_big _ (List.mem_of_getElem? (i := 16) rfl)
theorem bw_15_19 : Cond.fieldLink RX11 154 "NewsDraughtsModel" "sees" "I" ∈ wsL_law := wsL_law_r15_big _ (List.mem_of_getElem? (i := 19) rfl)
theorem bw_15_18 : Cond.fieldLink RX11 151 "NewsDraughtsModel" "keeps" "I" ∈ wsL_law := wsL_law_r15_big _ (List.mem_of_getElem? (i := 18) rfl)
theorem bw_15_17 : Cond.fieldLink RX11 148 "NewsDraughtsModel" "acts" "I" ∈ wsL_law := wsL_law_r15_big _ (List.mem_of_getElem? (i := 17) rfl)
theorem bw_14_2 : Cond.fieldLink RX11 13 "NewsDraughtsModel" "news" "[I" ∈ wsL_law := wsL_law_r14_big _ (List.mem_of_getElem? (i := 2) rfl)
theorem bw_14_4 : Cond.fieldLink RX11 19 "NewsDraughtsModel" "st" "[I" ∈ wsL_law := wsL_law_r14_big _ (List.mem_of_getElem? (i := 4) rfl)
theorem bw_15_20 : Cond.methodLink RX11 141 yX11_copies ∈ wsL_law := wsL_law_r15_big _ (List.mem_of_getElem? (i := 20) rfl)
theorem bw_14_3 : Cond.fieldLink RX11 16 "NewsDraughtsModel" "winds" "[I" ∈ wsL_law := wsL_law_r14_big _ (List.mem_of_getElem? (i := 3) rfl)
theorem bw_15_16 : Cond.fieldLink RX11 145 "NewsDraughtsModel" "windMany" "I" ∈ wsL_law := wsL_law_r15_big _ (List.mem_of_getElem? (i := 16) rfl)
theorem bw_14_1 : Cond.fieldLink RX11 7 "NewsDraughtsModel" "kinds" "[I" ∈ wsL_law := wsL_law_r14_big _ (List.mem_of_getElem? (i := 1) rfl)
theorem bw_15_13 : Cond.fieldLink RX11 138 "NewsDraughtsModel" "columns" "I" ∈ wsL_law := wsL_law_r15_big _ (List.mem_of_getElem? (i := 13) rfl)
theorem bw_15_12 : Cond.fieldLink RX11 135 "NewsDraughtsModel" "rows" "I" ∈ wsL_law := wsL_law_r15_big _ (List.mem_of_getElem? (i := 12) rfl)
theorem bw_15_8 : Cond.methodLink RX11 66 yX11_settles ∈ wsL_law := wsL_law_r15_big _ (List.mem_of_getElem? (i := 8) rfl)
theorem bw_19_5 : Cond.methodLink RX11 132 yX11_fault ∈ wsL_law := wsL_law_r19_big _ (List.mem_of_getElem? (i := 5) rfl)
theorem bw_20_18 : Cond.fieldLink RX11 157 "NewsDraughtsModel" "only" "I" ∈ wsL_law := wsL_law_r20_big _ (List.mem_of_getElem? (i := 18) rfl)
theorem bw_14_14 : Cond.fieldLink RX11 49 "NewsDraughtsModel" "now" "[I" ∈ wsL_law := wsL_law_r14_big _ (List.mem_of_getElem? (i := 14) rfl)
theorem bw_20_14 : Cond.methodLink RX11 160 yX11_asItIs ∈ wsL_law := wsL_law_r20_big _ (List.mem_of_getElem? (i := 14) rfl)
theorem bw_28_4 : Cond.methodLink RX11 171 yX11_letsIn ∈ wsL_law := wsL_law_r28_big _ (List.mem_of_getElem? (i := 4) rfl)
theorem bw_20_23 : Cond.methodLink RX11 167 yX11_has ∈ wsL_law := wsL_law_r20_big _ (List.mem_of_getElem? (i := 23) rfl)
theorem bw_28_0 : Cond.methodLink RX11 163 yX11_beside ∈ wsL_law := wsL_law_r28_big _ (List.mem_of_getElem? (i := 0) rfl)
theorem bw_27_20 : Cond.methodLink RX11 177 yX11_blowsFrom ∈ wsL_law := wsL_law_r27_big _ (List.mem_of_getElem? (i := 20) rfl)
theorem bw_27_16 : Cond.methodLink RX11 174 yX11_letsOut ∈ wsL_law := wsL_law_r27_big _ (List.mem_of_getElem? (i := 16) rfl)
theorem bw_27_12 : Cond.methodLink RX11 184 yX11_goesBy ∈ wsL_law := wsL_law_r27_big _ (List.mem_of_getElem? (i := 12) rfl)
theorem bw_23_11 : Cond.methodLink RX11 181 yX11_windOf ∈ wsL_law := wsL_law_r23_big _ (List.mem_of_getElem? (i := 11) rfl)
theorem bw_20_19 : Cond.methodLink RX11 191 yX11_known ∈ wsL_law := wsL_law_r20_big _ (List.mem_of_getElem? (i := 19) rfl)
theorem bw_20_10 : Cond.methodLink RX11 188 yX11_isHouse ∈ wsL_law := wsL_law_r20_big _ (List.mem_of_getElem? (i := 10) rfl)
theorem bw_22_8 : Cond.methodLink RX11 197 yX11_bits ∈ wsL_law := wsL_law_r22_big _ (List.mem_of_getElem? (i := 8) rfl)
theorem bw_22_4 : Cond.methodLink RX11 194 yX11_isNews ∈ wsL_law := wsL_law_r22_big _ (List.mem_of_getElem? (i := 4) rfl)
theorem bw_14_5 : Cond.fieldLink RX11 22 "NewsDraughtsModel" "was" "[I" ∈ wsL_law := wsL_law_r14_big _ (List.mem_of_getElem? (i := 5) rfl)
theorem bw_27_8 : Cond.methodLink RX11 203 yX11_goes ∈ wsL_law := wsL_law_r27_big _ (List.mem_of_getElem? (i := 8) rfl)
theorem bw_27_4 : Cond.methodLink RX11 200 yX11_remembers ∈ wsL_law := wsL_law_r27_big _ (List.mem_of_getElem? (i := 4) rfl)
theorem bw_31_11 : Cond.methodLink RX11 209 yX11_knowsBehind ∈ wsL_law := wsL_law_r31_big _ (List.mem_of_getElem? (i := 11) rfl)
theorem bw_31_7 : Cond.methodLink RX11 206 yX11_asItIsOf ∈ wsL_law := wsL_law_r31_big _ (List.mem_of_getElem? (i := 7) rfl)
theorem bw_33_3 : Cond.methodLink RX11 212 yX11_isCutBy ∈ wsL_law := wsL_law_r33_big _ (List.mem_of_getElem? (i := 3) rfl)
theorem bw_35_19 : Cond.fieldLink RX11 218 "NewsDraughtsModel" "other" "I" ∈ wsL_law := wsL_law_r35_big _ (List.mem_of_getElem? (i := 19) rfl)
theorem bw_35_18 : Cond.fieldLink RX11 215 "NewsDraughtsModel" "one" "I" ∈ wsL_law := wsL_law_r35_big _ (List.mem_of_getElem? (i := 18) rfl)
theorem bw_36_0 : Cond.methodLink RX11 221 yX11_isSoBy ∈ wsL_law := wsL_law_r36_big _ (List.mem_of_getElem? (i := 0) rfl)
theorem bw_35_20 : Cond.methodLink RX11 225 yX11_findWay ∈ wsL_law := wsL_law_r35_big _ (List.mem_of_getElem? (i := 20) rfl)
theorem bw_36_22 : Cond.methodLink RX11 229 yX11_heavy ∈ wsL_law := wsL_law_r36_big _ (List.mem_of_getElem? (i := 22) rfl)
theorem bw_38_12 : Cond.methodLink RX11 232 yX11_knowsBy ∈ wsL_law := wsL_law_r38_big _ (List.mem_of_getElem? (i := 12) rfl)
theorem bw_38_8 : Cond.methodLink RX11 235 yX11_isWon ∈ wsL_law := wsL_law_r38_big _ (List.mem_of_getElem? (i := 8) rfl)
theorem bw_14_7 : Cond.fieldLink RX11 28 "NewsDraughtsModel" "seen" "[I" ∈ wsL_law := wsL_law_r14_big _ (List.mem_of_getElem? (i := 7) rfl)
theorem bw_40_19 : Cond.methodLink RX11 238 yX11_isSo ∈ wsL_law := wsL_law_r40_big _ (List.mem_of_getElem? (i := 19) rfl)
theorem bw_40_15 : Cond.methodLink RX11 241 yX11_isSoAll ∈ wsL_law := wsL_law_r40_big _ (List.mem_of_getElem? (i := 15) rfl)
theorem bw_44_7 : Cond.methodLink RX11 244 yX11_allKnown ∈ wsL_law := wsL_law_r44_big _ (List.mem_of_getElem? (i := 7) rfl)
theorem bw_44_11 : Cond.methodLink RX11 255 yX11_knowers ∈ wsL_law := wsL_law_r44_big _ (List.mem_of_getElem? (i := 11) rfl)
theorem bw_44_6 : Cond.constantLong RX11 253 (2) ∈ wsL_law := wsL_law_r44_big _ (List.mem_of_getElem? (i := 6) rfl)
theorem bw_44_5 : Cond.constantLong RX11 251 (65521) ∈ wsL_law := wsL_law_r44_big _ (List.mem_of_getElem? (i := 5) rfl)
theorem bw_44_4 : Cond.constantLong RX11 249 (6151) ∈ wsL_law := wsL_law_r44_big _ (List.mem_of_getElem? (i := 4) rfl)
theorem bw_44_3 : Cond.constantLong RX11 247 (7919) ∈ wsL_law := wsL_law_r44_big _ (List.mem_of_getElem? (i := 3) rfl)
theorem bw_14_6 : Cond.fieldLink RX11 25 "NewsDraughtsModel" "kept" "[I" ∈ wsL_law := wsL_law_r14_big _ (List.mem_of_getElem? (i := 6) rfl)
theorem bw_3_11 : Cond.fieldLink RX7 15 "NewsDraughts$Sheet" "length" "I" ∈ wsL_law := wsL_law_r3_big _ (List.mem_of_getElem? (i := 11) rfl)
theorem bw_3_10 : Cond.fieldLink RX7 9 "NewsDraughts$Sheet" "letters" "[I" ∈ wsL_law := wsL_law_r3_big _ (List.mem_of_getElem? (i := 10) rfl)
theorem bw_16_3 : Cond.methodLink RX10 122 yX7_length ∈ wsL_law := wsL_law_r16_big _ (List.mem_of_getElem? (i := 3) rfl)
theorem bw_1_15 : Cond.fieldLink RX10 10 "NewsDraughts" "sheet" "LNewsDraughts$Sheet;" ∈ wsL_law := wsL_law_r1_big _ (List.mem_of_getElem? (i := 15) rfl)
theorem bw_9_9 : Cond.methodLink RX10 107 yX7_add ∈ wsL_law := wsL_law_r9_big _ (List.mem_of_getElem? (i := 9) rfl)
theorem bw_12_4 : Cond.methodLink RX10 118 yX10_within ∈ wsL_law := wsL_law_r12_big _ (List.mem_of_getElem? (i := 4) rfl)
theorem bw_13_17 : Cond.methodLink RX10 115 yX7_clear ∈ wsL_law := wsL_law_r13_big _ (List.mem_of_getElem? (i := 17) rfl)
theorem bw_4_7 : Cond.fieldLink RX4 40 "NewsDraughts$Parish" "lastColumn" "I" ∈ wsL_law := wsL_law_r4_big _ (List.mem_of_getElem? (i := 7) rfl)
theorem bw_4_5 : Cond.fieldLink RX4 34 "NewsDraughts$Parish" "columns" "I" ∈ wsL_law := wsL_law_r4_big _ (List.mem_of_getElem? (i := 5) rfl)
theorem bw_4_6 : Cond.fieldLink RX4 37 "NewsDraughts$Parish" "firstColumn" "I" ∈ wsL_law := wsL_law_r4_big _ (List.mem_of_getElem? (i := 6) rfl)
theorem bw_4_4 : Cond.fieldLink RX4 30 "NewsDraughts$Parish" "rows" "I" ∈ wsL_law := wsL_law_r4_big _ (List.mem_of_getElem? (i := 4) rfl)
theorem bw_10_5 : Cond.methodLink RX4 57 yX4_takeGrid ∈ wsL_law := wsL_law_r10_big _ (List.mem_of_getElem? (i := 5) rfl)
theorem bw_4_10 : Cond.fieldLink RX4 49 "NewsDraughts$Parish" "gridsAlone" "Z" ∈ wsL_law := wsL_law_r4_big _ (List.mem_of_getElem? (i := 10) rfl)
theorem bw_4_9 : Cond.fieldLink RX4 46 "NewsDraughts$Parish" "windsTold" "I" ∈ wsL_law := wsL_law_r4_big _ (List.mem_of_getElem? (i := 9) rfl)
theorem bw_4_8 : Cond.fieldLink RX4 43 "NewsDraughts$Parish" "newsTold" "I" ∈ wsL_law := wsL_law_r4_big _ (List.mem_of_getElem? (i := 8) rfl)
theorem bw_4_3 : Cond.fieldLink RX4 27 "NewsDraughts$Parish" "winds" "[I" ∈ wsL_law := wsL_law_r4_big _ (List.mem_of_getElem? (i := 3) rfl)
theorem bw_3_23 : Cond.fieldLink RX4 15 "NewsDraughts$Parish" "sashes" "[I" ∈ wsL_law := wsL_law_r3_big _ (List.mem_of_getElem? (i := 23) rfl)
theorem bw_3_22 : Cond.fieldLink RX4 9 "NewsDraughts$Parish" "kinds" "[I" ∈ wsL_law := wsL_law_r3_big _ (List.mem_of_getElem? (i := 22) rfl)
theorem bw_3_17 : Cond.fieldLink RX6 15 "NewsDraughts$Reader" "place" "I" ∈ wsL_law := wsL_law_r3_big _ (List.mem_of_getElem? (i := 17) rfl)
theorem bw_11_7 : Cond.methodLink RX6 52 yX6_isFigure ∈ wsL_law := wsL_law_r11_big _ (List.mem_of_getElem? (i := 7) rfl)
theorem bw_11_1 : Cond.methodLink RX6 37 yX7_letterAt ∈ wsL_law := wsL_law_r11_big _ (List.mem_of_getElem? (i := 1) rfl)
theorem bw_3_18 : Cond.fieldLink RX6 19 "NewsDraughts$Reader" "sheet" "LNewsDraughts$Sheet;" ∈ wsL_law := wsL_law_r3_big _ (List.mem_of_getElem? (i := 18) rfl)
theorem bw_3_16 : Cond.fieldLink RX6 9 "NewsDraughts$Reader" "numbers" "[I" ∈ wsL_law := wsL_law_r3_big _ (List.mem_of_getElem? (i := 16) rfl)
theorem bw_10_21 : Cond.methodLink RX6 45 yX6_readNumber ∈ wsL_law := wsL_law_r10_big _ (List.mem_of_getElem? (i := 21) rfl)
theorem bw_11_22 : Cond.methodLink RX4 93 yX4_houses ∈ wsL_law := wsL_law_r11_big _ (List.mem_of_getElem? (i := 22) rfl)
theorem bw_11_18 : Cond.methodLink RX4 83 yX4_hasHouse ∈ wsL_law := wsL_law_r11_big _ (List.mem_of_getElem? (i := 18) rfl)
theorem bw_11_14 : Cond.methodLink RX4 65 yX4_takeHouse ∈ wsL_law := wsL_law_r11_big _ (List.mem_of_getElem? (i := 14) rfl)
theorem bw_4_2 : Cond.fieldLink RX4 24 "NewsDraughts$Parish" "beginnings" "[I" ∈ wsL_law := wsL_law_r4_big _ (List.mem_of_getElem? (i := 2) rfl)
theorem bw_4_1 : Cond.fieldLink RX4 21 "NewsDraughts$Parish" "weights" "[I" ∈ wsL_law := wsL_law_r4_big _ (List.mem_of_getElem? (i := 1) rfl)
theorem bw_4_0 : Cond.fieldLink RX4 18 "NewsDraughts$Parish" "newsKinds" "[I" ∈ wsL_law := wsL_law_r4_big _ (List.mem_of_getElem? (i := 0) rfl)
theorem bw_12_5 : Cond.methodLink RX4 69 yX4_takeNews ∈ wsL_law := wsL_law_r12_big _ (List.mem_of_getElem? (i := 5) rfl)
theorem bw_12_9 : Cond.methodLink RX4 72 yX4_takeWind ∈ wsL_law := wsL_law_r12_big _ (List.mem_of_getElem? (i := 9) rfl)
theorem bw_11_10 : Cond.methodLink RX6 41 yX4_take ∈ wsL_law := wsL_law_r11_big _ (List.mem_of_getElem? (i := 10) rfl)
theorem bw_10_17 : Cond.methodLink RX6 34 yX6_readNumbers ∈ wsL_law := wsL_law_r10_big _ (List.mem_of_getElem? (i := 17) rfl)
theorem bw_10_13 : Cond.methodLink RX6 28 yX7_length ∈ wsL_law := wsL_law_r10_big _ (List.mem_of_getElem? (i := 13) rfl)
theorem bw_9_23 : Cond.methodLink RX6 23 yX4_clear ∈ wsL_law := wsL_law_r9_big _ (List.mem_of_getElem? (i := 23) rfl)
theorem bw_9_19 : Cond.methodLink RX10 123 yX6_readInto ∈ wsL_law := wsL_law_r9_big _ (List.mem_of_getElem? (i := 19) rfl)
theorem bw_1_23 : Cond.fieldLink RX10 28 "NewsDraughts" "draft" "LNewsDraughts$Parish;" ∈ wsL_law := wsL_law_r1_big _ (List.mem_of_getElem? (i := 23) rfl)
theorem bw_1_19 : Cond.fieldLink RX10 21 "NewsDraughts" "reader" "LNewsDraughts$Reader;" ∈ wsL_law := wsL_law_r1_big _ (List.mem_of_getElem? (i := 19) rfl)
theorem bw_4_16 : Cond.fieldLink RX9 18 "NewsDraughts$Standing" "stepsGone" "I" ∈ wsL_law := wsL_law_r4_big _ (List.mem_of_getElem? (i := 16) rfl)
theorem bw_13_5 : Cond.methodLink RX9 36 yX4_beginningOf ∈ wsL_law := wsL_law_r13_big _ (List.mem_of_getElem? (i := 5) rfl)
theorem bw_13_1 : Cond.methodLink RX9 32 yX4_hasNews ∈ wsL_law := wsL_law_r13_big _ (List.mem_of_getElem? (i := 1) rfl)
theorem bw_4_15 : Cond.fieldLink RX9 15 "NewsDraughts$Standing" "whoKnows" "[I" ∈ wsL_law := wsL_law_r4_big _ (List.mem_of_getElem? (i := 15) rfl)
theorem bw_12_21 : Cond.methodLink RX9 22 yX4_sashOf ∈ wsL_law := wsL_law_r12_big _ (List.mem_of_getElem? (i := 21) rfl)
theorem bw_4_14 : Cond.fieldLink RX9 9 "NewsDraughts$Standing" "sashes" "[I" ∈ wsL_law := wsL_law_r4_big _ (List.mem_of_getElem? (i := 14) rfl)
theorem bw_4_22 : Cond.fieldLink RX5 13 "NewsDraughts$Pile" "size" "I" ∈ wsL_law := wsL_law_r4_big _ (List.mem_of_getElem? (i := 22) rfl)
theorem bw_7_5 : Cond.fieldLink RX8 24 "NewsDraughts$Sightings" "size" "I" ∈ wsL_law := wsL_law_r7_big _ (List.mem_of_getElem? (i := 5) rfl)
theorem bw_13_13 : Cond.methodLink RX10 258 yX8_clear ∈ wsL_law := wsL_law_r13_big _ (List.mem_of_getElem? (i := 13) rfl)
theorem bw_3_5 : Cond.fieldLink RX10 91 "NewsDraughts" "sightings" "LNewsDraughts$Sightings;" ∈ wsL_law := wsL_law_r3_big _ (List.mem_of_getElem? (i := 5) rfl)
theorem bw_13_9 : Cond.methodLink RX10 283 yX5_clear ∈ wsL_law := wsL_law_r13_big _ (List.mem_of_getElem? (i := 9) rfl)
theorem bw_2_9 : Cond.fieldLink RX10 51 "NewsDraughts" "kept" "LNewsDraughts$Pile;" ∈ wsL_law := wsL_law_r2_big _ (List.mem_of_getElem? (i := 9) rfl)
theorem bw_2_8 : Cond.fieldLink RX10 47 "NewsDraughts" "undone" "LNewsDraughts$Pile;" ∈ wsL_law := wsL_law_r2_big _ (List.mem_of_getElem? (i := 8) rfl)
theorem bw_12_17 : Cond.methodLink RX10 293 yX9_begin ∈ wsL_law := wsL_law_r12_big _ (List.mem_of_getElem? (i := 17) rfl)
theorem bw_2_0 : Cond.fieldLink RX10 32 "NewsDraughts" "parish" "LNewsDraughts$Parish;" ∈ wsL_law := wsL_law_r2_big _ (List.mem_of_getElem? (i := 0) rfl)
theorem bw_2_4 : Cond.fieldLink RX10 38 "NewsDraughts" "now" "LNewsDraughts$Standing;" ∈ wsL_law := wsL_law_r2_big _ (List.mem_of_getElem? (i := 4) rfl)
theorem bw_12_13 : Cond.methodLink RX10 173 yX4_newsTold ∈ wsL_law := wsL_law_r12_big _ (List.mem_of_getElem? (i := 13) rfl)
theorem bw_19_0 : Cond.methodLink RX10 127 yX4_houses ∈ wsL_law := wsL_law_r19_big _ (List.mem_of_getElem? (i := 0) rfl)
theorem bw_9_15 : Cond.methodLink RX10 111 yX10_layText ∈ wsL_law := wsL_law_r9_big _ (List.mem_of_getElem? (i := 15) rfl)
theorem bw_19_11 : Cond.methodLink RX10 133 yX4_kindOf ∈ wsL_law := wsL_law_r19_big _ (List.mem_of_getElem? (i := 11) rfl)
theorem bw_19_15 : Cond.methodLink RX10 137 yX9_sashOf ∈ wsL_law := wsL_law_r19_big _ (List.mem_of_getElem? (i := 15) rfl)
theorem bw_20_5 : Cond.methodLink RX10 202 yX10_bit ∈ wsL_law := wsL_law_r20_big _ (List.mem_of_getElem? (i := 5) rfl)
theorem bw_19_23 : Cond.methodLink RX9 50 yX9_whoKnows ∈ wsL_law := wsL_law_r19_big _ (List.mem_of_getElem? (i := 23) rfl)
theorem bw_19_19 : Cond.methodLink RX10 140 yX9_knownIn ∈ wsL_law := wsL_law_r19_big _ (List.mem_of_getElem? (i := 19) rfl)
theorem bw_19_10 : Cond.methodLink RX10 130 yX4_hasHouse ∈ wsL_law := wsL_law_r19_big _ (List.mem_of_getElem? (i := 10) rfl)
theorem bw_21_7 : Cond.methodLink RX10 146 yX4_newsKindOf ∈ wsL_law := wsL_law_r21_big _ (List.mem_of_getElem? (i := 7) rfl)
theorem bw_21_11 : Cond.methodLink RX10 149 yX4_weightOf ∈ wsL_law := wsL_law_r21_big _ (List.mem_of_getElem? (i := 11) rfl)
theorem bw_21_15 : Cond.methodLink RX10 152 yX4_beginningOf ∈ wsL_law := wsL_law_r21_big _ (List.mem_of_getElem? (i := 15) rfl)
theorem bw_21_23 : Cond.constant RJ6 267 (252645135) ∈ wsL_law := wsL_law_r21_big _ (List.mem_of_getElem? (i := 23) rfl)
theorem bw_21_22 : Cond.constant RJ6 266 (858993459) ∈ wsL_law := wsL_law_r21_big _ (List.mem_of_getElem? (i := 22) rfl)
theorem bw_21_21 : Cond.constant RJ6 265 (1431655765) ∈ wsL_law := wsL_law_r21_big _ (List.mem_of_getElem? (i := 21) rfl)
theorem bw_21_17 : Cond.methodLink RX10 158 yJ6_bitCount_0f7a4 ∈ wsL_law := wsL_law_r21_big _ (List.mem_of_getElem? (i := 17) rfl)
theorem bw_21_16 : Cond.methodLink RX10 155 yX9_whoKnows ∈ wsL_law := wsL_law_r21_big _ (List.mem_of_getElem? (i := 16) rfl)
theorem bw_21_6 : Cond.methodLink RX10 143 yX4_hasNews ∈ wsL_law := wsL_law_r21_big _ (List.mem_of_getElem? (i := 6) rfl)
theorem bw_23_3 : Cond.methodLink RX4 103 yJ9_floorMod_7cf53 ∈ wsL_law := wsL_law_r23_big _ (List.mem_of_getElem? (i := 3) rfl)
theorem bw_22_23 : Cond.methodLink RX4 100 yX4_windsInTurn ∈ wsL_law := wsL_law_r22_big _ (List.mem_of_getElem? (i := 23) rfl)
theorem bw_22_19 : Cond.methodLink RX10 166 yX4_windOf ∈ wsL_law := wsL_law_r22_big _ (List.mem_of_getElem? (i := 19) rfl)
theorem bw_22_15 : Cond.methodLink RX10 163 yX9_stepsGone ∈ wsL_law := wsL_law_r22_big _ (List.mem_of_getElem? (i := 15) rfl)
theorem bw_5_0 : Cond.fieldLink RX5 18 "NewsDraughts$Pile" "places" "[LNewsDraughts$Standing;" ∈ wsL_law := wsL_law_r5_big _ (List.mem_of_getElem? (i := 0) rfl)
theorem bw_24_3 : Cond.methodLink RX5 35 yJ9_floorMod_7cf53 ∈ wsL_law := wsL_law_r24_big _ (List.mem_of_getElem? (i := 3) rfl)
theorem bw_4_21 : Cond.fieldLink RX5 7 "NewsDraughts$Pile" "lowest" "I" ∈ wsL_law := wsL_law_r4_big _ (List.mem_of_getElem? (i := 21) rfl)
theorem bw_24_10 : Cond.methodLink RX10 297 yX10_at ∈ wsL_law := wsL_law_r24_big _ (List.mem_of_getElem? (i := 10) rfl)
theorem bw_24_11 : Cond.methodLink RX5 31 yX5_isFull ∈ wsL_law := wsL_law_r24_big _ (List.mem_of_getElem? (i := 11) rfl)
theorem bw_24_4 : Cond.methodLink RX5 27 yX9_copyOf ∈ wsL_law := wsL_law_r24_big _ (List.mem_of_getElem? (i := 4) rfl)
theorem bw_23_23 : Cond.methodLink RX5 23 yX5_placeOf ∈ wsL_law := wsL_law_r23_big _ (List.mem_of_getElem? (i := 23) rfl)
theorem bw_26_20 : Cond.methodLink RX10 189 yX9_goOn ∈ wsL_law := wsL_law_r26_big _ (List.mem_of_getElem? (i := 20) rfl)
theorem bw_5_6 : Cond.fieldLink RX1 15 "NewsDraughts$Draught" "needed" "[I" ∈ wsL_law := wsL_law_r5_big _ (List.mem_of_getElem? (i := 6) rfl)
theorem bw_5_10 : Cond.fieldLink RX1 28 "NewsDraughts$Draught" "openToGossips" "I" ∈ wsL_law := wsL_law_r5_big _ (List.mem_of_getElem? (i := 10) rfl)
theorem bw_25_21 : Cond.methodLink RX1 95 yX1_letsInFromGossips ∈ wsL_law := wsL_law_r25_big _ (List.mem_of_getElem? (i := 21) rfl)
theorem bw_5_11 : Cond.fieldLink RX1 31 "NewsDraughts$Draught" "openToTalkers" "I" ∈ wsL_law := wsL_law_r5_big _ (List.mem_of_getElem? (i := 11) rfl)
theorem bw_25_17 : Cond.methodLink RX1 91 yX1_letsInFromTalkers ∈ wsL_law := wsL_law_r25_big _ (List.mem_of_getElem? (i := 17) rfl)
theorem bw_5_5 : Cond.fieldLink RX1 9 "NewsDraughts$Draught" "sashes" "[I" ∈ wsL_law := wsL_law_r5_big _ (List.mem_of_getElem? (i := 5) rfl)
theorem bw_25_13 : Cond.methodLink RX1 87 yX1_reopen ∈ wsL_law := wsL_law_r25_big _ (List.mem_of_getElem? (i := 13) rfl)
theorem bw_25_12 : Cond.methodLink RX1 84 yX9_sashOf ∈ wsL_law := wsL_law_r25_big _ (List.mem_of_getElem? (i := 12) rfl)
theorem bw_5_16 : Cond.fieldLink RX1 47 "NewsDraughts$Draught" "now" "LNewsDraughts$Standing;" ∈ wsL_law := wsL_law_r5_big _ (List.mem_of_getElem? (i := 16) rfl)
theorem bw_25_11 : Cond.methodLink RX1 77 yX4_weightOf ∈ wsL_law := wsL_law_r25_big _ (List.mem_of_getElem? (i := 11) rfl)
theorem bw_5_15 : Cond.fieldLink RX1 43 "NewsDraughts$Draught" "parish" "LNewsDraughts$Parish;" ∈ wsL_law := wsL_law_r5_big _ (List.mem_of_getElem? (i := 15) rfl)
theorem bw_5_9 : Cond.fieldLink RX1 25 "NewsDraughts$Draught" "talkers" "I" ∈ wsL_law := wsL_law_r5_big _ (List.mem_of_getElem? (i := 9) rfl)
theorem bw_5_8 : Cond.fieldLink RX1 22 "NewsDraughts$Draught" "gossips" "I" ∈ wsL_law := wsL_law_r5_big _ (List.mem_of_getElem? (i := 8) rfl)
theorem bw_25_10 : Cond.methodLink RX1 71 yX4_kindOf ∈ wsL_law := wsL_law_r25_big _ (List.mem_of_getElem? (i := 10) rfl)
theorem bw_25_9 : Cond.methodLink RX1 68 yX4_houses ∈ wsL_law := wsL_law_r25_big _ (List.mem_of_getElem? (i := 9) rfl)
theorem bw_5_14 : Cond.fieldLink RX1 40 "NewsDraughts$Draught" "lastColumn" "I" ∈ wsL_law := wsL_law_r5_big _ (List.mem_of_getElem? (i := 14) rfl)
theorem bw_25_5 : Cond.methodLink RX1 66 yX4_lastColumn ∈ wsL_law := wsL_law_r25_big _ (List.mem_of_getElem? (i := 5) rfl)
theorem bw_5_13 : Cond.fieldLink RX1 37 "NewsDraughts$Draught" "firstColumn" "I" ∈ wsL_law := wsL_law_r5_big _ (List.mem_of_getElem? (i := 13) rfl)
theorem bw_25_1 : Cond.methodLink RX1 64 yX4_firstColumn ∈ wsL_law := wsL_law_r25_big _ (List.mem_of_getElem? (i := 1) rfl)
theorem bw_5_12 : Cond.fieldLink RX1 34 "NewsDraughts$Draught" "columns" "I" ∈ wsL_law := wsL_law_r5_big _ (List.mem_of_getElem? (i := 12) rfl)
theorem bw_24_21 : Cond.methodLink RX1 61 yX4_columns ∈ wsL_law := wsL_law_r24_big _ (List.mem_of_getElem? (i := 21) rfl)
theorem bw_5_7 : Cond.fieldLink RX1 18 "NewsDraughts$Draught" "whoKnows" "I" ∈ wsL_law := wsL_law_r5_big _ (List.mem_of_getElem? (i := 7) rfl)
theorem bw_24_20 : Cond.methodLink RX1 57 yX9_whoKnows ∈ wsL_law := wsL_law_r24_big _ (List.mem_of_getElem? (i := 20) rfl)
theorem bw_24_19 : Cond.methodLink RX1 51 yX4_newsKindOf ∈ wsL_law := wsL_law_r24_big _ (List.mem_of_getElem? (i := 19) rfl)
theorem bw_26_12 : Cond.methodLink RX1 118 yX1_onward ∈ wsL_law := wsL_law_r26_big _ (List.mem_of_getElem? (i := 12) rfl)
theorem bw_26_11 : Cond.methodLink RX1 115 yX4_windOf ∈ wsL_law := wsL_law_r26_big _ (List.mem_of_getElem? (i := 11) rfl)
theorem bw_26_10 : Cond.methodLink RX1 112 yX9_stepsGone ∈ wsL_law := wsL_law_r26_big _ (List.mem_of_getElem? (i := 10) rfl)
theorem bw_26_9 : Cond.methodLink RX1 109 yX4_windsInTurn ∈ wsL_law := wsL_law_r26_big _ (List.mem_of_getElem? (i := 9) rfl)
theorem bw_26_16 : Cond.methodLink RX10 185 yX9_setWhoKnows ∈ wsL_law := wsL_law_r26_big _ (List.mem_of_getElem? (i := 16) rfl)
theorem bw_26_5 : Cond.methodLink RX10 181 yX1_along ∈ wsL_law := wsL_law_r26_big _ (List.mem_of_getElem? (i := 5) rfl)
theorem bw_26_1 : Cond.methodLink RX10 179 yX1_whoKnows ∈ wsL_law := wsL_law_r26_big _ (List.mem_of_getElem? (i := 1) rfl)
theorem bw_2_13 : Cond.fieldLink RX10 59 "NewsDraughts" "draught" "LNewsDraughts$Draught;" ∈ wsL_law := wsL_law_r2_big _ (List.mem_of_getElem? (i := 13) rfl)
theorem bw_24_15 : Cond.methodLink RX10 176 yX1_pick ∈ wsL_law := wsL_law_r24_big _ (List.mem_of_getElem? (i := 15) rfl)
theorem bw_23_19 : Cond.methodLink RX10 169 yX5_push ∈ wsL_law := wsL_law_r23_big _ (List.mem_of_getElem? (i := 19) rfl)
theorem bw_28_13 : Cond.methodLink RX10 195 yX9_setSash ∈ wsL_law := wsL_law_r28_big _ (List.mem_of_getElem? (i := 13) rfl)
theorem bw_28_12 : Cond.methodLink RX10 192 yX10_isWidth ∈ wsL_law := wsL_law_r28_big _ (List.mem_of_getElem? (i := 12) rfl)
theorem bw_29_1 : Cond.methodLink RX10 198 yX10_holds ∈ wsL_law := wsL_law_r29_big _ (List.mem_of_getElem? (i := 1) rfl)
theorem bw_29_14 : Cond.methodLink RX10 209 yX5_size ∈ wsL_law := wsL_law_r29_big _ (List.mem_of_getElem? (i := 14) rfl)
theorem bw_29_10 : Cond.methodLink RX10 205 yX5_popInto ∈ wsL_law := wsL_law_r29_big _ (List.mem_of_getElem? (i := 10) rfl)
theorem bw_30_12 : Cond.methodLink RX1 105 yX1_along ∈ wsL_law := wsL_law_r30_big _ (List.mem_of_getElem? (i := 12) rfl)
theorem bw_30_8 : Cond.methodLink RX3 35 yX1_hears ∈ wsL_law := wsL_law_r30_big _ (List.mem_of_getElem? (i := 8) rfl)
theorem bw_5_23 : Cond.fieldLink RX3 19 "NewsDraughts$Outlook" "draught" "LNewsDraughts$Draught;" ∈ wsL_law := wsL_law_r5_big _ (List.mem_of_getElem? (i := 23) rfl)
theorem bw_30_7 : Cond.methodLink RX3 29 yX1_pick ∈ wsL_law := wsL_law_r30_big _ (List.mem_of_getElem? (i := 7) rfl)
theorem bw_30_6 : Cond.methodLink RX3 23 yX4_newsTold ∈ wsL_law := wsL_law_r30_big _ (List.mem_of_getElem? (i := 6) rfl)
theorem bw_5_21 : Cond.fieldLink RX3 9 "NewsDraughts$Outlook" "parish" "LNewsDraughts$Parish;" ∈ wsL_law := wsL_law_r5_big _ (List.mem_of_getElem? (i := 21) rfl)
theorem bw_30_2 : Cond.methodLink RX10 212 yX3_knownBehind ∈ wsL_law := wsL_law_r30_big _ (List.mem_of_getElem? (i := 2) rfl)
theorem bw_2_17 : Cond.fieldLink RX10 68 "NewsDraughts" "outlook" "LNewsDraughts$Outlook;" ∈ wsL_law := wsL_law_r2_big _ (List.mem_of_getElem? (i := 17) rfl)
theorem bw_31_2 : Cond.methodLink RX3 49 yX1_along ∈ wsL_law := wsL_law_r31_big _ (List.mem_of_getElem? (i := 2) rfl)
theorem bw_31_1 : Cond.methodLink RX3 43 yX1_whoKnows ∈ wsL_law := wsL_law_r31_big _ (List.mem_of_getElem? (i := 1) rfl)
theorem bw_30_21 : Cond.methodLink RX10 216 yX3_firstHeard ∈ wsL_law := wsL_law_r30_big _ (List.mem_of_getElem? (i := 21) rfl)
theorem bw_32_0 : Cond.methodLink RX3 56 yX3_firstHeard ∈ wsL_law := wsL_law_r32_big _ (List.mem_of_getElem? (i := 0) rfl)
theorem bw_31_23 : Cond.methodLink RX3 53 yX4_houses ∈ wsL_law := wsL_law_r31_big _ (List.mem_of_getElem? (i := 23) rfl)
theorem bw_31_19 : Cond.methodLink RX10 219 yX3_latestHouse ∈ wsL_law := wsL_law_r31_big _ (List.mem_of_getElem? (i := 19) rfl)
theorem bw_32_18 : Cond.methodLink RX3 67 yJ6_bitCount_0f7a4 ∈ wsL_law := wsL_law_r32_big _ (List.mem_of_getElem? (i := 18) rfl)
theorem bw_32_19 : Cond.methodLink RX3 72 yX1_stuff ∈ wsL_law := wsL_law_r32_big _ (List.mem_of_getElem? (i := 19) rfl)
theorem bw_32_14 : Cond.methodLink RX3 64 yX4_allHouses ∈ wsL_law := wsL_law_r32_big _ (List.mem_of_getElem? (i := 14) rfl)
theorem bw_32_13 : Cond.methodLink RX3 60 yX9_whoKnows ∈ wsL_law := wsL_law_r32_big _ (List.mem_of_getElem? (i := 13) rfl)
theorem bw_5_22 : Cond.fieldLink RX3 15 "NewsDraughts$Outlook" "now" "LNewsDraughts$Standing;" ∈ wsL_law := wsL_law_r5_big _ (List.mem_of_getElem? (i := 22) rfl)
theorem bw_32_9 : Cond.methodLink RX10 222 yX3_fewestStuffed ∈ wsL_law := wsL_law_r32_big _ (List.mem_of_getElem? (i := 9) rfl)
theorem bw_33_15 : Cond.methodLink RX4 97 yX4_allHouses ∈ wsL_law := wsL_law_r33_big _ (List.mem_of_getElem? (i := 15) rfl)
theorem bw_6_7 : Cond.fieldLink RX2 21 "NewsDraughts$Openings" "opened" "I" ∈ wsL_law := wsL_law_r6_big _ (List.mem_of_getElem? (i := 7) rfl)
theorem bw_6_9 : Cond.fieldLink RX2 27 "NewsDraughts$Openings" "second" "I" ∈ wsL_law := wsL_law_r6_big _ (List.mem_of_getElem? (i := 9) rfl)
theorem bw_6_8 : Cond.fieldLink RX2 24 "NewsDraughts$Openings" "first" "I" ∈ wsL_law := wsL_law_r6_big _ (List.mem_of_getElem? (i := 8) rfl)
theorem bw_35_10 : Cond.methodLink RX10 241 yX2_answer ∈ wsL_law := wsL_law_r35_big _ (List.mem_of_getElem? (i := 10) rfl)
theorem bw_2_21 : Cond.fieldLink RX10 75 "NewsDraughts" "ways" "LNewsDraughts$Openings;" ∈ wsL_law := wsL_law_r2_big _ (List.mem_of_getElem? (i := 21) rfl)
theorem bw_34_0 : Cond.methodLink RX2 46 yX1_pick ∈ wsL_law := wsL_law_r34_big _ (List.mem_of_getElem? (i := 0) rfl)
theorem bw_6_12 : Cond.fieldLink RX2 38 "NewsDraughts$Openings" "draught" "LNewsDraughts$Draught;" ∈ wsL_law := wsL_law_r6_big _ (List.mem_of_getElem? (i := 12) rfl)
theorem bw_33_20 : Cond.methodLink RX2 42 yX2_found ∈ wsL_law := wsL_law_r33_big _ (List.mem_of_getElem? (i := 20) rfl)
theorem bw_6_6 : Cond.fieldLink RX2 18 "NewsDraughts$Openings" "shallNot" "I" ∈ wsL_law := wsL_law_r6_big _ (List.mem_of_getElem? (i := 6) rfl)
theorem bw_6_5 : Cond.fieldLink RX2 15 "NewsDraughts$Openings" "shallKnow" "I" ∈ wsL_law := wsL_law_r6_big _ (List.mem_of_getElem? (i := 5) rfl)
theorem bw_6_4 : Cond.fieldLink RX2 9 "NewsDraughts$Openings" "steps" "I" ∈ wsL_law := wsL_law_r6_big _ (List.mem_of_getElem? (i := 4) rfl)
theorem bw_34_7 : Cond.methodLink RX2 60 yX2_isSo ∈ wsL_law := wsL_law_r34_big _ (List.mem_of_getElem? (i := 7) rfl)
theorem bw_34_6 : Cond.methodLink RX2 56 yX1_along ∈ wsL_law := wsL_law_r34_big _ (List.mem_of_getElem? (i := 6) rfl)
theorem bw_34_5 : Cond.methodLink RX2 52 yX1_whoKnows ∈ wsL_law := wsL_law_r34_big _ (List.mem_of_getElem? (i := 5) rfl)
theorem bw_35_0 : Cond.methodLink RX2 77 yX1_reopen ∈ wsL_law := wsL_law_r35_big _ (List.mem_of_getElem? (i := 0) rfl)
theorem bw_35_1 : Cond.methodLink RX2 84 yX9_sashOf ∈ wsL_law := wsL_law_r35_big _ (List.mem_of_getElem? (i := 1) rfl)
theorem bw_6_11 : Cond.fieldLink RX2 34 "NewsDraughts$Openings" "now" "LNewsDraughts$Standing;" ∈ wsL_law := wsL_law_r6_big _ (List.mem_of_getElem? (i := 11) rfl)
theorem bw_34_20 : Cond.methodLink RX2 73 yX1_isAnother ∈ wsL_law := wsL_law_r34_big _ (List.mem_of_getElem? (i := 20) rfl)
theorem bw_34_16 : Cond.methodLink RX2 69 yX2_fittingWidth ∈ wsL_law := wsL_law_r34_big _ (List.mem_of_getElem? (i := 16) rfl)
theorem bw_34_15 : Cond.methodLink RX2 64 yX4_houses ∈ wsL_law := wsL_law_r34_big _ (List.mem_of_getElem? (i := 15) rfl)
theorem bw_6_10 : Cond.fieldLink RX2 30 "NewsDraughts$Openings" "parish" "LNewsDraughts$Parish;" ∈ wsL_law := wsL_law_r6_big _ (List.mem_of_getElem? (i := 10) rfl)
theorem bw_35_6 : Cond.methodLink RX2 81 yX2_isFoundWith ∈ wsL_law := wsL_law_r35_big _ (List.mem_of_getElem? (i := 6) rfl)
theorem bw_35_2 : Cond.methodLink RX10 238 yX2_findByTwo ∈ wsL_law := wsL_law_r35_big _ (List.mem_of_getElem? (i := 2) rfl)
theorem bw_34_11 : Cond.methodLink RX10 235 yX2_isFoundByOne ∈ wsL_law := wsL_law_r34_big _ (List.mem_of_getElem? (i := 11) rfl)
theorem bw_34_1 : Cond.methodLink RX10 232 yX2_isFoundByNone ∈ wsL_law := wsL_law_r34_big _ (List.mem_of_getElem? (i := 1) rfl)
theorem bw_33_16 : Cond.methodLink RX10 228 yX2_pose ∈ wsL_law := wsL_law_r33_big _ (List.mem_of_getElem? (i := 16) rfl)
theorem bw_33_11 : Cond.methodLink RX10 225 yX4_hasHouses ∈ wsL_law := wsL_law_r33_big _ (List.mem_of_getElem? (i := 11) rfl)
theorem bw_36_17 : Cond.methodLink RX3 82 yX4_weightOf ∈ wsL_law := wsL_law_r36_big _ (List.mem_of_getElem? (i := 17) rfl)
theorem bw_36_16 : Cond.methodLink RX3 78 yX1_reopen ∈ wsL_law := wsL_law_r36_big _ (List.mem_of_getElem? (i := 16) rfl)
theorem bw_36_12 : Cond.methodLink RX3 75 yX3_burden ∈ wsL_law := wsL_law_r36_big _ (List.mem_of_getElem? (i := 12) rfl)
theorem bw_36_8 : Cond.methodLink RX10 244 yX3_widestBorne ∈ wsL_law := wsL_law_r36_big _ (List.mem_of_getElem? (i := 8) rfl)
theorem bw_37_18 : Cond.methodLink RX3 102 Lib.Math.max.name ∈ wsL_law := wsL_law_r37_big _ (List.mem_of_getElem? (i := 18) rfl)
theorem bw_37_19 : Cond.static Lib.Math.max.name ∈ wsL_law := wsL_law_r37_big _ (List.mem_of_getElem? (i := 19) rfl)
theorem bw_37_16 : Cond.initialized "java/lang/Math" ∈ wsL_law := wsL_law_r37_big _ (List.mem_of_getElem? (i := 16) rfl)
theorem bw_37_20 : Cond.code Lib.Math.max.name Lib.Math.max.code 2 (some .int) ∈ wsL_law := wsL_law_r37_big _ (List.mem_of_getElem? (i := 20) rfl)
theorem bw_37_23 : Cond.methodLink RX3 101 yX1_sashOf ∈ wsL_law := wsL_law_r37_big _ (List.mem_of_getElem? (i := 23) rfl)
theorem bw_37_14 : Cond.methodLink RX3 96 Lib.Math.min.name ∈ wsL_law := wsL_law_r37_big _ (List.mem_of_getElem? (i := 14) rfl)
theorem bw_37_15 : Cond.static Lib.Math.min.name ∈ wsL_law := wsL_law_r37_big _ (List.mem_of_getElem? (i := 15) rfl)
theorem bw_37_17 : Cond.code Lib.Math.min.name Lib.Math.min.code 2 (some .int) ∈ wsL_law := wsL_law_r37_big _ (List.mem_of_getElem? (i := 17) rfl)
theorem bw_37_22 : Cond.methodLink RX3 93 yX9_sashOf ∈ wsL_law := wsL_law_r37_big _ (List.mem_of_getElem? (i := 22) rfl)
theorem bw_37_21 : Cond.methodLink RX3 89 yX4_hasHouse ∈ wsL_law := wsL_law_r37_big _ (List.mem_of_getElem? (i := 21) rfl)
theorem bw_37_10 : Cond.methodLink RX3 85 yX3_hearsInSpite ∈ wsL_law := wsL_law_r37_big _ (List.mem_of_getElem? (i := 10) rfl)
theorem bw_38_3 : Cond.methodLink RX10 250 yX3_hearsInSpite ∈ wsL_law := wsL_law_r38_big _ (List.mem_of_getElem? (i := 3) rfl)
theorem bw_37_6 : Cond.methodLink RX10 247 yX3_bestToOpen ∈ wsL_law := wsL_law_r37_big _ (List.mem_of_getElem? (i := 6) rfl)
theorem bw_7_4 : Cond.fieldLink RX8 21 "NewsDraughts$Sightings" "knows" "[I" ∈ wsL_law := wsL_law_r7_big _ (List.mem_of_getElem? (i := 4) rfl)
theorem bw_7_3 : Cond.fieldLink RX8 18 "NewsDraughts$Sightings" "times" "[I" ∈ wsL_law := wsL_law_r7_big _ (List.mem_of_getElem? (i := 3) rfl)
theorem bw_7_2 : Cond.fieldLink RX8 15 "NewsDraughts$Sightings" "news" "[I" ∈ wsL_law := wsL_law_r7_big _ (List.mem_of_getElem? (i := 2) rfl)
theorem bw_7_1 : Cond.fieldLink RX8 9 "NewsDraughts$Sightings" "houses" "[I" ∈ wsL_law := wsL_law_r7_big _ (List.mem_of_getElem? (i := 1) rfl)
theorem bw_39_0 : Cond.methodLink RX10 257 yX8_size ∈ wsL_law := wsL_law_r39_big _ (List.mem_of_getElem? (i := 0) rfl)
theorem bw_38_20 : Cond.methodLink RX10 254 yX8_add ∈ wsL_law := wsL_law_r38_big _ (List.mem_of_getElem? (i := 20) rfl)
theorem bw_40_7 : Cond.methodLink RX8 67 yX8_isSo ∈ wsL_law := wsL_law_r40_big _ (List.mem_of_getElem? (i := 7) rfl)
theorem bw_40_6 : Cond.methodLink RX8 63 yX1_along ∈ wsL_law := wsL_law_r40_big _ (List.mem_of_getElem? (i := 6) rfl)
theorem bw_7_7 : Cond.fieldLink RX8 32 "NewsDraughts$Sightings" "draught" "LNewsDraughts$Draught;" ∈ wsL_law := wsL_law_r7_big _ (List.mem_of_getElem? (i := 7) rfl)
theorem bw_40_5 : Cond.methodLink RX8 53 yX1_pick ∈ wsL_law := wsL_law_r40_big _ (List.mem_of_getElem? (i := 5) rfl)
theorem bw_40_1 : Cond.methodLink RX8 45 yX8_allSoFrom ∈ wsL_law := wsL_law_r40_big _ (List.mem_of_getElem? (i := 1) rfl)
theorem bw_40_0 : Cond.methodLink RX8 40 yX4_houses ∈ wsL_law := wsL_law_r40_big _ (List.mem_of_getElem? (i := 0) rfl)
theorem bw_7_6 : Cond.fieldLink RX8 28 "NewsDraughts$Sightings" "parish" "LNewsDraughts$Parish;" ∈ wsL_law := wsL_law_r7_big _ (List.mem_of_getElem? (i := 6) rfl)
theorem bw_39_20 : Cond.methodLink RX10 259 yX8_beginnings ∈ wsL_law := wsL_law_r39_big _ (List.mem_of_getElem? (i := 20) rfl)
theorem bw_41_12 : Cond.methodLink RX8 77 yX1_onward ∈ wsL_law := wsL_law_r41_big _ (List.mem_of_getElem? (i := 12) rfl)
theorem bw_41_11 : Cond.methodLink RX8 74 yX1_whoKnows ∈ wsL_law := wsL_law_r41_big _ (List.mem_of_getElem? (i := 11) rfl)
theorem bw_41_7 : Cond.methodLink RX8 70 yX8_allSoBy ∈ wsL_law := wsL_law_r41_big _ (List.mem_of_getElem? (i := 7) rfl)
theorem bw_41_3 : Cond.methodLink RX10 262 yX8_nextWinds ∈ wsL_law := wsL_law_r41_big _ (List.mem_of_getElem? (i := 3) rfl)
theorem bw_42_6 : Cond.methodLink RX0 40 yX1_onward ∈ wsL_law := wsL_law_r42_big _ (List.mem_of_getElem? (i := 6) rfl)
theorem bw_6_20 : Cond.fieldLink RX0 22 "NewsDraughts$Chances" "draught" "LNewsDraughts$Draught;" ∈ wsL_law := wsL_law_r6_big _ (List.mem_of_getElem? (i := 20) rfl)
theorem bw_42_5 : Cond.methodLink RX0 36 yX1_whoKnows ∈ wsL_law := wsL_law_r42_big _ (List.mem_of_getElem? (i := 5) rfl)
theorem bw_42_2 : Cond.methodLink RX0 32 yX0_waysOf ∈ wsL_law := wsL_law_r42_big _ (List.mem_of_getElem? (i := 2) rfl)
theorem bw_42_1 : Cond.methodLink RX0 26 yX1_pick ∈ wsL_law := wsL_law_r42_big _ (List.mem_of_getElem? (i := 1) rfl)
theorem bw_42_7 : Cond.methodLink RX10 268 yX0_inLowestTerms ∈ wsL_law := wsL_law_r42_big _ (List.mem_of_getElem? (i := 7) rfl)
theorem bw_41_21 : Cond.methodLink RX10 265 yX0_gustsThatReach ∈ wsL_law := wsL_law_r41_big _ (List.mem_of_getElem? (i := 21) rfl)
theorem bw_3_1 : Cond.fieldLink RX10 84 "NewsDraughts" "chances" "LNewsDraughts$Chances;" ∈ wsL_law := wsL_law_r3_big _ (List.mem_of_getElem? (i := 1) rfl)
theorem bw_6_17 : Cond.fieldLink RX0 9 "NewsDraughts$Chances" "housesThatKnow" "I" ∈ wsL_law := wsL_law_r6_big _ (List.mem_of_getElem? (i := 17) rfl)
theorem bw_43_14 : Cond.methodLink RX0 63 yJ6_bitCount_0f7a4 ∈ wsL_law := wsL_law_r43_big _ (List.mem_of_getElem? (i := 14) rfl)
theorem bw_6_18 : Cond.fieldLink RX0 15 "NewsDraughts$Chances" "timesHeard" "I" ∈ wsL_law := wsL_law_r6_big _ (List.mem_of_getElem? (i := 18) rfl)
theorem bw_43_6 : Cond.constantLong RX0 81 (2) ∈ wsL_law := wsL_law_r43_big _ (List.mem_of_getElem? (i := 6) rfl)
theorem bw_43_5 : Cond.constantLong RX0 79 (65521) ∈ wsL_law := wsL_law_r43_big _ (List.mem_of_getElem? (i := 5) rfl)
theorem bw_43_4 : Cond.constantLong RX0 77 (6151) ∈ wsL_law := wsL_law_r43_big _ (List.mem_of_getElem? (i := 4) rfl)
theorem bw_43_3 : Cond.constantLong RX0 75 (7919) ∈ wsL_law := wsL_law_r43_big _ (List.mem_of_getElem? (i := 3) rfl)
theorem bw_43_12 : Cond.methodLink RX0 71 yX1_reopen ∈ wsL_law := wsL_law_r43_big _ (List.mem_of_getElem? (i := 12) rfl)
theorem bw_43_11 : Cond.methodLink RX0 68 yX4_houses ∈ wsL_law := wsL_law_r43_big _ (List.mem_of_getElem? (i := 11) rfl)
theorem bw_6_19 : Cond.fieldLink RX0 18 "NewsDraughts$Chances" "parish" "LNewsDraughts$Parish;" ∈ wsL_law := wsL_law_r6_big _ (List.mem_of_getElem? (i := 19) rfl)
theorem bw_43_13 : Cond.methodLink RX0 59 yX1_along ∈ wsL_law := wsL_law_r43_big _ (List.mem_of_getElem? (i := 13) rfl)
theorem bw_43_7 : Cond.methodLink RX0 56 yX0_openByDraw ∈ wsL_law := wsL_law_r43_big _ (List.mem_of_getElem? (i := 7) rfl)
theorem bw_43_0 : Cond.methodLink RX0 53 yX0_draw ∈ wsL_law := wsL_law_r43_big _ (List.mem_of_getElem? (i := 0) rfl)
theorem bw_42_23 : Cond.methodLink RX0 48 yX4_newsTold ∈ wsL_law := wsL_law_r42_big _ (List.mem_of_getElem? (i := 23) rfl)
theorem bw_43_19 : Cond.methodLink RX10 277 yX0_timesHeard ∈ wsL_law := wsL_law_r43_big _ (List.mem_of_getElem? (i := 19) rfl)
theorem bw_43_15 : Cond.methodLink RX10 274 yX0_housesThatKnow ∈ wsL_law := wsL_law_r43_big _ (List.mem_of_getElem? (i := 15) rfl)
theorem bw_42_19 : Cond.methodLink RX10 271 yX0_runYear ∈ wsL_law := wsL_law_r42_big _ (List.mem_of_getElem? (i := 19) rfl)
theorem bw_44_19 : Cond.methodLink RX10 280 yX5_isFull ∈ wsL_law := wsL_law_r44_big _ (List.mem_of_getElem? (i := 19) rfl)
theorem bw_45_12 : Cond.methodLink RX10 284 yX4_rows ∈ wsL_law := wsL_law_r45_big _ (List.mem_of_getElem? (i := 12) rfl)
theorem bw_45_16 : Cond.methodLink RX10 287 yX4_windsInTurn ∈ wsL_law := wsL_law_r45_big _ (List.mem_of_getElem? (i := 16) rfl)
theorem bw_45_17 : Cond.methodLink RX10 290 yX9_whoKnowsAny ∈ wsL_law := wsL_law_r45_big _ (List.mem_of_getElem? (i := 17) rfl)
theorem bw_1_6 : Cond.methodLink RL 9 yX10_init ∈ wsL_law := wsL_law_r1_big _ (List.mem_of_getElem? (i := 6) rfl)
theorem bw_13_21 : Cond.methodLink RL 12 yX11_init ∈ wsL_law := wsL_law_r13_big _ (List.mem_of_getElem? (i := 21) rfl)
theorem bw_15_23 : Cond.methodLink RL 13 yX10_write ∈ wsL_law := wsL_law_r15_big _ (List.mem_of_getElem? (i := 23) rfl)
theorem bw_16_4 : Cond.methodLink RL 17 yX11_write ∈ wsL_law := wsL_law_r16_big _ (List.mem_of_getElem? (i := 4) rfl)
theorem bw_16_12 : Cond.methodLink RL 18 yX10_wipe ∈ wsL_law := wsL_law_r16_big _ (List.mem_of_getElem? (i := 12) rfl)
theorem bw_16_16 : Cond.methodLink RL 22 yX11_wipe ∈ wsL_law := wsL_law_r16_big _ (List.mem_of_getElem? (i := 16) rfl)
theorem bw_16_20 : Cond.methodLink RL 23 yX10_fault ∈ wsL_law := wsL_law_r16_big _ (List.mem_of_getElem? (i := 20) rfl)
theorem bw_17_0 : Cond.methodLink RL 26 yX11_fault ∈ wsL_law := wsL_law_r17_big _ (List.mem_of_getElem? (i := 0) rfl)
theorem bw_18_20 : Cond.methodLink RL 27 yX10_lay ∈ wsL_law := wsL_law_r18_big _ (List.mem_of_getElem? (i := 20) rfl)
theorem bw_19_1 : Cond.methodLink RL 30 yX11_lay ∈ wsL_law := wsL_law_r19_big _ (List.mem_of_getElem? (i := 1) rfl)
theorem bw_19_6 : Cond.methodLink RL 31 yX10_house ∈ wsL_law := wsL_law_r19_big _ (List.mem_of_getElem? (i := 6) rfl)
theorem bw_20_6 : Cond.methodLink RL 35 yX11_house ∈ wsL_law := wsL_law_r20_big _ (List.mem_of_getElem? (i := 6) rfl)
theorem bw_21_2 : Cond.methodLink RL 36 yX10_news ∈ wsL_law := wsL_law_r21_big _ (List.mem_of_getElem? (i := 2) rfl)
theorem bw_22_0 : Cond.methodLink RL 39 yX11_news ∈ wsL_law := wsL_law_r22_big _ (List.mem_of_getElem? (i := 0) rfl)
theorem bw_22_11 : Cond.methodLink RL 40 yX10_wind ∈ wsL_law := wsL_law_r22_big _ (List.mem_of_getElem? (i := 11) rfl)
theorem bw_23_7 : Cond.methodLink RL 43 yX11_wind ∈ wsL_law := wsL_law_r23_big _ (List.mem_of_getElem? (i := 7) rfl)
theorem bw_23_15 : Cond.methodLink RL 44 yX10_step ∈ wsL_law := wsL_law_r23_big _ (List.mem_of_getElem? (i := 15) rfl)
theorem bw_27_0 : Cond.methodLink RL 47 yX11_step ∈ wsL_law := wsL_law_r27_big _ (List.mem_of_getElem? (i := 0) rfl)
theorem bw_28_8 : Cond.methodLink RL 48 yX10_open ∈ wsL_law := wsL_law_r28_big _ (List.mem_of_getElem? (i := 8) rfl)
theorem bw_28_17 : Cond.methodLink RL 51 yX11_open ∈ wsL_law := wsL_law_r28_big _ (List.mem_of_getElem? (i := 17) rfl)
theorem bw_28_21 : Cond.methodLink RL 52 yX10_tell ∈ wsL_law := wsL_law_r28_big _ (List.mem_of_getElem? (i := 21) rfl)
theorem bw_29_2 : Cond.methodLink RL 55 yX11_tell ∈ wsL_law := wsL_law_r29_big _ (List.mem_of_getElem? (i := 2) rfl)
theorem bw_29_6 : Cond.methodLink RL 56 yX10_undo ∈ wsL_law := wsL_law_r29_big _ (List.mem_of_getElem? (i := 6) rfl)
theorem bw_29_18 : Cond.methodLink RL 59 yX11_undo ∈ wsL_law := wsL_law_r29_big _ (List.mem_of_getElem? (i := 18) rfl)
theorem bw_29_22 : Cond.methodLink RL 60 yX10_behind ∈ wsL_law := wsL_law_r29_big _ (List.mem_of_getElem? (i := 22) rfl)
theorem bw_30_13 : Cond.methodLink RL 63 yX11_behind ∈ wsL_law := wsL_law_r30_big _ (List.mem_of_getElem? (i := 13) rfl)
theorem bw_30_17 : Cond.methodLink RL 64 yX10_when ∈ wsL_law := wsL_law_r30_big _ (List.mem_of_getElem? (i := 17) rfl)
theorem bw_31_3 : Cond.methodLink RL 67 yX11_when ∈ wsL_law := wsL_law_r31_big _ (List.mem_of_getElem? (i := 3) rfl)
theorem bw_31_15 : Cond.methodLink RL 68 yX10_last ∈ wsL_law := wsL_law_r31_big _ (List.mem_of_getElem? (i := 15) rfl)
theorem bw_32_1 : Cond.methodLink RL 71 yX11_last ∈ wsL_law := wsL_law_r32_big _ (List.mem_of_getElem? (i := 1) rfl)
theorem bw_32_5 : Cond.methodLink RL 72 yX10_cut ∈ wsL_law := wsL_law_r32_big _ (List.mem_of_getElem? (i := 5) rfl)
theorem bw_32_23 : Cond.methodLink RL 76 yX11_cut ∈ wsL_law := wsL_law_r32_big _ (List.mem_of_getElem? (i := 23) rfl)
theorem bw_33_7 : Cond.methodLink RL 77 yX10_openings ∈ wsL_law := wsL_law_r33_big _ (List.mem_of_getElem? (i := 7) rfl)
theorem bw_35_14 : Cond.methodLink RL 81 yX11_openings ∈ wsL_law := wsL_law_r35_big _ (List.mem_of_getElem? (i := 14) rfl)
theorem bw_36_4 : Cond.methodLink RL 82 yX10_bears ∈ wsL_law := wsL_law_r36_big _ (List.mem_of_getElem? (i := 4) rfl)
theorem bw_36_18 : Cond.methodLink RL 85 yX11_bears ∈ wsL_law := wsL_law_r36_big _ (List.mem_of_getElem? (i := 18) rfl)
theorem bw_37_2 : Cond.methodLink RL 86 yX10_quarrel ∈ wsL_law := wsL_law_r37_big _ (List.mem_of_getElem? (i := 2) rfl)
theorem bw_38_4 : Cond.methodLink RL 90 yX11_quarrel ∈ wsL_law := wsL_law_r38_big _ (List.mem_of_getElem? (i := 4) rfl)
theorem bw_38_16 : Cond.methodLink RL 91 yX10_see ∈ wsL_law := wsL_law_r38_big _ (List.mem_of_getElem? (i := 16) rfl)
theorem bw_39_4 : Cond.methodLink RL 95 yX11_see ∈ wsL_law := wsL_law_r39_big _ (List.mem_of_getElem? (i := 4) rfl)
theorem bw_39_8 : Cond.methodLink RL 96 yX10_forget ∈ wsL_law := wsL_law_r39_big _ (List.mem_of_getElem? (i := 8) rfl)
theorem bw_39_12 : Cond.methodLink RL 99 yX11_forget ∈ wsL_law := wsL_law_r39_big _ (List.mem_of_getElem? (i := 12) rfl)
theorem bw_39_16 : Cond.methodLink RL 100 yX10_began ∈ wsL_law := wsL_law_r39_big _ (List.mem_of_getElem? (i := 16) rfl)
theorem bw_40_11 : Cond.methodLink RL 103 yX11_began ∈ wsL_law := wsL_law_r40_big _ (List.mem_of_getElem? (i := 11) rfl)
theorem bw_40_23 : Cond.methodLink RL 104 yX10_blew ∈ wsL_law := wsL_law_r40_big _ (List.mem_of_getElem? (i := 23) rfl)
theorem bw_41_13 : Cond.methodLink RL 107 yX11_blew ∈ wsL_law := wsL_law_r41_big _ (List.mem_of_getElem? (i := 13) rfl)
theorem bw_41_17 : Cond.methodLink RL 108 yX10_gusts ∈ wsL_law := wsL_law_r41_big _ (List.mem_of_getElem? (i := 17) rfl)
theorem bw_42_11 : Cond.methodLink RL 111 yX11_gusts ∈ wsL_law := wsL_law_r42_big _ (List.mem_of_getElem? (i := 11) rfl)
theorem bw_42_15 : Cond.methodLink RL 112 yX10_year ∈ wsL_law := wsL_law_r42_big _ (List.mem_of_getElem? (i := 15) rfl)
theorem bw_43_23 : Cond.methodLink RL 115 yX11_year ∈ wsL_law := wsL_law_r43_big _ (List.mem_of_getElem? (i := 23) rfl)
theorem bw_44_15 : Cond.methodLink RL 116 yX10_keep ∈ wsL_law := wsL_law_r44_big _ (List.mem_of_getElem? (i := 15) rfl)
theorem bw_44_20 : Cond.methodLink RL 119 yX11_keep ∈ wsL_law := wsL_law_r44_big _ (List.mem_of_getElem? (i := 20) rfl)
theorem bw_45_0 : Cond.methodLink RL 120 yX10_back ∈ wsL_law := wsL_law_r45_big _ (List.mem_of_getElem? (i := 0) rfl)
theorem bw_45_4 : Cond.methodLink RL 123 yX11_back ∈ wsL_law := wsL_law_r45_big _ (List.mem_of_getElem? (i := 4) rfl)
theorem bw_45_8 : Cond.methodLink RL 124 yX10_count ∈ wsL_law := wsL_law_r45_big _ (List.mem_of_getElem? (i := 8) rfl)
theorem bw_45_21 : Cond.methodLink RL 127 yX11_count ∈ wsL_law := wsL_law_r45_big _ (List.mem_of_getElem? (i := 21) rfl)
theorem bw_1_0 : Cond.classLink RL 7 RX10 ∈ wsL_law := wsL_law_r1_big _ (List.mem_of_getElem? (i := 0) rfl)
theorem bw_1_1 : Cond.instantiable RX10 12 ∈ wsL_law := wsL_law_r1_big _ (List.mem_of_getElem? (i := 1) rfl)
theorem bw_1_2 : Cond.initialized RX10 ∈ wsL_law := wsL_law_r1_big _ (List.mem_of_getElem? (i := 2) rfl)
theorem bw_1_3 : Cond.classLink RL 10 RX11 ∈ wsL_law := wsL_law_r1_big _ (List.mem_of_getElem? (i := 3) rfl)
theorem bw_1_4 : Cond.instantiable RX11 32 ∈ wsL_law := wsL_law_r1_big _ (List.mem_of_getElem? (i := 4) rfl)
theorem bw_1_5 : Cond.initialized RX11 ∈ wsL_law := wsL_law_r1_big _ (List.mem_of_getElem? (i := 5) rfl)
theorem bw_1_7 : Cond.instanceMethod yX10_init ∈ wsL_law := wsL_law_r1_big _ (List.mem_of_getElem? (i := 7) rfl)
theorem bw_1_8 : Cond.code yX10_init cX10_init 2 none ∈ wsL_law := wsL_law_r1_big _ (List.mem_of_getElem? (i := 8) rfl)
theorem bw_1_9 : Cond.methodLink RX10 1 objectInit ∈ wsL_law := wsL_law_r1_big _ (List.mem_of_getElem? (i := 9) rfl)
theorem bw_1_10 : Cond.instanceMethod objectInit ∈ wsL_law := wsL_law_r1_big _ (List.mem_of_getElem? (i := 10) rfl)
theorem bw_1_11 : Cond.code objectInit ⟨#[0xb1]⟩ 1 none ∈ wsL_law := wsL_law_r1_big _ (List.mem_of_getElem? (i := 11) rfl)
theorem bw_1_12 : Cond.classLink RX10 7 RX7 ∈ wsL_law := wsL_law_r1_big _ (List.mem_of_getElem? (i := 12) rfl)
theorem bw_1_13 : Cond.instantiable RX7 2 ∈ wsL_law := wsL_law_r1_big _ (List.mem_of_getElem? (i := 13) rfl)
theorem bw_1_14 : Cond.initialized RX7 ∈ wsL_law := wsL_law_r1_big _ (List.mem_of_getElem? (i := 14) rfl)
theorem bw_1_16 : Cond.classLink RX10 16 RX6 ∈ wsL_law := wsL_law_r1_big _ (List.mem_of_getElem? (i := 16) rfl)
theorem bw_1_17 : Cond.instantiable RX6 3 ∈ wsL_law := wsL_law_r1_big _ (List.mem_of_getElem? (i := 17) rfl)
theorem bw_1_18 : Cond.initialized RX6 ∈ wsL_law := wsL_law_r1_big _ (List.mem_of_getElem? (i := 18) rfl)
theorem bw_1_20 : Cond.classLink RX10 25 RX4 ∈ wsL_law := wsL_law_r1_big _ (List.mem_of_getElem? (i := 20) rfl)
theorem bw_1_21 : Cond.instantiable RX4 13 ∈ wsL_law := wsL_law_r1_big _ (List.mem_of_getElem? (i := 21) rfl)
theorem bw_1_22 : Cond.initialized RX4 ∈ wsL_law := wsL_law_r1_big _ (List.mem_of_getElem? (i := 22) rfl)
theorem bw_2_1 : Cond.classLink RX10 35 RX9 ∈ wsL_law := wsL_law_r2_big _ (List.mem_of_getElem? (i := 1) rfl)
theorem bw_2_2 : Cond.instantiable RX9 3 ∈ wsL_law := wsL_law_r2_big _ (List.mem_of_getElem? (i := 2) rfl)
theorem bw_2_3 : Cond.initialized RX9 ∈ wsL_law := wsL_law_r2_big _ (List.mem_of_getElem? (i := 3) rfl)
theorem bw_2_5 : Cond.classLink RX10 42 RX5 ∈ wsL_law := wsL_law_r2_big _ (List.mem_of_getElem? (i := 5) rfl)
theorem bw_2_6 : Cond.instantiable RX5 3 ∈ wsL_law := wsL_law_r2_big _ (List.mem_of_getElem? (i := 6) rfl)
theorem bw_2_7 : Cond.initialized RX5 ∈ wsL_law := wsL_law_r2_big _ (List.mem_of_getElem? (i := 7) rfl)
theorem bw_2_10 : Cond.classLink RX10 54 RX1 ∈ wsL_law := wsL_law_r2_big _ (List.mem_of_getElem? (i := 10) rfl)
theorem bw_2_11 : Cond.instantiable RX1 12 ∈ wsL_law := wsL_law_r2_big _ (List.mem_of_getElem? (i := 11) rfl)
theorem bw_2_12 : Cond.initialized RX1 ∈ wsL_law := wsL_law_r2_big _ (List.mem_of_getElem? (i := 12) rfl)
theorem bw_2_14 : Cond.classLink RX10 63 RX3 ∈ wsL_law := wsL_law_r2_big _ (List.mem_of_getElem? (i := 14) rfl)
theorem bw_2_15 : Cond.instantiable RX3 3 ∈ wsL_law := wsL_law_r2_big _ (List.mem_of_getElem? (i := 15) rfl)
theorem bw_2_16 : Cond.initialized RX3 ∈ wsL_law := wsL_law_r2_big _ (List.mem_of_getElem? (i := 16) rfl)
theorem bw_2_18 : Cond.classLink RX10 72 RX2 ∈ wsL_law := wsL_law_r2_big _ (List.mem_of_getElem? (i := 18) rfl)
theorem bw_2_19 : Cond.instantiable RX2 9 ∈ wsL_law := wsL_law_r2_big _ (List.mem_of_getElem? (i := 19) rfl)
theorem bw_2_20 : Cond.initialized RX2 ∈ wsL_law := wsL_law_r2_big _ (List.mem_of_getElem? (i := 20) rfl)
theorem bw_2_22 : Cond.classLink RX10 79 RX0 ∈ wsL_law := wsL_law_r2_big _ (List.mem_of_getElem? (i := 22) rfl)
theorem bw_2_23 : Cond.instantiable RX0 4 ∈ wsL_law := wsL_law_r2_big _ (List.mem_of_getElem? (i := 23) rfl)
theorem bw_3_0 : Cond.initialized RX0 ∈ wsL_law := wsL_law_r3_big _ (List.mem_of_getElem? (i := 0) rfl)
theorem bw_3_2 : Cond.classLink RX10 88 RX8 ∈ wsL_law := wsL_law_r3_big _ (List.mem_of_getElem? (i := 2) rfl)
theorem bw_3_3 : Cond.instantiable RX8 7 ∈ wsL_law := wsL_law_r3_big _ (List.mem_of_getElem? (i := 3) rfl)
theorem bw_3_4 : Cond.initialized RX8 ∈ wsL_law := wsL_law_r3_big _ (List.mem_of_getElem? (i := 4) rfl)
theorem bw_3_6 : Cond.instanceMethod yX7_init ∈ wsL_law := wsL_law_r3_big _ (List.mem_of_getElem? (i := 6) rfl)
theorem bw_3_7 : Cond.code yX7_init cX7_init 1 none ∈ wsL_law := wsL_law_r3_big _ (List.mem_of_getElem? (i := 7) rfl)
theorem bw_3_8 : Cond.methodLink RX7 3 objectInit ∈ wsL_law := wsL_law_r3_big _ (List.mem_of_getElem? (i := 8) rfl)
theorem bw_3_9 : Cond.arrayClass .int ∈ wsL_law := wsL_law_r3_big _ (List.mem_of_getElem? (i := 9) rfl)
theorem bw_3_12 : Cond.methodLink RX10 18 yX6_init ∈ wsL_law := wsL_law_r3_big _ (List.mem_of_getElem? (i := 12) rfl)
theorem bw_3_13 : Cond.instanceMethod yX6_init ∈ wsL_law := wsL_law_r3_big _ (List.mem_of_getElem? (i := 13) rfl)
theorem bw_3_14 : Cond.code yX6_init cX6_init 2 none ∈ wsL_law := wsL_law_r3_big _ (List.mem_of_getElem? (i := 14) rfl)
theorem bw_3_15 : Cond.methodLink RX6 3 objectInit ∈ wsL_law := wsL_law_r3_big _ (List.mem_of_getElem? (i := 15) rfl)
theorem bw_3_19 : Cond.instanceMethod yX4_init ∈ wsL_law := wsL_law_r3_big _ (List.mem_of_getElem? (i := 19) rfl)
theorem bw_3_20 : Cond.code yX4_init cX4_init 1 none ∈ wsL_law := wsL_law_r3_big _ (List.mem_of_getElem? (i := 20) rfl)
theorem bw_3_21 : Cond.methodLink RX4 3 objectInit ∈ wsL_law := wsL_law_r3_big _ (List.mem_of_getElem? (i := 21) rfl)
theorem bw_4_11 : Cond.instanceMethod yX9_init ∈ wsL_law := wsL_law_r4_big _ (List.mem_of_getElem? (i := 11) rfl)
theorem bw_4_12 : Cond.code yX9_init cX9_init 1 none ∈ wsL_law := wsL_law_r4_big _ (List.mem_of_getElem? (i := 12) rfl)
theorem bw_4_13 : Cond.methodLink RX9 3 objectInit ∈ wsL_law := wsL_law_r4_big _ (List.mem_of_getElem? (i := 13) rfl)
theorem bw_4_17 : Cond.methodLink RX10 44 yX5_init ∈ wsL_law := wsL_law_r4_big _ (List.mem_of_getElem? (i := 17) rfl)
theorem bw_4_18 : Cond.instanceMethod yX5_init ∈ wsL_law := wsL_law_r4_big _ (List.mem_of_getElem? (i := 18) rfl)
theorem bw_4_19 : Cond.code yX5_init cX5_init 3 none ∈ wsL_law := wsL_law_r4_big _ (List.mem_of_getElem? (i := 19) rfl)
theorem bw_4_20 : Cond.methodLink RX5 1 objectInit ∈ wsL_law := wsL_law_r4_big _ (List.mem_of_getElem? (i := 20) rfl)
theorem bw_4_23 : Cond.classLink RX5 16 RX9 ∈ wsL_law := wsL_law_r4_big _ (List.mem_of_getElem? (i := 23) rfl)
theorem bw_5_1 : Cond.methodLink RX10 56 yX1_init ∈ wsL_law := wsL_law_r5_big _ (List.mem_of_getElem? (i := 1) rfl)
theorem bw_5_2 : Cond.instanceMethod yX1_init ∈ wsL_law := wsL_law_r5_big _ (List.mem_of_getElem? (i := 2) rfl)
theorem bw_5_3 : Cond.code yX1_init cX1_init 3 none ∈ wsL_law := wsL_law_r5_big _ (List.mem_of_getElem? (i := 3) rfl)
theorem bw_5_4 : Cond.methodLink RX1 3 objectInit ∈ wsL_law := wsL_law_r5_big _ (List.mem_of_getElem? (i := 4) rfl)
theorem bw_5_17 : Cond.methodLink RX10 65 yX3_init ∈ wsL_law := wsL_law_r5_big _ (List.mem_of_getElem? (i := 17) rfl)
theorem bw_5_18 : Cond.instanceMethod yX3_init ∈ wsL_law := wsL_law_r5_big _ (List.mem_of_getElem? (i := 18) rfl)
theorem bw_5_19 : Cond.code yX3_init cX3_init 4 none ∈ wsL_law := wsL_law_r5_big _ (List.mem_of_getElem? (i := 19) rfl)
theorem bw_5_20 : Cond.methodLink RX3 3 objectInit ∈ wsL_law := wsL_law_r5_big _ (List.mem_of_getElem? (i := 20) rfl)
theorem bw_6_0 : Cond.methodLink RX10 74 yX2_init ∈ wsL_law := wsL_law_r6_big _ (List.mem_of_getElem? (i := 0) rfl)
theorem bw_6_1 : Cond.instanceMethod yX2_init ∈ wsL_law := wsL_law_r6_big _ (List.mem_of_getElem? (i := 1) rfl)
theorem bw_6_2 : Cond.code yX2_init cX2_init 4 none ∈ wsL_law := wsL_law_r6_big _ (List.mem_of_getElem? (i := 2) rfl)
theorem bw_6_3 : Cond.methodLink RX2 3 objectInit ∈ wsL_law := wsL_law_r6_big _ (List.mem_of_getElem? (i := 3) rfl)
theorem bw_6_13 : Cond.methodLink RX10 81 yX0_init ∈ wsL_law := wsL_law_r6_big _ (List.mem_of_getElem? (i := 13) rfl)
theorem bw_6_14 : Cond.instanceMethod yX0_init ∈ wsL_law := wsL_law_r6_big _ (List.mem_of_getElem? (i := 14) rfl)
theorem bw_6_15 : Cond.code yX0_init cX0_init 3 none ∈ wsL_law := wsL_law_r6_big _ (List.mem_of_getElem? (i := 15) rfl)
theorem bw_6_16 : Cond.methodLink RX0 3 objectInit ∈ wsL_law := wsL_law_r6_big _ (List.mem_of_getElem? (i := 16) rfl)
theorem bw_6_21 : Cond.methodLink RX10 90 yX8_init ∈ wsL_law := wsL_law_r6_big _ (List.mem_of_getElem? (i := 21) rfl)
theorem bw_6_22 : Cond.instanceMethod yX8_init ∈ wsL_law := wsL_law_r6_big _ (List.mem_of_getElem? (i := 22) rfl)
theorem bw_6_23 : Cond.code yX8_init cX8_init 3 none ∈ wsL_law := wsL_law_r6_big _ (List.mem_of_getElem? (i := 23) rfl)
theorem bw_7_0 : Cond.methodLink RX8 3 objectInit ∈ wsL_law := wsL_law_r7_big _ (List.mem_of_getElem? (i := 0) rfl)
theorem bw_7_8 : Cond.methodLink RX10 97 yJ0_length_8abf5 ∈ wsL_law := wsL_law_r7_big _ (List.mem_of_getElem? (i := 8) rfl)
theorem bw_7_9 : Cond.instanceMethod yJ0_length_8abf5 ∈ wsL_law := wsL_law_r7_big _ (List.mem_of_getElem? (i := 9) rfl)
theorem bw_7_10 : Cond.selects RJ0 yJ0_length_8abf5 yJ0_length_8abf5 ∈ wsL_law := wsL_law_r7_big _ (List.mem_of_getElem? (i := 10) rfl)
theorem bw_7_11 : Cond.initialized RJ0 ∈ wsL_law := wsL_law_r7_big _ (List.mem_of_getElem? (i := 11) rfl)
theorem bw_7_12 : Cond.code yJ0_length_8abf5 cJ0_length_8abf5 1 (some .int) ∈ wsL_law := wsL_law_r7_big _ (List.mem_of_getElem? (i := 12) rfl)
theorem bw_7_13 : Cond.fieldLink RJ0 9 "java/lang/String" "value" "[B" ∈ wsL_law := wsL_law_r7_big _ (List.mem_of_getElem? (i := 13) rfl)
theorem bw_7_14 : Cond.methodLink RJ0 335 yJ0_coder_7d493 ∈ wsL_law := wsL_law_r7_big _ (List.mem_of_getElem? (i := 14) rfl)
theorem bw_7_15 : Cond.instanceMethod yJ0_coder_7d493 ∈ wsL_law := wsL_law_r7_big _ (List.mem_of_getElem? (i := 15) rfl)
theorem bw_7_16 : Cond.selects RJ0 yJ0_coder_7d493 yJ0_coder_7d493 ∈ wsL_law := wsL_law_r7_big _ (List.mem_of_getElem? (i := 16) rfl)
theorem bw_7_17 : Cond.code yJ0_coder_7d493 cJ0_coder_7d493 1 (some .byte) ∈ wsL_law := wsL_law_r7_big _ (List.mem_of_getElem? (i := 17) rfl)
theorem bw_7_18 : Cond.fieldLink RJ0 38 "java/lang/String" "COMPACT_STRINGS" "Z" ∈ wsL_law := wsL_law_r7_big _ (List.mem_of_getElem? (i := 18) rfl)
theorem bw_7_19 : Cond.fieldLink RJ0 15 "java/lang/String" "coder" "B" ∈ wsL_law := wsL_law_r7_big _ (List.mem_of_getElem? (i := 19) rfl)
theorem bw_7_20 : Cond.methodLink RX10 103 yJ0_charAt_5068e ∈ wsL_law := wsL_law_r7_big _ (List.mem_of_getElem? (i := 20) rfl)
theorem bw_7_21 : Cond.instanceMethod yJ0_charAt_5068e ∈ wsL_law := wsL_law_r7_big _ (List.mem_of_getElem? (i := 21) rfl)
theorem bw_7_22 : Cond.selects RJ0 yJ0_charAt_5068e yJ0_charAt_5068e ∈ wsL_law := wsL_law_r7_big _ (List.mem_of_getElem? (i := 22) rfl)
theorem bw_7_23 : Cond.code yJ0_charAt_5068e cJ0_charAt_5068e 2 (some .char) ∈ wsL_law := wsL_law_r7_big _ (List.mem_of_getElem? (i := 23) rfl)
theorem bw_8_0 : Cond.methodLink RJ0 492 yJ0_isLatin1_aae02 ∈ wsL_law := wsL_law_r8_big _ (List.mem_of_getElem? (i := 0) rfl)
theorem bw_8_1 : Cond.instanceMethod yJ0_isLatin1_aae02 ∈ wsL_law := wsL_law_r8_big _ (List.mem_of_getElem? (i := 1) rfl)
theorem bw_8_2 : Cond.selects RJ0 yJ0_isLatin1_aae02 yJ0_isLatin1_aae02 ∈ wsL_law := wsL_law_r8_big _ (List.mem_of_getElem? (i := 2) rfl)
theorem bw_8_3 : Cond.code yJ0_isLatin1_aae02 cJ0_isLatin1_aae02 1 (some .boolean) ∈ wsL_law := wsL_law_r8_big _ (List.mem_of_getElem? (i := 3) rfl)
theorem bw_8_4 : Cond.methodLink RJ0 495 yJ1_charAt_3b067 ∈ wsL_law := wsL_law_r8_big _ (List.mem_of_getElem? (i := 4) rfl)
theorem bw_8_5 : Cond.static yJ1_charAt_3b067 ∈ wsL_law := wsL_law_r8_big _ (List.mem_of_getElem? (i := 5) rfl)
theorem bw_8_6 : Cond.initialized RJ1 ∈ wsL_law := wsL_law_r8_big _ (List.mem_of_getElem? (i := 6) rfl)
theorem bw_8_7 : Cond.code yJ1_charAt_3b067 cJ1_charAt_3b067 2 (some .char) ∈ wsL_law := wsL_law_r8_big _ (List.mem_of_getElem? (i := 7) rfl)
theorem bw_8_8 : Cond.methodLink RJ1 9 yJ0_checkIndex_df160 ∈ wsL_law := wsL_law_r8_big _ (List.mem_of_getElem? (i := 8) rfl)
theorem bw_8_9 : Cond.static yJ0_checkIndex_df160 ∈ wsL_law := wsL_law_r8_big _ (List.mem_of_getElem? (i := 9) rfl)
theorem bw_8_10 : Cond.code yJ0_checkIndex_df160 cJ0_checkIndex_df160 2 none ∈ wsL_law := wsL_law_r8_big _ (List.mem_of_getElem? (i := 10) rfl)
theorem bw_8_11 : Cond.fieldLink RJ0 1053 "jdk/internal/util/Preconditions" "SIOOBE_FORMATTER" "Ljava/util/function/BiFunction;" ∈ wsL_law := wsL_law_r8_big _ (List.mem_of_getElem? (i := 11) rfl)
theorem bw_8_12 : Cond.methodLink RJ0 1059 yJ3_checkIndex_8e157 ∈ wsL_law := wsL_law_r8_big _ (List.mem_of_getElem? (i := 12) rfl)
theorem bw_8_13 : Cond.static yJ3_checkIndex_8e157 ∈ wsL_law := wsL_law_r8_big _ (List.mem_of_getElem? (i := 13) rfl)
theorem bw_8_14 : Cond.initialized RJ3 ∈ wsL_law := wsL_law_r8_big _ (List.mem_of_getElem? (i := 14) rfl)
theorem bw_8_15 : Cond.code yJ3_checkIndex_8e157 cJ3_checkIndex_8e157 3 (some .int) ∈ wsL_law := wsL_law_r8_big _ (List.mem_of_getElem? (i := 15) rfl)
theorem bw_8_16 : Cond.methodLink RJ0 498 yJ2_charAt_3b067 ∈ wsL_law := wsL_law_r8_big _ (List.mem_of_getElem? (i := 16) rfl)
theorem bw_8_17 : Cond.static yJ2_charAt_3b067 ∈ wsL_law := wsL_law_r8_big _ (List.mem_of_getElem? (i := 17) rfl)
theorem bw_8_18 : Cond.initialized RJ2 ∈ wsL_law := wsL_law_r8_big _ (List.mem_of_getElem? (i := 18) rfl)
theorem bw_8_19 : Cond.code yJ2_charAt_3b067 cJ2_charAt_3b067 2 (some .char) ∈ wsL_law := wsL_law_r8_big _ (List.mem_of_getElem? (i := 19) rfl)
theorem bw_8_20 : Cond.methodLink RJ2 67 yJ2_checkIndex_2214a ∈ wsL_law := wsL_law_r8_big _ (List.mem_of_getElem? (i := 20) rfl)
theorem bw_8_21 : Cond.static yJ2_checkIndex_2214a ∈ wsL_law := wsL_law_r8_big _ (List.mem_of_getElem? (i := 21) rfl)
theorem bw_8_22 : Cond.code yJ2_checkIndex_2214a cJ2_checkIndex_2214a 2 none ∈ wsL_law := wsL_law_r8_big _ (List.mem_of_getElem? (i := 22) rfl)
theorem bw_8_23 : Cond.methodLink RJ2 48 yJ2_length_9d52b ∈ wsL_law := wsL_law_r8_big _ (List.mem_of_getElem? (i := 23) rfl)
theorem bw_9_0 : Cond.static yJ2_length_9d52b ∈ wsL_law := wsL_law_r9_big _ (List.mem_of_getElem? (i := 0) rfl)
theorem bw_9_1 : Cond.code yJ2_length_9d52b cJ2_length_9d52b 1 (some .int) ∈ wsL_law := wsL_law_r9_big _ (List.mem_of_getElem? (i := 1) rfl)
theorem bw_9_2 : Cond.methodLink RJ2 414 yJ0_checkIndex_df160 ∈ wsL_law := wsL_law_r9_big _ (List.mem_of_getElem? (i := 2) rfl)
theorem bw_9_3 : Cond.methodLink RJ2 71 yJ2_getChar_3b067 ∈ wsL_law := wsL_law_r9_big _ (List.mem_of_getElem? (i := 3) rfl)
theorem bw_9_4 : Cond.static yJ2_getChar_3b067 ∈ wsL_law := wsL_law_r9_big _ (List.mem_of_getElem? (i := 4) rfl)
theorem bw_9_5 : Cond.code yJ2_getChar_3b067 cJ2_getChar_3b067 2 (some .char) ∈ wsL_law := wsL_law_r9_big _ (List.mem_of_getElem? (i := 5) rfl)
theorem bw_9_6 : Cond.fieldLink RJ2 44 "java/lang/StringUTF16" "$assertionsDisabled" "Z" ∈ wsL_law := wsL_law_r9_big _ (List.mem_of_getElem? (i := 6) rfl)
theorem bw_9_7 : Cond.fieldLink RJ2 59 "java/lang/StringUTF16" "HI_BYTE_SHIFT" "I" ∈ wsL_law := wsL_law_r9_big _ (List.mem_of_getElem? (i := 7) rfl)
theorem bw_9_8 : Cond.fieldLink RJ2 63 "java/lang/StringUTF16" "LO_BYTE_SHIFT" "I" ∈ wsL_law := wsL_law_r9_big _ (List.mem_of_getElem? (i := 8) rfl)
theorem bw_9_10 : Cond.instanceMethod yX7_add ∈ wsL_law := wsL_law_r9_big _ (List.mem_of_getElem? (i := 10) rfl)
theorem bw_9_11 : Cond.selects RX7 yX7_add yX7_add ∈ wsL_law := wsL_law_r9_big _ (List.mem_of_getElem? (i := 11) rfl)
theorem bw_9_12 : Cond.code yX7_add cX7_add 2 (some .boolean) ∈ wsL_law := wsL_law_r9_big _ (List.mem_of_getElem? (i := 12) rfl)
theorem bw_9_13 : Cond.static yX10_put ∈ wsL_law := wsL_law_r9_big _ (List.mem_of_getElem? (i := 13) rfl)
theorem bw_9_14 : Cond.code yX10_put cX10_put 3 none ∈ wsL_law := wsL_law_r9_big _ (List.mem_of_getElem? (i := 14) rfl)
theorem bw_9_16 : Cond.instanceMethod yX10_layText ∈ wsL_law := wsL_law_r9_big _ (List.mem_of_getElem? (i := 16) rfl)
theorem bw_9_17 : Cond.selects RX10 yX10_layText yX10_layText ∈ wsL_law := wsL_law_r9_big _ (List.mem_of_getElem? (i := 17) rfl)
theorem bw_9_18 : Cond.code yX10_layText cX10_layText 1 (some .boolean) ∈ wsL_law := wsL_law_r9_big _ (List.mem_of_getElem? (i := 18) rfl)
theorem bw_9_20 : Cond.instanceMethod yX6_readInto ∈ wsL_law := wsL_law_r9_big _ (List.mem_of_getElem? (i := 20) rfl)
theorem bw_9_21 : Cond.selects RX6 yX6_readInto yX6_readInto ∈ wsL_law := wsL_law_r9_big _ (List.mem_of_getElem? (i := 21) rfl)
theorem bw_9_22 : Cond.code yX6_readInto cX6_readInto 5 (some .int) ∈ wsL_law := wsL_law_r9_big _ (List.mem_of_getElem? (i := 22) rfl)
theorem bw_10_0 : Cond.instanceMethod yX4_clear ∈ wsL_law := wsL_law_r10_big _ (List.mem_of_getElem? (i := 0) rfl)
theorem bw_10_1 : Cond.selects RX4 yX4_clear yX4_clear ∈ wsL_law := wsL_law_r10_big _ (List.mem_of_getElem? (i := 1) rfl)
theorem bw_10_2 : Cond.code yX4_clear cX4_clear 1 none ∈ wsL_law := wsL_law_r10_big _ (List.mem_of_getElem? (i := 2) rfl)
theorem bw_10_3 : Cond.static yX10_fill ∈ wsL_law := wsL_law_r10_big _ (List.mem_of_getElem? (i := 3) rfl)
theorem bw_10_4 : Cond.code yX10_fill cX10_fill 3 none ∈ wsL_law := wsL_law_r10_big _ (List.mem_of_getElem? (i := 4) rfl)
theorem bw_10_6 : Cond.instanceMethod yX4_takeGrid ∈ wsL_law := wsL_law_r10_big _ (List.mem_of_getElem? (i := 6) rfl)
theorem bw_10_7 : Cond.selects RX4 yX4_takeGrid yX4_takeGrid ∈ wsL_law := wsL_law_r10_big _ (List.mem_of_getElem? (i := 7) rfl)
theorem bw_10_8 : Cond.code yX4_takeGrid cX4_takeGrid 4 (some .boolean) ∈ wsL_law := wsL_law_r10_big _ (List.mem_of_getElem? (i := 8) rfl)
theorem bw_10_9 : Cond.static yX10_within ∈ wsL_law := wsL_law_r10_big _ (List.mem_of_getElem? (i := 9) rfl)
theorem bw_10_10 : Cond.code yX10_within cX10_within 3 (some .boolean) ∈ wsL_law := wsL_law_r10_big _ (List.mem_of_getElem? (i := 10) rfl)
theorem bw_10_11 : Cond.static yX10_bit ∈ wsL_law := wsL_law_r10_big _ (List.mem_of_getElem? (i := 11) rfl)
theorem bw_10_12 : Cond.code yX10_bit cX10_bit 1 (some .int) ∈ wsL_law := wsL_law_r10_big _ (List.mem_of_getElem? (i := 12) rfl)
theorem bw_10_14 : Cond.instanceMethod yX7_length ∈ wsL_law := wsL_law_r10_big _ (List.mem_of_getElem? (i := 14) rfl)
theorem bw_10_15 : Cond.selects RX7 yX7_length yX7_length ∈ wsL_law := wsL_law_r10_big _ (List.mem_of_getElem? (i := 15) rfl)
theorem bw_10_16 : Cond.code yX7_length cX7_length 1 (some .int) ∈ wsL_law := wsL_law_r10_big _ (List.mem_of_getElem? (i := 16) rfl)
theorem bw_10_18 : Cond.instanceMethod yX6_readNumbers ∈ wsL_law := wsL_law_r10_big _ (List.mem_of_getElem? (i := 18) rfl)
theorem bw_10_19 : Cond.selects RX6 yX6_readNumbers yX6_readNumbers ∈ wsL_law := wsL_law_r10_big _ (List.mem_of_getElem? (i := 19) rfl)
theorem bw_10_20 : Cond.code yX6_readNumbers cX6_readNumbers 4 (some .int) ∈ wsL_law := wsL_law_r10_big _ (List.mem_of_getElem? (i := 20) rfl)
theorem bw_10_22 : Cond.instanceMethod yX6_readNumber ∈ wsL_law := wsL_law_r10_big _ (List.mem_of_getElem? (i := 22) rfl)
theorem bw_10_23 : Cond.selects RX6 yX6_readNumber yX6_readNumber ∈ wsL_law := wsL_law_r10_big _ (List.mem_of_getElem? (i := 23) rfl)
theorem bw_11_0 : Cond.code yX6_readNumber cX6_readNumber 3 (some .int) ∈ wsL_law := wsL_law_r11_big _ (List.mem_of_getElem? (i := 0) rfl)
theorem bw_11_2 : Cond.instanceMethod yX7_letterAt ∈ wsL_law := wsL_law_r11_big _ (List.mem_of_getElem? (i := 2) rfl)
theorem bw_11_3 : Cond.selects RX7 yX7_letterAt yX7_letterAt ∈ wsL_law := wsL_law_r11_big _ (List.mem_of_getElem? (i := 3) rfl)
theorem bw_11_4 : Cond.code yX7_letterAt cX7_letterAt 2 (some .int) ∈ wsL_law := wsL_law_r11_big _ (List.mem_of_getElem? (i := 4) rfl)
theorem bw_11_5 : Cond.static yX10_at ∈ wsL_law := wsL_law_r11_big _ (List.mem_of_getElem? (i := 5) rfl)
theorem bw_11_6 : Cond.code yX10_at cX10_at 2 (some .int) ∈ wsL_law := wsL_law_r11_big _ (List.mem_of_getElem? (i := 6) rfl)
theorem bw_11_8 : Cond.static yX6_isFigure ∈ wsL_law := wsL_law_r11_big _ (List.mem_of_getElem? (i := 8) rfl)
theorem bw_11_9 : Cond.code yX6_isFigure cX6_isFigure 1 (some .boolean) ∈ wsL_law := wsL_law_r11_big _ (List.mem_of_getElem? (i := 9) rfl)
theorem bw_11_11 : Cond.instanceMethod yX4_take ∈ wsL_law := wsL_law_r11_big _ (List.mem_of_getElem? (i := 11) rfl)
theorem bw_11_12 : Cond.selects RX4 yX4_take yX4_take ∈ wsL_law := wsL_law_r11_big _ (List.mem_of_getElem? (i := 12) rfl)
theorem bw_11_13 : Cond.code yX4_take cX4_take 7 (some .boolean) ∈ wsL_law := wsL_law_r11_big _ (List.mem_of_getElem? (i := 13) rfl)
theorem bw_11_15 : Cond.instanceMethod yX4_takeHouse ∈ wsL_law := wsL_law_r11_big _ (List.mem_of_getElem? (i := 15) rfl)
theorem bw_11_16 : Cond.selects RX4 yX4_takeHouse yX4_takeHouse ∈ wsL_law := wsL_law_r11_big _ (List.mem_of_getElem? (i := 16) rfl)
theorem bw_11_17 : Cond.code yX4_takeHouse cX4_takeHouse 4 (some .boolean) ∈ wsL_law := wsL_law_r11_big _ (List.mem_of_getElem? (i := 17) rfl)
theorem bw_11_19 : Cond.instanceMethod yX4_hasHouse ∈ wsL_law := wsL_law_r11_big _ (List.mem_of_getElem? (i := 19) rfl)
theorem bw_11_20 : Cond.selects RX4 yX4_hasHouse yX4_hasHouse ∈ wsL_law := wsL_law_r11_big _ (List.mem_of_getElem? (i := 20) rfl)
theorem bw_11_21 : Cond.code yX4_hasHouse cX4_hasHouse 2 (some .boolean) ∈ wsL_law := wsL_law_r11_big _ (List.mem_of_getElem? (i := 21) rfl)
theorem bw_11_23 : Cond.instanceMethod yX4_houses ∈ wsL_law := wsL_law_r11_big _ (List.mem_of_getElem? (i := 23) rfl)
theorem bw_12_0 : Cond.selects RX4 yX4_houses yX4_houses ∈ wsL_law := wsL_law_r12_big _ (List.mem_of_getElem? (i := 0) rfl)
theorem bw_12_1 : Cond.code yX4_houses cX4_houses 1 (some .int) ∈ wsL_law := wsL_law_r12_big _ (List.mem_of_getElem? (i := 1) rfl)
theorem bw_12_2 : Cond.static yX10_isWidth ∈ wsL_law := wsL_law_r12_big _ (List.mem_of_getElem? (i := 2) rfl)
theorem bw_12_3 : Cond.code yX10_isWidth cX10_isWidth 1 (some .boolean) ∈ wsL_law := wsL_law_r12_big _ (List.mem_of_getElem? (i := 3) rfl)
theorem bw_12_6 : Cond.instanceMethod yX4_takeNews ∈ wsL_law := wsL_law_r12_big _ (List.mem_of_getElem? (i := 6) rfl)
theorem bw_12_7 : Cond.selects RX4 yX4_takeNews yX4_takeNews ∈ wsL_law := wsL_law_r12_big _ (List.mem_of_getElem? (i := 7) rfl)
theorem bw_12_8 : Cond.code yX4_takeNews cX4_takeNews 4 (some .boolean) ∈ wsL_law := wsL_law_r12_big _ (List.mem_of_getElem? (i := 8) rfl)
theorem bw_12_10 : Cond.instanceMethod yX4_takeWind ∈ wsL_law := wsL_law_r12_big _ (List.mem_of_getElem? (i := 10) rfl)
theorem bw_12_11 : Cond.selects RX4 yX4_takeWind yX4_takeWind ∈ wsL_law := wsL_law_r12_big _ (List.mem_of_getElem? (i := 11) rfl)
theorem bw_12_12 : Cond.code yX4_takeWind cX4_takeWind 2 (some .boolean) ∈ wsL_law := wsL_law_r12_big _ (List.mem_of_getElem? (i := 12) rfl)
theorem bw_12_14 : Cond.instanceMethod yX4_newsTold ∈ wsL_law := wsL_law_r12_big _ (List.mem_of_getElem? (i := 14) rfl)
theorem bw_12_15 : Cond.selects RX4 yX4_newsTold yX4_newsTold ∈ wsL_law := wsL_law_r12_big _ (List.mem_of_getElem? (i := 15) rfl)
theorem bw_12_16 : Cond.code yX4_newsTold cX4_newsTold 1 (some .int) ∈ wsL_law := wsL_law_r12_big _ (List.mem_of_getElem? (i := 16) rfl)
theorem bw_12_18 : Cond.instanceMethod yX9_begin ∈ wsL_law := wsL_law_r12_big _ (List.mem_of_getElem? (i := 18) rfl)
theorem bw_12_19 : Cond.selects RX9 yX9_begin yX9_begin ∈ wsL_law := wsL_law_r12_big _ (List.mem_of_getElem? (i := 19) rfl)
theorem bw_12_20 : Cond.code yX9_begin cX9_begin 3 none ∈ wsL_law := wsL_law_r12_big _ (List.mem_of_getElem? (i := 20) rfl)
theorem bw_12_22 : Cond.instanceMethod yX4_sashOf ∈ wsL_law := wsL_law_r12_big _ (List.mem_of_getElem? (i := 22) rfl)
theorem bw_12_23 : Cond.selects RX4 yX4_sashOf yX4_sashOf ∈ wsL_law := wsL_law_r12_big _ (List.mem_of_getElem? (i := 23) rfl)
theorem bw_13_0 : Cond.code yX4_sashOf cX4_sashOf 2 (some .int) ∈ wsL_law := wsL_law_r13_big _ (List.mem_of_getElem? (i := 0) rfl)
theorem bw_13_2 : Cond.instanceMethod yX4_hasNews ∈ wsL_law := wsL_law_r13_big _ (List.mem_of_getElem? (i := 2) rfl)
theorem bw_13_3 : Cond.selects RX4 yX4_hasNews yX4_hasNews ∈ wsL_law := wsL_law_r13_big _ (List.mem_of_getElem? (i := 3) rfl)
theorem bw_13_4 : Cond.code yX4_hasNews cX4_hasNews 2 (some .boolean) ∈ wsL_law := wsL_law_r13_big _ (List.mem_of_getElem? (i := 4) rfl)
theorem bw_13_6 : Cond.instanceMethod yX4_beginningOf ∈ wsL_law := wsL_law_r13_big _ (List.mem_of_getElem? (i := 6) rfl)
theorem bw_13_7 : Cond.selects RX4 yX4_beginningOf yX4_beginningOf ∈ wsL_law := wsL_law_r13_big _ (List.mem_of_getElem? (i := 7) rfl)
theorem bw_13_8 : Cond.code yX4_beginningOf cX4_beginningOf 2 (some .int) ∈ wsL_law := wsL_law_r13_big _ (List.mem_of_getElem? (i := 8) rfl)
theorem bw_13_10 : Cond.instanceMethod yX5_clear ∈ wsL_law := wsL_law_r13_big _ (List.mem_of_getElem? (i := 10) rfl)
theorem bw_13_11 : Cond.selects RX5 yX5_clear yX5_clear ∈ wsL_law := wsL_law_r13_big _ (List.mem_of_getElem? (i := 11) rfl)
theorem bw_13_12 : Cond.code yX5_clear cX5_clear 1 none ∈ wsL_law := wsL_law_r13_big _ (List.mem_of_getElem? (i := 12) rfl)
theorem bw_13_14 : Cond.instanceMethod yX8_clear ∈ wsL_law := wsL_law_r13_big _ (List.mem_of_getElem? (i := 14) rfl)
theorem bw_13_15 : Cond.selects RX8 yX8_clear yX8_clear ∈ wsL_law := wsL_law_r13_big _ (List.mem_of_getElem? (i := 15) rfl)
theorem bw_13_16 : Cond.code yX8_clear cX8_clear 1 none ∈ wsL_law := wsL_law_r13_big _ (List.mem_of_getElem? (i := 16) rfl)
theorem bw_13_18 : Cond.instanceMethod yX7_clear ∈ wsL_law := wsL_law_r13_big _ (List.mem_of_getElem? (i := 18) rfl)
theorem bw_13_19 : Cond.selects RX7 yX7_clear yX7_clear ∈ wsL_law := wsL_law_r13_big _ (List.mem_of_getElem? (i := 19) rfl)
theorem bw_13_20 : Cond.code yX7_clear cX7_clear 1 none ∈ wsL_law := wsL_law_r13_big _ (List.mem_of_getElem? (i := 20) rfl)
theorem bw_13_22 : Cond.instanceMethod yX11_init ∈ wsL_law := wsL_law_r13_big _ (List.mem_of_getElem? (i := 22) rfl)
theorem bw_13_23 : Cond.code yX11_init cX11_init 1 none ∈ wsL_law := wsL_law_r13_big _ (List.mem_of_getElem? (i := 23) rfl)
theorem bw_14_0 : Cond.methodLink RX11 1 objectInit ∈ wsL_law := wsL_law_r14_big _ (List.mem_of_getElem? (i := 0) rfl)
theorem bw_14_17 : Cond.instanceMethod yX11_clearTold ∈ wsL_law := wsL_law_r14_big _ (List.mem_of_getElem? (i := 17) rfl)
theorem bw_14_18 : Cond.selects RX11 yX11_clearTold yX11_clearTold ∈ wsL_law := wsL_law_r14_big _ (List.mem_of_getElem? (i := 18) rfl)
theorem bw_14_19 : Cond.code yX11_clearTold cX11_clearTold 2 none ∈ wsL_law := wsL_law_r14_big _ (List.mem_of_getElem? (i := 19) rfl)
theorem bw_15_1 : Cond.instanceMethod yX11_tellsHouse ∈ wsL_law := wsL_law_r15_big _ (List.mem_of_getElem? (i := 1) rfl)
theorem bw_15_2 : Cond.selects RX11 yX11_tellsHouse yX11_tellsHouse ∈ wsL_law := wsL_law_r15_big _ (List.mem_of_getElem? (i := 2) rfl)
theorem bw_15_3 : Cond.code yX11_tellsHouse cX11_tellsHouse 4 none ∈ wsL_law := wsL_law_r15_big _ (List.mem_of_getElem? (i := 3) rfl)
theorem bw_15_5 : Cond.instanceMethod yX11_tellsNews ∈ wsL_law := wsL_law_r15_big _ (List.mem_of_getElem? (i := 5) rfl)
theorem bw_15_6 : Cond.selects RX11 yX11_tellsNews yX11_tellsNews ∈ wsL_law := wsL_law_r15_big _ (List.mem_of_getElem? (i := 6) rfl)
theorem bw_15_7 : Cond.code yX11_tellsNews cX11_tellsNews 4 none ∈ wsL_law := wsL_law_r15_big _ (List.mem_of_getElem? (i := 7) rfl)
theorem bw_15_9 : Cond.instanceMethod yX11_settles ∈ wsL_law := wsL_law_r15_big _ (List.mem_of_getElem? (i := 9) rfl)
theorem bw_15_10 : Cond.selects RX11 yX11_settles yX11_settles ∈ wsL_law := wsL_law_r15_big _ (List.mem_of_getElem? (i := 10) rfl)
theorem bw_15_11 : Cond.code yX11_settles cX11_settles 2 none ∈ wsL_law := wsL_law_r15_big _ (List.mem_of_getElem? (i := 11) rfl)
theorem bw_15_21 : Cond.static yX11_copies ∈ wsL_law := wsL_law_r15_big _ (List.mem_of_getElem? (i := 21) rfl)
theorem bw_15_22 : Cond.code yX11_copies cX11_copies 6 none ∈ wsL_law := wsL_law_r15_big _ (List.mem_of_getElem? (i := 22) rfl)
theorem bw_16_0 : Cond.instanceMethod yX10_write ∈ wsL_law := wsL_law_r16_big _ (List.mem_of_getElem? (i := 0) rfl)
theorem bw_16_1 : Cond.selects RX10 yX10_write yX10_write ∈ wsL_law := wsL_law_r16_big _ (List.mem_of_getElem? (i := 1) rfl)
theorem bw_16_2 : Cond.code yX10_write cX10_write 2 (some .int) ∈ wsL_law := wsL_law_r16_big _ (List.mem_of_getElem? (i := 2) rfl)
theorem bw_16_5 : Cond.instanceMethod yX11_write ∈ wsL_law := wsL_law_r16_big _ (List.mem_of_getElem? (i := 5) rfl)
theorem bw_16_6 : Cond.selects RX11 yX11_write yX11_write ∈ wsL_law := wsL_law_r16_big _ (List.mem_of_getElem? (i := 6) rfl)
theorem bw_16_7 : Cond.code yX11_write cX11_write 2 (some .int) ∈ wsL_law := wsL_law_r16_big _ (List.mem_of_getElem? (i := 7) rfl)
theorem bw_16_10 : Cond.static yX11_in ∈ wsL_law := wsL_law_r16_big _ (List.mem_of_getElem? (i := 10) rfl)
theorem bw_16_11 : Cond.code yX11_in cX11_in 3 (some .boolean) ∈ wsL_law := wsL_law_r16_big _ (List.mem_of_getElem? (i := 11) rfl)
theorem bw_16_13 : Cond.instanceMethod yX10_wipe ∈ wsL_law := wsL_law_r16_big _ (List.mem_of_getElem? (i := 13) rfl)
theorem bw_16_14 : Cond.selects RX10 yX10_wipe yX10_wipe ∈ wsL_law := wsL_law_r16_big _ (List.mem_of_getElem? (i := 14) rfl)
theorem bw_16_15 : Cond.code yX10_wipe cX10_wipe 2 (some .int) ∈ wsL_law := wsL_law_r16_big _ (List.mem_of_getElem? (i := 15) rfl)
theorem bw_16_17 : Cond.instanceMethod yX11_wipe ∈ wsL_law := wsL_law_r16_big _ (List.mem_of_getElem? (i := 17) rfl)
theorem bw_16_18 : Cond.selects RX11 yX11_wipe yX11_wipe ∈ wsL_law := wsL_law_r16_big _ (List.mem_of_getElem? (i := 18) rfl)
theorem bw_16_19 : Cond.code yX11_wipe cX11_wipe 2 (some .int) ∈ wsL_law := wsL_law_r16_big _ (List.mem_of_getElem? (i := 19) rfl)
theorem bw_16_21 : Cond.instanceMethod yX10_fault ∈ wsL_law := wsL_law_r16_big _ (List.mem_of_getElem? (i := 21) rfl)
theorem bw_16_22 : Cond.selects RX10 yX10_fault yX10_fault ∈ wsL_law := wsL_law_r16_big _ (List.mem_of_getElem? (i := 22) rfl)
theorem bw_16_23 : Cond.code yX10_fault cX10_fault 1 (some .int) ∈ wsL_law := wsL_law_r16_big _ (List.mem_of_getElem? (i := 23) rfl)
theorem bw_17_1 : Cond.instanceMethod yX11_fault ∈ wsL_law := wsL_law_r17_big _ (List.mem_of_getElem? (i := 1) rfl)
theorem bw_17_2 : Cond.selects RX11 yX11_fault yX11_fault ∈ wsL_law := wsL_law_r17_big _ (List.mem_of_getElem? (i := 2) rfl)
theorem bw_17_3 : Cond.code yX11_fault cX11_fault 2 (some .int) ∈ wsL_law := wsL_law_r17_big _ (List.mem_of_getElem? (i := 3) rfl)
theorem bw_17_6 : Cond.instanceMethod yX11_readItem ∈ wsL_law := wsL_law_r17_big _ (List.mem_of_getElem? (i := 6) rfl)
theorem bw_17_7 : Cond.selects RX11 yX11_readItem yX11_readItem ∈ wsL_law := wsL_law_r17_big _ (List.mem_of_getElem? (i := 7) rfl)
theorem bw_17_8 : Cond.code yX11_readItem cX11_readItem 2 (some .boolean) ∈ wsL_law := wsL_law_r17_big _ (List.mem_of_getElem? (i := 8) rfl)
theorem bw_17_10 : Cond.instanceMethod yX11_letterAt ∈ wsL_law := wsL_law_r17_big _ (List.mem_of_getElem? (i := 10) rfl)
theorem bw_17_11 : Cond.selects RX11 yX11_letterAt yX11_letterAt ∈ wsL_law := wsL_law_r17_big _ (List.mem_of_getElem? (i := 11) rfl)
theorem bw_17_12 : Cond.code yX11_letterAt cX11_letterAt 2 (some .int) ∈ wsL_law := wsL_law_r17_big _ (List.mem_of_getElem? (i := 12) rfl)
theorem bw_17_14 : Cond.instanceMethod yX11_readGridOf ∈ wsL_law := wsL_law_r17_big _ (List.mem_of_getElem? (i := 14) rfl)
theorem bw_17_15 : Cond.selects RX11 yX11_readGridOf yX11_readGridOf ∈ wsL_law := wsL_law_r17_big _ (List.mem_of_getElem? (i := 15) rfl)
theorem bw_17_16 : Cond.code yX11_readGridOf cX11_readGridOf 1 (some .boolean) ∈ wsL_law := wsL_law_r17_big _ (List.mem_of_getElem? (i := 16) rfl)
theorem bw_17_18 : Cond.instanceMethod yX11_readNumbers ∈ wsL_law := wsL_law_r17_big _ (List.mem_of_getElem? (i := 18) rfl)
theorem bw_17_19 : Cond.selects RX11 yX11_readNumbers yX11_readNumbers ∈ wsL_law := wsL_law_r17_big _ (List.mem_of_getElem? (i := 19) rfl)
theorem bw_17_20 : Cond.code yX11_readNumbers cX11_readNumbers 3 (some .boolean) ∈ wsL_law := wsL_law_r17_big _ (List.mem_of_getElem? (i := 20) rfl)
theorem bw_17_22 : Cond.static yX11_isFigure ∈ wsL_law := wsL_law_r17_big _ (List.mem_of_getElem? (i := 22) rfl)
theorem bw_17_23 : Cond.code yX11_isFigure cX11_isFigure 1 (some .boolean) ∈ wsL_law := wsL_law_r17_big _ (List.mem_of_getElem? (i := 23) rfl)
theorem bw_18_1 : Cond.instanceMethod yX11_isTold ∈ wsL_law := wsL_law_r18_big _ (List.mem_of_getElem? (i := 1) rfl)
theorem bw_18_2 : Cond.selects RX11 yX11_isTold yX11_isTold ∈ wsL_law := wsL_law_r18_big _ (List.mem_of_getElem? (i := 2) rfl)
theorem bw_18_3 : Cond.code yX11_isTold cX11_isTold 4 (some .boolean) ∈ wsL_law := wsL_law_r18_big _ (List.mem_of_getElem? (i := 3) rfl)
theorem bw_18_5 : Cond.instanceMethod yX11_readHouseOf ∈ wsL_law := wsL_law_r18_big _ (List.mem_of_getElem? (i := 5) rfl)
theorem bw_18_6 : Cond.selects RX11 yX11_readHouseOf yX11_readHouseOf ∈ wsL_law := wsL_law_r18_big _ (List.mem_of_getElem? (i := 6) rfl)
theorem bw_18_7 : Cond.code yX11_readHouseOf cX11_readHouseOf 1 (some .boolean) ∈ wsL_law := wsL_law_r18_big _ (List.mem_of_getElem? (i := 7) rfl)
theorem bw_18_9 : Cond.instanceMethod yX11_lastTold ∈ wsL_law := wsL_law_r18_big _ (List.mem_of_getElem? (i := 9) rfl)
theorem bw_18_10 : Cond.selects RX11 yX11_lastTold yX11_lastTold ∈ wsL_law := wsL_law_r18_big _ (List.mem_of_getElem? (i := 10) rfl)
theorem bw_18_11 : Cond.code yX11_lastTold cX11_lastTold 1 (some .int) ∈ wsL_law := wsL_law_r18_big _ (List.mem_of_getElem? (i := 11) rfl)
theorem bw_18_13 : Cond.instanceMethod yX11_readNewsOf ∈ wsL_law := wsL_law_r18_big _ (List.mem_of_getElem? (i := 13) rfl)
theorem bw_18_14 : Cond.selects RX11 yX11_readNewsOf yX11_readNewsOf ∈ wsL_law := wsL_law_r18_big _ (List.mem_of_getElem? (i := 14) rfl)
theorem bw_18_15 : Cond.code yX11_readNewsOf cX11_readNewsOf 1 (some .boolean) ∈ wsL_law := wsL_law_r18_big _ (List.mem_of_getElem? (i := 15) rfl)
theorem bw_18_17 : Cond.instanceMethod yX11_readWindOf ∈ wsL_law := wsL_law_r18_big _ (List.mem_of_getElem? (i := 17) rfl)
theorem bw_18_18 : Cond.selects RX11 yX11_readWindOf yX11_readWindOf ∈ wsL_law := wsL_law_r18_big _ (List.mem_of_getElem? (i := 18) rfl)
theorem bw_18_19 : Cond.code yX11_readWindOf cX11_readWindOf 1 (some .boolean) ∈ wsL_law := wsL_law_r18_big _ (List.mem_of_getElem? (i := 19) rfl)
theorem bw_18_21 : Cond.instanceMethod yX10_lay ∈ wsL_law := wsL_law_r18_big _ (List.mem_of_getElem? (i := 21) rfl)
theorem bw_18_22 : Cond.selects RX10 yX10_lay yX10_lay ∈ wsL_law := wsL_law_r18_big _ (List.mem_of_getElem? (i := 22) rfl)
theorem bw_18_23 : Cond.code yX10_lay cX10_lay 1 (some .int) ∈ wsL_law := wsL_law_r18_big _ (List.mem_of_getElem? (i := 23) rfl)
theorem bw_19_2 : Cond.instanceMethod yX11_lay ∈ wsL_law := wsL_law_r19_big _ (List.mem_of_getElem? (i := 2) rfl)
theorem bw_19_3 : Cond.selects RX11 yX11_lay yX11_lay ∈ wsL_law := wsL_law_r19_big _ (List.mem_of_getElem? (i := 3) rfl)
theorem bw_19_4 : Cond.code yX11_lay cX11_lay 1 (some .int) ∈ wsL_law := wsL_law_r19_big _ (List.mem_of_getElem? (i := 4) rfl)
theorem bw_19_7 : Cond.instanceMethod yX10_house ∈ wsL_law := wsL_law_r19_big _ (List.mem_of_getElem? (i := 7) rfl)
theorem bw_19_8 : Cond.selects RX10 yX10_house yX10_house ∈ wsL_law := wsL_law_r19_big _ (List.mem_of_getElem? (i := 8) rfl)
theorem bw_19_9 : Cond.code yX10_house cX10_house 3 (some .int) ∈ wsL_law := wsL_law_r19_big _ (List.mem_of_getElem? (i := 9) rfl)
theorem bw_19_12 : Cond.instanceMethod yX4_kindOf ∈ wsL_law := wsL_law_r19_big _ (List.mem_of_getElem? (i := 12) rfl)
theorem bw_19_13 : Cond.selects RX4 yX4_kindOf yX4_kindOf ∈ wsL_law := wsL_law_r19_big _ (List.mem_of_getElem? (i := 13) rfl)
theorem bw_19_14 : Cond.code yX4_kindOf cX4_kindOf 2 (some .int) ∈ wsL_law := wsL_law_r19_big _ (List.mem_of_getElem? (i := 14) rfl)
theorem bw_19_16 : Cond.instanceMethod yX9_sashOf ∈ wsL_law := wsL_law_r19_big _ (List.mem_of_getElem? (i := 16) rfl)
theorem bw_19_17 : Cond.selects RX9 yX9_sashOf yX9_sashOf ∈ wsL_law := wsL_law_r19_big _ (List.mem_of_getElem? (i := 17) rfl)
theorem bw_19_18 : Cond.code yX9_sashOf cX9_sashOf 2 (some .int) ∈ wsL_law := wsL_law_r19_big _ (List.mem_of_getElem? (i := 18) rfl)
theorem bw_19_20 : Cond.instanceMethod yX9_knownIn ∈ wsL_law := wsL_law_r19_big _ (List.mem_of_getElem? (i := 20) rfl)
theorem bw_19_21 : Cond.selects RX9 yX9_knownIn yX9_knownIn ∈ wsL_law := wsL_law_r19_big _ (List.mem_of_getElem? (i := 21) rfl)
theorem bw_19_22 : Cond.code yX9_knownIn cX9_knownIn 4 (some .int) ∈ wsL_law := wsL_law_r19_big _ (List.mem_of_getElem? (i := 22) rfl)
theorem bw_20_0 : Cond.instanceMethod yX9_whoKnows ∈ wsL_law := wsL_law_r20_big _ (List.mem_of_getElem? (i := 0) rfl)
theorem bw_20_1 : Cond.selects RX9 yX9_whoKnows yX9_whoKnows ∈ wsL_law := wsL_law_r20_big _ (List.mem_of_getElem? (i := 1) rfl)
theorem bw_20_2 : Cond.code yX9_whoKnows cX9_whoKnows 2 (some .int) ∈ wsL_law := wsL_law_r20_big _ (List.mem_of_getElem? (i := 2) rfl)
theorem bw_20_3 : Cond.static yX10_holds ∈ wsL_law := wsL_law_r20_big _ (List.mem_of_getElem? (i := 3) rfl)
theorem bw_20_4 : Cond.code yX10_holds cX10_holds 2 (some .boolean) ∈ wsL_law := wsL_law_r20_big _ (List.mem_of_getElem? (i := 4) rfl)
theorem bw_20_7 : Cond.instanceMethod yX11_house ∈ wsL_law := wsL_law_r20_big _ (List.mem_of_getElem? (i := 7) rfl)
theorem bw_20_8 : Cond.selects RX11 yX11_house yX11_house ∈ wsL_law := wsL_law_r20_big _ (List.mem_of_getElem? (i := 8) rfl)
theorem bw_20_9 : Cond.code yX11_house cX11_house 3 (some .int) ∈ wsL_law := wsL_law_r20_big _ (List.mem_of_getElem? (i := 9) rfl)
theorem bw_20_11 : Cond.instanceMethod yX11_isHouse ∈ wsL_law := wsL_law_r20_big _ (List.mem_of_getElem? (i := 11) rfl)
theorem bw_20_12 : Cond.selects RX11 yX11_isHouse yX11_isHouse ∈ wsL_law := wsL_law_r20_big _ (List.mem_of_getElem? (i := 12) rfl)
theorem bw_20_13 : Cond.code yX11_isHouse cX11_isHouse 2 (some .boolean) ∈ wsL_law := wsL_law_r20_big _ (List.mem_of_getElem? (i := 13) rfl)
theorem bw_20_15 : Cond.instanceMethod yX11_asItIs ∈ wsL_law := wsL_law_r20_big _ (List.mem_of_getElem? (i := 15) rfl)
theorem bw_20_16 : Cond.selects RX11 yX11_asItIs yX11_asItIs ∈ wsL_law := wsL_law_r20_big _ (List.mem_of_getElem? (i := 16) rfl)
theorem bw_20_17 : Cond.code yX11_asItIs cX11_asItIs 1 none ∈ wsL_law := wsL_law_r20_big _ (List.mem_of_getElem? (i := 17) rfl)
theorem bw_20_20 : Cond.instanceMethod yX11_known ∈ wsL_law := wsL_law_r20_big _ (List.mem_of_getElem? (i := 20) rfl)
theorem bw_20_21 : Cond.selects RX11 yX11_known yX11_known ∈ wsL_law := wsL_law_r20_big _ (List.mem_of_getElem? (i := 21) rfl)
theorem bw_20_22 : Cond.code yX11_known cX11_known 4 (some .int) ∈ wsL_law := wsL_law_r20_big _ (List.mem_of_getElem? (i := 22) rfl)
theorem bw_21_0 : Cond.static yX11_has ∈ wsL_law := wsL_law_r21_big _ (List.mem_of_getElem? (i := 0) rfl)
theorem bw_21_1 : Cond.code yX11_has cX11_has 2 (some .boolean) ∈ wsL_law := wsL_law_r21_big _ (List.mem_of_getElem? (i := 1) rfl)
theorem bw_21_3 : Cond.instanceMethod yX10_news ∈ wsL_law := wsL_law_r21_big _ (List.mem_of_getElem? (i := 3) rfl)
theorem bw_21_4 : Cond.selects RX10 yX10_news yX10_news ∈ wsL_law := wsL_law_r21_big _ (List.mem_of_getElem? (i := 4) rfl)
theorem bw_21_5 : Cond.code yX10_news cX10_news 3 (some .int) ∈ wsL_law := wsL_law_r21_big _ (List.mem_of_getElem? (i := 5) rfl)
theorem bw_21_8 : Cond.instanceMethod yX4_newsKindOf ∈ wsL_law := wsL_law_r21_big _ (List.mem_of_getElem? (i := 8) rfl)
theorem bw_21_9 : Cond.selects RX4 yX4_newsKindOf yX4_newsKindOf ∈ wsL_law := wsL_law_r21_big _ (List.mem_of_getElem? (i := 9) rfl)
theorem bw_21_10 : Cond.code yX4_newsKindOf cX4_newsKindOf 2 (some .int) ∈ wsL_law := wsL_law_r21_big _ (List.mem_of_getElem? (i := 10) rfl)
theorem bw_21_12 : Cond.instanceMethod yX4_weightOf ∈ wsL_law := wsL_law_r21_big _ (List.mem_of_getElem? (i := 12) rfl)
theorem bw_21_13 : Cond.selects RX4 yX4_weightOf yX4_weightOf ∈ wsL_law := wsL_law_r21_big _ (List.mem_of_getElem? (i := 13) rfl)
theorem bw_21_14 : Cond.code yX4_weightOf cX4_weightOf 2 (some .int) ∈ wsL_law := wsL_law_r21_big _ (List.mem_of_getElem? (i := 14) rfl)
theorem bw_21_18 : Cond.static yJ6_bitCount_0f7a4 ∈ wsL_law := wsL_law_r21_big _ (List.mem_of_getElem? (i := 18) rfl)
theorem bw_21_19 : Cond.initialized RJ6 ∈ wsL_law := wsL_law_r21_big _ (List.mem_of_getElem? (i := 19) rfl)
theorem bw_21_20 : Cond.code yJ6_bitCount_0f7a4 cJ6_bitCount_0f7a4 1 (some .int) ∈ wsL_law := wsL_law_r21_big _ (List.mem_of_getElem? (i := 20) rfl)
theorem bw_22_1 : Cond.instanceMethod yX11_news ∈ wsL_law := wsL_law_r22_big _ (List.mem_of_getElem? (i := 1) rfl)
theorem bw_22_2 : Cond.selects RX11 yX11_news yX11_news ∈ wsL_law := wsL_law_r22_big _ (List.mem_of_getElem? (i := 2) rfl)
theorem bw_22_3 : Cond.code yX11_news cX11_news 3 (some .int) ∈ wsL_law := wsL_law_r22_big _ (List.mem_of_getElem? (i := 3) rfl)
theorem bw_22_5 : Cond.instanceMethod yX11_isNews ∈ wsL_law := wsL_law_r22_big _ (List.mem_of_getElem? (i := 5) rfl)
theorem bw_22_6 : Cond.selects RX11 yX11_isNews yX11_isNews ∈ wsL_law := wsL_law_r22_big _ (List.mem_of_getElem? (i := 6) rfl)
theorem bw_22_7 : Cond.code yX11_isNews cX11_isNews 2 (some .boolean) ∈ wsL_law := wsL_law_r22_big _ (List.mem_of_getElem? (i := 7) rfl)
theorem bw_22_9 : Cond.static yX11_bits ∈ wsL_law := wsL_law_r22_big _ (List.mem_of_getElem? (i := 9) rfl)
theorem bw_22_10 : Cond.code yX11_bits cX11_bits 3 (some .int) ∈ wsL_law := wsL_law_r22_big _ (List.mem_of_getElem? (i := 10) rfl)
theorem bw_22_12 : Cond.instanceMethod yX10_wind ∈ wsL_law := wsL_law_r22_big _ (List.mem_of_getElem? (i := 12) rfl)
theorem bw_22_13 : Cond.selects RX10 yX10_wind yX10_wind ∈ wsL_law := wsL_law_r22_big _ (List.mem_of_getElem? (i := 13) rfl)
theorem bw_22_14 : Cond.code yX10_wind cX10_wind 2 (some .int) ∈ wsL_law := wsL_law_r22_big _ (List.mem_of_getElem? (i := 14) rfl)
theorem bw_22_16 : Cond.instanceMethod yX9_stepsGone ∈ wsL_law := wsL_law_r22_big _ (List.mem_of_getElem? (i := 16) rfl)
theorem bw_22_17 : Cond.selects RX9 yX9_stepsGone yX9_stepsGone ∈ wsL_law := wsL_law_r22_big _ (List.mem_of_getElem? (i := 17) rfl)
theorem bw_22_18 : Cond.code yX9_stepsGone cX9_stepsGone 1 (some .int) ∈ wsL_law := wsL_law_r22_big _ (List.mem_of_getElem? (i := 18) rfl)
theorem bw_22_20 : Cond.instanceMethod yX4_windOf ∈ wsL_law := wsL_law_r22_big _ (List.mem_of_getElem? (i := 20) rfl)
theorem bw_22_21 : Cond.selects RX4 yX4_windOf yX4_windOf ∈ wsL_law := wsL_law_r22_big _ (List.mem_of_getElem? (i := 21) rfl)
theorem bw_22_22 : Cond.code yX4_windOf cX4_windOf 3 (some .int) ∈ wsL_law := wsL_law_r22_big _ (List.mem_of_getElem? (i := 22) rfl)
theorem bw_23_0 : Cond.instanceMethod yX4_windsInTurn ∈ wsL_law := wsL_law_r23_big _ (List.mem_of_getElem? (i := 0) rfl)
theorem bw_23_1 : Cond.selects RX4 yX4_windsInTurn yX4_windsInTurn ∈ wsL_law := wsL_law_r23_big _ (List.mem_of_getElem? (i := 1) rfl)
theorem bw_23_2 : Cond.code yX4_windsInTurn cX4_windsInTurn 1 (some .int) ∈ wsL_law := wsL_law_r23_big _ (List.mem_of_getElem? (i := 2) rfl)
theorem bw_23_4 : Cond.static yJ9_floorMod_7cf53 ∈ wsL_law := wsL_law_r23_big _ (List.mem_of_getElem? (i := 4) rfl)
theorem bw_23_5 : Cond.initialized RJ9 ∈ wsL_law := wsL_law_r23_big _ (List.mem_of_getElem? (i := 5) rfl)
theorem bw_23_6 : Cond.code yJ9_floorMod_7cf53 cJ9_floorMod_7cf53 3 (some .int) ∈ wsL_law := wsL_law_r23_big _ (List.mem_of_getElem? (i := 6) rfl)
theorem bw_23_8 : Cond.instanceMethod yX11_wind ∈ wsL_law := wsL_law_r23_big _ (List.mem_of_getElem? (i := 8) rfl)
theorem bw_23_9 : Cond.selects RX11 yX11_wind yX11_wind ∈ wsL_law := wsL_law_r23_big _ (List.mem_of_getElem? (i := 9) rfl)
theorem bw_23_10 : Cond.code yX11_wind cX11_wind 2 (some .int) ∈ wsL_law := wsL_law_r23_big _ (List.mem_of_getElem? (i := 10) rfl)
theorem bw_23_12 : Cond.instanceMethod yX11_windOf ∈ wsL_law := wsL_law_r23_big _ (List.mem_of_getElem? (i := 12) rfl)
theorem bw_23_13 : Cond.selects RX11 yX11_windOf yX11_windOf ∈ wsL_law := wsL_law_r23_big _ (List.mem_of_getElem? (i := 13) rfl)
theorem bw_23_14 : Cond.code yX11_windOf cX11_windOf 2 (some .int) ∈ wsL_law := wsL_law_r23_big _ (List.mem_of_getElem? (i := 14) rfl)
theorem bw_23_16 : Cond.instanceMethod yX10_step ∈ wsL_law := wsL_law_r23_big _ (List.mem_of_getElem? (i := 16) rfl)
theorem bw_23_17 : Cond.selects RX10 yX10_step yX10_step ∈ wsL_law := wsL_law_r23_big _ (List.mem_of_getElem? (i := 17) rfl)
theorem bw_23_18 : Cond.code yX10_step cX10_step 3 (some .int) ∈ wsL_law := wsL_law_r23_big _ (List.mem_of_getElem? (i := 18) rfl)
theorem bw_23_20 : Cond.instanceMethod yX5_push ∈ wsL_law := wsL_law_r23_big _ (List.mem_of_getElem? (i := 20) rfl)
theorem bw_23_21 : Cond.selects RX5 yX5_push yX5_push ∈ wsL_law := wsL_law_r23_big _ (List.mem_of_getElem? (i := 21) rfl)
theorem bw_23_22 : Cond.code yX5_push cX5_push 3 none ∈ wsL_law := wsL_law_r23_big _ (List.mem_of_getElem? (i := 22) rfl)
theorem bw_24_0 : Cond.instanceMethod yX5_placeOf ∈ wsL_law := wsL_law_r24_big _ (List.mem_of_getElem? (i := 0) rfl)
theorem bw_24_1 : Cond.selects RX5 yX5_placeOf yX5_placeOf ∈ wsL_law := wsL_law_r24_big _ (List.mem_of_getElem? (i := 1) rfl)
theorem bw_24_2 : Cond.code yX5_placeOf cX5_placeOf 3 (some (.object "NewsDraughts$Standing")) ∈ wsL_law := wsL_law_r24_big _ (List.mem_of_getElem? (i := 2) rfl)
theorem bw_24_5 : Cond.instanceMethod yX9_copyOf ∈ wsL_law := wsL_law_r24_big _ (List.mem_of_getElem? (i := 5) rfl)
theorem bw_24_6 : Cond.selects RX9 yX9_copyOf yX9_copyOf ∈ wsL_law := wsL_law_r24_big _ (List.mem_of_getElem? (i := 6) rfl)
theorem bw_24_7 : Cond.code yX9_copyOf cX9_copyOf 2 none ∈ wsL_law := wsL_law_r24_big _ (List.mem_of_getElem? (i := 7) rfl)
theorem bw_24_8 : Cond.static yX10_copy ∈ wsL_law := wsL_law_r24_big _ (List.mem_of_getElem? (i := 8) rfl)
theorem bw_24_9 : Cond.code yX10_copy cX10_copy 3 none ∈ wsL_law := wsL_law_r24_big _ (List.mem_of_getElem? (i := 9) rfl)
theorem bw_24_12 : Cond.instanceMethod yX5_isFull ∈ wsL_law := wsL_law_r24_big _ (List.mem_of_getElem? (i := 12) rfl)
theorem bw_24_13 : Cond.selects RX5 yX5_isFull yX5_isFull ∈ wsL_law := wsL_law_r24_big _ (List.mem_of_getElem? (i := 13) rfl)
theorem bw_24_14 : Cond.code yX5_isFull cX5_isFull 1 (some .boolean) ∈ wsL_law := wsL_law_r24_big _ (List.mem_of_getElem? (i := 14) rfl)
theorem bw_24_16 : Cond.instanceMethod yX1_pick ∈ wsL_law := wsL_law_r24_big _ (List.mem_of_getElem? (i := 16) rfl)
theorem bw_24_17 : Cond.selects RX1 yX1_pick yX1_pick ∈ wsL_law := wsL_law_r24_big _ (List.mem_of_getElem? (i := 17) rfl)
theorem bw_24_18 : Cond.code yX1_pick cX1_pick 6 none ∈ wsL_law := wsL_law_r24_big _ (List.mem_of_getElem? (i := 18) rfl)
theorem bw_24_22 : Cond.instanceMethod yX4_columns ∈ wsL_law := wsL_law_r24_big _ (List.mem_of_getElem? (i := 22) rfl)
theorem bw_24_23 : Cond.selects RX4 yX4_columns yX4_columns ∈ wsL_law := wsL_law_r24_big _ (List.mem_of_getElem? (i := 23) rfl)
theorem bw_25_0 : Cond.code yX4_columns cX4_columns 1 (some .int) ∈ wsL_law := wsL_law_r25_big _ (List.mem_of_getElem? (i := 0) rfl)
theorem bw_25_2 : Cond.instanceMethod yX4_firstColumn ∈ wsL_law := wsL_law_r25_big _ (List.mem_of_getElem? (i := 2) rfl)
theorem bw_25_3 : Cond.selects RX4 yX4_firstColumn yX4_firstColumn ∈ wsL_law := wsL_law_r25_big _ (List.mem_of_getElem? (i := 3) rfl)
theorem bw_25_4 : Cond.code yX4_firstColumn cX4_firstColumn 1 (some .int) ∈ wsL_law := wsL_law_r25_big _ (List.mem_of_getElem? (i := 4) rfl)
theorem bw_25_6 : Cond.instanceMethod yX4_lastColumn ∈ wsL_law := wsL_law_r25_big _ (List.mem_of_getElem? (i := 6) rfl)
theorem bw_25_7 : Cond.selects RX4 yX4_lastColumn yX4_lastColumn ∈ wsL_law := wsL_law_r25_big _ (List.mem_of_getElem? (i := 7) rfl)
theorem bw_25_8 : Cond.code yX4_lastColumn cX4_lastColumn 1 (some .int) ∈ wsL_law := wsL_law_r25_big _ (List.mem_of_getElem? (i := 8) rfl)
theorem bw_25_14 : Cond.instanceMethod yX1_reopen ∈ wsL_law := wsL_law_r25_big _ (List.mem_of_getElem? (i := 14) rfl)
theorem bw_25_15 : Cond.selects RX1 yX1_reopen yX1_reopen ∈ wsL_law := wsL_law_r25_big _ (List.mem_of_getElem? (i := 15) rfl)
theorem bw_25_16 : Cond.code yX1_reopen cX1_reopen 3 none ∈ wsL_law := wsL_law_r25_big _ (List.mem_of_getElem? (i := 16) rfl)
theorem bw_25_18 : Cond.instanceMethod yX1_letsInFromTalkers ∈ wsL_law := wsL_law_r25_big _ (List.mem_of_getElem? (i := 18) rfl)
theorem bw_25_19 : Cond.selects RX1 yX1_letsInFromTalkers yX1_letsInFromTalkers ∈ wsL_law := wsL_law_r25_big _ (List.mem_of_getElem? (i := 19) rfl)
theorem bw_25_20 : Cond.code yX1_letsInFromTalkers cX1_letsInFromTalkers 3 (some .boolean) ∈ wsL_law := wsL_law_r25_big _ (List.mem_of_getElem? (i := 20) rfl)
theorem bw_25_22 : Cond.instanceMethod yX1_letsInFromGossips ∈ wsL_law := wsL_law_r25_big _ (List.mem_of_getElem? (i := 22) rfl)
theorem bw_25_23 : Cond.selects RX1 yX1_letsInFromGossips yX1_letsInFromGossips ∈ wsL_law := wsL_law_r25_big _ (List.mem_of_getElem? (i := 23) rfl)
theorem bw_26_0 : Cond.code yX1_letsInFromGossips cX1_letsInFromGossips 3 (some .boolean) ∈ wsL_law := wsL_law_r26_big _ (List.mem_of_getElem? (i := 0) rfl)
theorem bw_26_2 : Cond.instanceMethod yX1_whoKnows ∈ wsL_law := wsL_law_r26_big _ (List.mem_of_getElem? (i := 2) rfl)
theorem bw_26_3 : Cond.selects RX1 yX1_whoKnows yX1_whoKnows ∈ wsL_law := wsL_law_r26_big _ (List.mem_of_getElem? (i := 3) rfl)
theorem bw_26_4 : Cond.code yX1_whoKnows cX1_whoKnows 1 (some .int) ∈ wsL_law := wsL_law_r26_big _ (List.mem_of_getElem? (i := 4) rfl)
theorem bw_26_6 : Cond.instanceMethod yX1_along ∈ wsL_law := wsL_law_r26_big _ (List.mem_of_getElem? (i := 6) rfl)
theorem bw_26_7 : Cond.selects RX1 yX1_along yX1_along ∈ wsL_law := wsL_law_r26_big _ (List.mem_of_getElem? (i := 7) rfl)
theorem bw_26_8 : Cond.code yX1_along cX1_along 9 (some .int) ∈ wsL_law := wsL_law_r26_big _ (List.mem_of_getElem? (i := 8) rfl)
theorem bw_26_13 : Cond.instanceMethod yX1_onward ∈ wsL_law := wsL_law_r26_big _ (List.mem_of_getElem? (i := 13) rfl)
theorem bw_26_14 : Cond.selects RX1 yX1_onward yX1_onward ∈ wsL_law := wsL_law_r26_big _ (List.mem_of_getElem? (i := 14) rfl)
theorem bw_26_15 : Cond.code yX1_onward cX1_onward 6 (some .int) ∈ wsL_law := wsL_law_r26_big _ (List.mem_of_getElem? (i := 15) rfl)
theorem bw_26_17 : Cond.instanceMethod yX9_setWhoKnows ∈ wsL_law := wsL_law_r26_big _ (List.mem_of_getElem? (i := 17) rfl)
theorem bw_26_18 : Cond.selects RX9 yX9_setWhoKnows yX9_setWhoKnows ∈ wsL_law := wsL_law_r26_big _ (List.mem_of_getElem? (i := 18) rfl)
theorem bw_26_19 : Cond.code yX9_setWhoKnows cX9_setWhoKnows 3 none ∈ wsL_law := wsL_law_r26_big _ (List.mem_of_getElem? (i := 19) rfl)
theorem bw_26_21 : Cond.instanceMethod yX9_goOn ∈ wsL_law := wsL_law_r26_big _ (List.mem_of_getElem? (i := 21) rfl)
theorem bw_26_22 : Cond.selects RX9 yX9_goOn yX9_goOn ∈ wsL_law := wsL_law_r26_big _ (List.mem_of_getElem? (i := 22) rfl)
theorem bw_26_23 : Cond.code yX9_goOn cX9_goOn 2 none ∈ wsL_law := wsL_law_r26_big _ (List.mem_of_getElem? (i := 23) rfl)
theorem bw_27_1 : Cond.instanceMethod yX11_step ∈ wsL_law := wsL_law_r27_big _ (List.mem_of_getElem? (i := 1) rfl)
theorem bw_27_2 : Cond.selects RX11 yX11_step yX11_step ∈ wsL_law := wsL_law_r27_big _ (List.mem_of_getElem? (i := 2) rfl)
theorem bw_27_3 : Cond.code yX11_step cX11_step 2 (some .int) ∈ wsL_law := wsL_law_r27_big _ (List.mem_of_getElem? (i := 3) rfl)
theorem bw_27_5 : Cond.instanceMethod yX11_remembers ∈ wsL_law := wsL_law_r27_big _ (List.mem_of_getElem? (i := 5) rfl)
theorem bw_27_6 : Cond.selects RX11 yX11_remembers yX11_remembers ∈ wsL_law := wsL_law_r27_big _ (List.mem_of_getElem? (i := 6) rfl)
theorem bw_27_7 : Cond.code yX11_remembers cX11_remembers 2 none ∈ wsL_law := wsL_law_r27_big _ (List.mem_of_getElem? (i := 7) rfl)
theorem bw_27_9 : Cond.instanceMethod yX11_goes ∈ wsL_law := wsL_law_r27_big _ (List.mem_of_getElem? (i := 9) rfl)
theorem bw_27_10 : Cond.selects RX11 yX11_goes yX11_goes ∈ wsL_law := wsL_law_r27_big _ (List.mem_of_getElem? (i := 10) rfl)
theorem bw_27_11 : Cond.code yX11_goes cX11_goes 3 none ∈ wsL_law := wsL_law_r27_big _ (List.mem_of_getElem? (i := 11) rfl)
theorem bw_27_13 : Cond.instanceMethod yX11_goesBy ∈ wsL_law := wsL_law_r27_big _ (List.mem_of_getElem? (i := 13) rfl)
theorem bw_27_14 : Cond.selects RX11 yX11_goesBy yX11_goesBy ∈ wsL_law := wsL_law_r27_big _ (List.mem_of_getElem? (i := 14) rfl)
theorem bw_27_15 : Cond.code yX11_goesBy cX11_goesBy 6 none ∈ wsL_law := wsL_law_r27_big _ (List.mem_of_getElem? (i := 15) rfl)
theorem bw_27_17 : Cond.instanceMethod yX11_letsOut ∈ wsL_law := wsL_law_r27_big _ (List.mem_of_getElem? (i := 17) rfl)
theorem bw_27_18 : Cond.selects RX11 yX11_letsOut yX11_letsOut ∈ wsL_law := wsL_law_r27_big _ (List.mem_of_getElem? (i := 18) rfl)
theorem bw_27_19 : Cond.code yX11_letsOut cX11_letsOut 3 (some .boolean) ∈ wsL_law := wsL_law_r27_big _ (List.mem_of_getElem? (i := 19) rfl)
theorem bw_27_21 : Cond.instanceMethod yX11_blowsFrom ∈ wsL_law := wsL_law_r27_big _ (List.mem_of_getElem? (i := 21) rfl)
theorem bw_27_22 : Cond.selects RX11 yX11_blowsFrom yX11_blowsFrom ∈ wsL_law := wsL_law_r27_big _ (List.mem_of_getElem? (i := 22) rfl)
theorem bw_27_23 : Cond.code yX11_blowsFrom cX11_blowsFrom 6 none ∈ wsL_law := wsL_law_r27_big _ (List.mem_of_getElem? (i := 23) rfl)
theorem bw_28_1 : Cond.instanceMethod yX11_beside ∈ wsL_law := wsL_law_r28_big _ (List.mem_of_getElem? (i := 1) rfl)
theorem bw_28_2 : Cond.selects RX11 yX11_beside yX11_beside ∈ wsL_law := wsL_law_r28_big _ (List.mem_of_getElem? (i := 2) rfl)
theorem bw_28_3 : Cond.code yX11_beside cX11_beside 5 (some .int) ∈ wsL_law := wsL_law_r28_big _ (List.mem_of_getElem? (i := 3) rfl)
theorem bw_28_5 : Cond.instanceMethod yX11_letsIn ∈ wsL_law := wsL_law_r28_big _ (List.mem_of_getElem? (i := 5) rfl)
theorem bw_28_6 : Cond.selects RX11 yX11_letsIn yX11_letsIn ∈ wsL_law := wsL_law_r28_big _ (List.mem_of_getElem? (i := 6) rfl)
theorem bw_28_7 : Cond.code yX11_letsIn cX11_letsIn 5 (some .boolean) ∈ wsL_law := wsL_law_r28_big _ (List.mem_of_getElem? (i := 7) rfl)
theorem bw_28_9 : Cond.instanceMethod yX10_open ∈ wsL_law := wsL_law_r28_big _ (List.mem_of_getElem? (i := 9) rfl)
theorem bw_28_10 : Cond.selects RX10 yX10_open yX10_open ∈ wsL_law := wsL_law_r28_big _ (List.mem_of_getElem? (i := 10) rfl)
theorem bw_28_11 : Cond.code yX10_open cX10_open 4 (some .int) ∈ wsL_law := wsL_law_r28_big _ (List.mem_of_getElem? (i := 11) rfl)
theorem bw_28_14 : Cond.instanceMethod yX9_setSash ∈ wsL_law := wsL_law_r28_big _ (List.mem_of_getElem? (i := 14) rfl)
theorem bw_28_15 : Cond.selects RX9 yX9_setSash yX9_setSash ∈ wsL_law := wsL_law_r28_big _ (List.mem_of_getElem? (i := 15) rfl)
theorem bw_28_16 : Cond.code yX9_setSash cX9_setSash 3 none ∈ wsL_law := wsL_law_r28_big _ (List.mem_of_getElem? (i := 16) rfl)
theorem bw_28_18 : Cond.instanceMethod yX11_open ∈ wsL_law := wsL_law_r28_big _ (List.mem_of_getElem? (i := 18) rfl)
theorem bw_28_19 : Cond.selects RX11 yX11_open yX11_open ∈ wsL_law := wsL_law_r28_big _ (List.mem_of_getElem? (i := 19) rfl)
theorem bw_28_20 : Cond.code yX11_open cX11_open 4 (some .int) ∈ wsL_law := wsL_law_r28_big _ (List.mem_of_getElem? (i := 20) rfl)
theorem bw_28_22 : Cond.instanceMethod yX10_tell ∈ wsL_law := wsL_law_r28_big _ (List.mem_of_getElem? (i := 22) rfl)
theorem bw_28_23 : Cond.selects RX10 yX10_tell yX10_tell ∈ wsL_law := wsL_law_r28_big _ (List.mem_of_getElem? (i := 23) rfl)
theorem bw_29_0 : Cond.code yX10_tell cX10_tell 4 (some .int) ∈ wsL_law := wsL_law_r29_big _ (List.mem_of_getElem? (i := 0) rfl)
theorem bw_29_3 : Cond.instanceMethod yX11_tell ∈ wsL_law := wsL_law_r29_big _ (List.mem_of_getElem? (i := 3) rfl)
theorem bw_29_4 : Cond.selects RX11 yX11_tell yX11_tell ∈ wsL_law := wsL_law_r29_big _ (List.mem_of_getElem? (i := 4) rfl)
theorem bw_29_5 : Cond.code yX11_tell cX11_tell 3 (some .int) ∈ wsL_law := wsL_law_r29_big _ (List.mem_of_getElem? (i := 5) rfl)
theorem bw_29_7 : Cond.instanceMethod yX10_undo ∈ wsL_law := wsL_law_r29_big _ (List.mem_of_getElem? (i := 7) rfl)
theorem bw_29_8 : Cond.selects RX10 yX10_undo yX10_undo ∈ wsL_law := wsL_law_r29_big _ (List.mem_of_getElem? (i := 8) rfl)
theorem bw_29_9 : Cond.code yX10_undo cX10_undo 1 (some .int) ∈ wsL_law := wsL_law_r29_big _ (List.mem_of_getElem? (i := 9) rfl)
theorem bw_29_11 : Cond.instanceMethod yX5_popInto ∈ wsL_law := wsL_law_r29_big _ (List.mem_of_getElem? (i := 11) rfl)
theorem bw_29_12 : Cond.selects RX5 yX5_popInto yX5_popInto ∈ wsL_law := wsL_law_r29_big _ (List.mem_of_getElem? (i := 12) rfl)
theorem bw_29_13 : Cond.code yX5_popInto cX5_popInto 3 (some .boolean) ∈ wsL_law := wsL_law_r29_big _ (List.mem_of_getElem? (i := 13) rfl)
theorem bw_29_15 : Cond.instanceMethod yX5_size ∈ wsL_law := wsL_law_r29_big _ (List.mem_of_getElem? (i := 15) rfl)
theorem bw_29_16 : Cond.selects RX5 yX5_size yX5_size ∈ wsL_law := wsL_law_r29_big _ (List.mem_of_getElem? (i := 16) rfl)
theorem bw_29_17 : Cond.code yX5_size cX5_size 1 (some .int) ∈ wsL_law := wsL_law_r29_big _ (List.mem_of_getElem? (i := 17) rfl)
theorem bw_29_19 : Cond.instanceMethod yX11_undo ∈ wsL_law := wsL_law_r29_big _ (List.mem_of_getElem? (i := 19) rfl)
theorem bw_29_20 : Cond.selects RX11 yX11_undo yX11_undo ∈ wsL_law := wsL_law_r29_big _ (List.mem_of_getElem? (i := 20) rfl)
theorem bw_29_21 : Cond.code yX11_undo cX11_undo 1 (some .int) ∈ wsL_law := wsL_law_r29_big _ (List.mem_of_getElem? (i := 21) rfl)
theorem bw_29_23 : Cond.instanceMethod yX10_behind ∈ wsL_law := wsL_law_r29_big _ (List.mem_of_getElem? (i := 23) rfl)
theorem bw_30_0 : Cond.selects RX10 yX10_behind yX10_behind ∈ wsL_law := wsL_law_r30_big _ (List.mem_of_getElem? (i := 0) rfl)
theorem bw_30_1 : Cond.code yX10_behind cX10_behind 3 (some .int) ∈ wsL_law := wsL_law_r30_big _ (List.mem_of_getElem? (i := 1) rfl)
theorem bw_30_3 : Cond.instanceMethod yX3_knownBehind ∈ wsL_law := wsL_law_r30_big _ (List.mem_of_getElem? (i := 3) rfl)
theorem bw_30_4 : Cond.selects RX3 yX3_knownBehind yX3_knownBehind ∈ wsL_law := wsL_law_r30_big _ (List.mem_of_getElem? (i := 4) rfl)
theorem bw_30_5 : Cond.code yX3_knownBehind cX3_knownBehind 5 (some .int) ∈ wsL_law := wsL_law_r30_big _ (List.mem_of_getElem? (i := 5) rfl)
theorem bw_30_9 : Cond.instanceMethod yX1_hears ∈ wsL_law := wsL_law_r30_big _ (List.mem_of_getElem? (i := 9) rfl)
theorem bw_30_10 : Cond.selects RX1 yX1_hears yX1_hears ∈ wsL_law := wsL_law_r30_big _ (List.mem_of_getElem? (i := 10) rfl)
theorem bw_30_11 : Cond.code yX1_hears cX1_hears 3 (some .boolean) ∈ wsL_law := wsL_law_r30_big _ (List.mem_of_getElem? (i := 11) rfl)
theorem bw_30_14 : Cond.instanceMethod yX11_behind ∈ wsL_law := wsL_law_r30_big _ (List.mem_of_getElem? (i := 14) rfl)
theorem bw_30_15 : Cond.selects RX11 yX11_behind yX11_behind ∈ wsL_law := wsL_law_r30_big _ (List.mem_of_getElem? (i := 15) rfl)
theorem bw_30_16 : Cond.code yX11_behind cX11_behind 3 (some .int) ∈ wsL_law := wsL_law_r30_big _ (List.mem_of_getElem? (i := 16) rfl)
theorem bw_30_18 : Cond.instanceMethod yX10_when ∈ wsL_law := wsL_law_r30_big _ (List.mem_of_getElem? (i := 18) rfl)
theorem bw_30_19 : Cond.selects RX10 yX10_when yX10_when ∈ wsL_law := wsL_law_r30_big _ (List.mem_of_getElem? (i := 19) rfl)
theorem bw_30_20 : Cond.code yX10_when cX10_when 3 (some .int) ∈ wsL_law := wsL_law_r30_big _ (List.mem_of_getElem? (i := 20) rfl)
theorem bw_30_22 : Cond.instanceMethod yX3_firstHeard ∈ wsL_law := wsL_law_r30_big _ (List.mem_of_getElem? (i := 22) rfl)
theorem bw_30_23 : Cond.selects RX3 yX3_firstHeard yX3_firstHeard ∈ wsL_law := wsL_law_r30_big _ (List.mem_of_getElem? (i := 23) rfl)
theorem bw_31_0 : Cond.code yX3_firstHeard cX3_firstHeard 5 (some .int) ∈ wsL_law := wsL_law_r31_big _ (List.mem_of_getElem? (i := 0) rfl)
theorem bw_31_4 : Cond.instanceMethod yX11_when ∈ wsL_law := wsL_law_r31_big _ (List.mem_of_getElem? (i := 4) rfl)
theorem bw_31_5 : Cond.selects RX11 yX11_when yX11_when ∈ wsL_law := wsL_law_r31_big _ (List.mem_of_getElem? (i := 5) rfl)
theorem bw_31_6 : Cond.code yX11_when cX11_when 3 (some .int) ∈ wsL_law := wsL_law_r31_big _ (List.mem_of_getElem? (i := 6) rfl)
theorem bw_31_8 : Cond.instanceMethod yX11_asItIsOf ∈ wsL_law := wsL_law_r31_big _ (List.mem_of_getElem? (i := 8) rfl)
theorem bw_31_9 : Cond.selects RX11 yX11_asItIsOf yX11_asItIsOf ∈ wsL_law := wsL_law_r31_big _ (List.mem_of_getElem? (i := 9) rfl)
theorem bw_31_10 : Cond.code yX11_asItIsOf cX11_asItIsOf 2 none ∈ wsL_law := wsL_law_r31_big _ (List.mem_of_getElem? (i := 10) rfl)
theorem bw_31_12 : Cond.instanceMethod yX11_knowsBehind ∈ wsL_law := wsL_law_r31_big _ (List.mem_of_getElem? (i := 12) rfl)
theorem bw_31_13 : Cond.selects RX11 yX11_knowsBehind yX11_knowsBehind ∈ wsL_law := wsL_law_r31_big _ (List.mem_of_getElem? (i := 13) rfl)
theorem bw_31_14 : Cond.code yX11_knowsBehind cX11_knowsBehind 4 (some .int) ∈ wsL_law := wsL_law_r31_big _ (List.mem_of_getElem? (i := 14) rfl)
theorem bw_31_16 : Cond.instanceMethod yX10_last ∈ wsL_law := wsL_law_r31_big _ (List.mem_of_getElem? (i := 16) rfl)
theorem bw_31_17 : Cond.selects RX10 yX10_last yX10_last ∈ wsL_law := wsL_law_r31_big _ (List.mem_of_getElem? (i := 17) rfl)
theorem bw_31_18 : Cond.code yX10_last cX10_last 4 (some .int) ∈ wsL_law := wsL_law_r31_big _ (List.mem_of_getElem? (i := 18) rfl)
theorem bw_31_20 : Cond.instanceMethod yX3_latestHouse ∈ wsL_law := wsL_law_r31_big _ (List.mem_of_getElem? (i := 20) rfl)
theorem bw_31_21 : Cond.selects RX3 yX3_latestHouse yX3_latestHouse ∈ wsL_law := wsL_law_r31_big _ (List.mem_of_getElem? (i := 21) rfl)
theorem bw_31_22 : Cond.code yX3_latestHouse cX3_latestHouse 6 (some .int) ∈ wsL_law := wsL_law_r31_big _ (List.mem_of_getElem? (i := 22) rfl)
theorem bw_32_2 : Cond.instanceMethod yX11_last ∈ wsL_law := wsL_law_r32_big _ (List.mem_of_getElem? (i := 2) rfl)
theorem bw_32_3 : Cond.selects RX11 yX11_last yX11_last ∈ wsL_law := wsL_law_r32_big _ (List.mem_of_getElem? (i := 3) rfl)
theorem bw_32_4 : Cond.code yX11_last cX11_last 8 (some .int) ∈ wsL_law := wsL_law_r32_big _ (List.mem_of_getElem? (i := 4) rfl)
theorem bw_32_6 : Cond.instanceMethod yX10_cut ∈ wsL_law := wsL_law_r32_big _ (List.mem_of_getElem? (i := 6) rfl)
theorem bw_32_7 : Cond.selects RX10 yX10_cut yX10_cut ∈ wsL_law := wsL_law_r32_big _ (List.mem_of_getElem? (i := 7) rfl)
theorem bw_32_8 : Cond.code yX10_cut cX10_cut 5 (some .int) ∈ wsL_law := wsL_law_r32_big _ (List.mem_of_getElem? (i := 8) rfl)
theorem bw_32_10 : Cond.instanceMethod yX3_fewestStuffed ∈ wsL_law := wsL_law_r32_big _ (List.mem_of_getElem? (i := 10) rfl)
theorem bw_32_11 : Cond.selects RX3 yX3_fewestStuffed yX3_fewestStuffed ∈ wsL_law := wsL_law_r32_big _ (List.mem_of_getElem? (i := 11) rfl)
theorem bw_32_12 : Cond.code yX3_fewestStuffed cX3_fewestStuffed 7 (some .int) ∈ wsL_law := wsL_law_r32_big _ (List.mem_of_getElem? (i := 12) rfl)
theorem bw_32_15 : Cond.instanceMethod yX4_allHouses ∈ wsL_law := wsL_law_r32_big _ (List.mem_of_getElem? (i := 15) rfl)
theorem bw_32_16 : Cond.selects RX4 yX4_allHouses yX4_allHouses ∈ wsL_law := wsL_law_r32_big _ (List.mem_of_getElem? (i := 16) rfl)
theorem bw_32_17 : Cond.code yX4_allHouses cX4_allHouses 1 (some .int) ∈ wsL_law := wsL_law_r32_big _ (List.mem_of_getElem? (i := 17) rfl)
theorem bw_32_20 : Cond.instanceMethod yX1_stuff ∈ wsL_law := wsL_law_r32_big _ (List.mem_of_getElem? (i := 20) rfl)
theorem bw_32_21 : Cond.selects RX1 yX1_stuff yX1_stuff ∈ wsL_law := wsL_law_r32_big _ (List.mem_of_getElem? (i := 21) rfl)
theorem bw_32_22 : Cond.code yX1_stuff cX1_stuff 3 none ∈ wsL_law := wsL_law_r32_big _ (List.mem_of_getElem? (i := 22) rfl)
theorem bw_33_0 : Cond.instanceMethod yX11_cut ∈ wsL_law := wsL_law_r33_big _ (List.mem_of_getElem? (i := 0) rfl)
theorem bw_33_1 : Cond.selects RX11 yX11_cut yX11_cut ∈ wsL_law := wsL_law_r33_big _ (List.mem_of_getElem? (i := 1) rfl)
theorem bw_33_2 : Cond.code yX11_cut cX11_cut 6 (some .int) ∈ wsL_law := wsL_law_r33_big _ (List.mem_of_getElem? (i := 2) rfl)
theorem bw_33_4 : Cond.instanceMethod yX11_isCutBy ∈ wsL_law := wsL_law_r33_big _ (List.mem_of_getElem? (i := 4) rfl)
theorem bw_33_5 : Cond.selects RX11 yX11_isCutBy yX11_isCutBy ∈ wsL_law := wsL_law_r33_big _ (List.mem_of_getElem? (i := 5) rfl)
theorem bw_33_6 : Cond.code yX11_isCutBy cX11_isCutBy 5 (some .boolean) ∈ wsL_law := wsL_law_r33_big _ (List.mem_of_getElem? (i := 6) rfl)
theorem bw_33_8 : Cond.instanceMethod yX10_openings ∈ wsL_law := wsL_law_r33_big _ (List.mem_of_getElem? (i := 8) rfl)
theorem bw_33_9 : Cond.selects RX10 yX10_openings yX10_openings ∈ wsL_law := wsL_law_r33_big _ (List.mem_of_getElem? (i := 9) rfl)
theorem bw_33_10 : Cond.code yX10_openings cX10_openings 6 (some .int) ∈ wsL_law := wsL_law_r33_big _ (List.mem_of_getElem? (i := 10) rfl)
theorem bw_33_12 : Cond.instanceMethod yX4_hasHouses ∈ wsL_law := wsL_law_r33_big _ (List.mem_of_getElem? (i := 12) rfl)
theorem bw_33_13 : Cond.selects RX4 yX4_hasHouses yX4_hasHouses ∈ wsL_law := wsL_law_r33_big _ (List.mem_of_getElem? (i := 13) rfl)
theorem bw_33_14 : Cond.code yX4_hasHouses cX4_hasHouses 2 (some .boolean) ∈ wsL_law := wsL_law_r33_big _ (List.mem_of_getElem? (i := 14) rfl)
theorem bw_33_17 : Cond.instanceMethod yX2_pose ∈ wsL_law := wsL_law_r33_big _ (List.mem_of_getElem? (i := 17) rfl)
theorem bw_33_18 : Cond.selects RX2 yX2_pose yX2_pose ∈ wsL_law := wsL_law_r33_big _ (List.mem_of_getElem? (i := 18) rfl)
theorem bw_33_19 : Cond.code yX2_pose cX2_pose 5 none ∈ wsL_law := wsL_law_r33_big _ (List.mem_of_getElem? (i := 19) rfl)
theorem bw_33_21 : Cond.instanceMethod yX2_found ∈ wsL_law := wsL_law_r33_big _ (List.mem_of_getElem? (i := 21) rfl)
theorem bw_33_22 : Cond.selects RX2 yX2_found yX2_found ∈ wsL_law := wsL_law_r33_big _ (List.mem_of_getElem? (i := 22) rfl)
theorem bw_33_23 : Cond.code yX2_found cX2_found 4 none ∈ wsL_law := wsL_law_r33_big _ (List.mem_of_getElem? (i := 23) rfl)
theorem bw_34_2 : Cond.instanceMethod yX2_isFoundByNone ∈ wsL_law := wsL_law_r34_big _ (List.mem_of_getElem? (i := 2) rfl)
theorem bw_34_3 : Cond.selects RX2 yX2_isFoundByNone yX2_isFoundByNone ∈ wsL_law := wsL_law_r34_big _ (List.mem_of_getElem? (i := 3) rfl)
theorem bw_34_4 : Cond.code yX2_isFoundByNone cX2_isFoundByNone 1 (some .boolean) ∈ wsL_law := wsL_law_r34_big _ (List.mem_of_getElem? (i := 4) rfl)
theorem bw_34_8 : Cond.instanceMethod yX2_isSo ∈ wsL_law := wsL_law_r34_big _ (List.mem_of_getElem? (i := 8) rfl)
theorem bw_34_9 : Cond.selects RX2 yX2_isSo yX2_isSo ∈ wsL_law := wsL_law_r34_big _ (List.mem_of_getElem? (i := 9) rfl)
theorem bw_34_10 : Cond.code yX2_isSo cX2_isSo 2 (some .boolean) ∈ wsL_law := wsL_law_r34_big _ (List.mem_of_getElem? (i := 10) rfl)
theorem bw_34_12 : Cond.instanceMethod yX2_isFoundByOne ∈ wsL_law := wsL_law_r34_big _ (List.mem_of_getElem? (i := 12) rfl)
theorem bw_34_13 : Cond.selects RX2 yX2_isFoundByOne yX2_isFoundByOne ∈ wsL_law := wsL_law_r34_big _ (List.mem_of_getElem? (i := 13) rfl)
theorem bw_34_14 : Cond.code yX2_isFoundByOne cX2_isFoundByOne 3 (some .boolean) ∈ wsL_law := wsL_law_r34_big _ (List.mem_of_getElem? (i := 14) rfl)
theorem bw_34_17 : Cond.instanceMethod yX2_fittingWidth ∈ wsL_law := wsL_law_r34_big _ (List.mem_of_getElem? (i := 17) rfl)
theorem bw_34_18 : Cond.selects RX2 yX2_fittingWidth yX2_fittingWidth ∈ wsL_law := wsL_law_r34_big _ (List.mem_of_getElem? (i := 18) rfl)
theorem bw_34_19 : Cond.code yX2_fittingWidth cX2_fittingWidth 4 (some .int) ∈ wsL_law := wsL_law_r34_big _ (List.mem_of_getElem? (i := 19) rfl)
theorem bw_34_21 : Cond.instanceMethod yX1_isAnother ∈ wsL_law := wsL_law_r34_big _ (List.mem_of_getElem? (i := 21) rfl)
theorem bw_34_22 : Cond.selects RX1 yX1_isAnother yX1_isAnother ∈ wsL_law := wsL_law_r34_big _ (List.mem_of_getElem? (i := 22) rfl)
theorem bw_34_23 : Cond.code yX1_isAnother cX1_isAnother 3 (some .boolean) ∈ wsL_law := wsL_law_r34_big _ (List.mem_of_getElem? (i := 23) rfl)
theorem bw_35_3 : Cond.instanceMethod yX2_findByTwo ∈ wsL_law := wsL_law_r35_big _ (List.mem_of_getElem? (i := 3) rfl)
theorem bw_35_4 : Cond.selects RX2 yX2_findByTwo yX2_findByTwo ∈ wsL_law := wsL_law_r35_big _ (List.mem_of_getElem? (i := 4) rfl)
theorem bw_35_5 : Cond.code yX2_findByTwo cX2_findByTwo 3 none ∈ wsL_law := wsL_law_r35_big _ (List.mem_of_getElem? (i := 5) rfl)
theorem bw_35_7 : Cond.instanceMethod yX2_isFoundWith ∈ wsL_law := wsL_law_r35_big _ (List.mem_of_getElem? (i := 7) rfl)
theorem bw_35_8 : Cond.selects RX2 yX2_isFoundWith yX2_isFoundWith ∈ wsL_law := wsL_law_r35_big _ (List.mem_of_getElem? (i := 8) rfl)
theorem bw_35_9 : Cond.code yX2_isFoundWith cX2_isFoundWith 5 (some .boolean) ∈ wsL_law := wsL_law_r35_big _ (List.mem_of_getElem? (i := 9) rfl)
theorem bw_35_11 : Cond.instanceMethod yX2_answer ∈ wsL_law := wsL_law_r35_big _ (List.mem_of_getElem? (i := 11) rfl)
theorem bw_35_12 : Cond.selects RX2 yX2_answer yX2_answer ∈ wsL_law := wsL_law_r35_big _ (List.mem_of_getElem? (i := 12) rfl)
theorem bw_35_13 : Cond.code yX2_answer cX2_answer 2 (some .int) ∈ wsL_law := wsL_law_r35_big _ (List.mem_of_getElem? (i := 13) rfl)
theorem bw_35_15 : Cond.instanceMethod yX11_openings ∈ wsL_law := wsL_law_r35_big _ (List.mem_of_getElem? (i := 15) rfl)
theorem bw_35_16 : Cond.selects RX11 yX11_openings yX11_openings ∈ wsL_law := wsL_law_r35_big _ (List.mem_of_getElem? (i := 16) rfl)
theorem bw_35_17 : Cond.code yX11_openings cX11_openings 8 (some .int) ∈ wsL_law := wsL_law_r35_big _ (List.mem_of_getElem? (i := 17) rfl)
theorem bw_35_21 : Cond.instanceMethod yX11_findWay ∈ wsL_law := wsL_law_r35_big _ (List.mem_of_getElem? (i := 21) rfl)
theorem bw_35_22 : Cond.selects RX11 yX11_findWay yX11_findWay ∈ wsL_law := wsL_law_r35_big _ (List.mem_of_getElem? (i := 22) rfl)
theorem bw_35_23 : Cond.code yX11_findWay cX11_findWay 10 (some .boolean) ∈ wsL_law := wsL_law_r35_big _ (List.mem_of_getElem? (i := 23) rfl)
theorem bw_36_1 : Cond.instanceMethod yX11_isSoBy ∈ wsL_law := wsL_law_r36_big _ (List.mem_of_getElem? (i := 1) rfl)
theorem bw_36_2 : Cond.selects RX11 yX11_isSoBy yX11_isSoBy ∈ wsL_law := wsL_law_r36_big _ (List.mem_of_getElem? (i := 2) rfl)
theorem bw_36_3 : Cond.code yX11_isSoBy cX11_isSoBy 5 (some .boolean) ∈ wsL_law := wsL_law_r36_big _ (List.mem_of_getElem? (i := 3) rfl)
theorem bw_36_5 : Cond.instanceMethod yX10_bears ∈ wsL_law := wsL_law_r36_big _ (List.mem_of_getElem? (i := 5) rfl)
theorem bw_36_6 : Cond.selects RX10 yX10_bears yX10_bears ∈ wsL_law := wsL_law_r36_big _ (List.mem_of_getElem? (i := 6) rfl)
theorem bw_36_7 : Cond.code yX10_bears cX10_bears 3 (some .int) ∈ wsL_law := wsL_law_r36_big _ (List.mem_of_getElem? (i := 7) rfl)
theorem bw_36_9 : Cond.instanceMethod yX3_widestBorne ∈ wsL_law := wsL_law_r36_big _ (List.mem_of_getElem? (i := 9) rfl)
theorem bw_36_10 : Cond.selects RX3 yX3_widestBorne yX3_widestBorne ∈ wsL_law := wsL_law_r36_big _ (List.mem_of_getElem? (i := 10) rfl)
theorem bw_36_11 : Cond.code yX3_widestBorne cX3_widestBorne 4 (some .int) ∈ wsL_law := wsL_law_r36_big _ (List.mem_of_getElem? (i := 11) rfl)
theorem bw_36_13 : Cond.instanceMethod yX3_burden ∈ wsL_law := wsL_law_r36_big _ (List.mem_of_getElem? (i := 13) rfl)
theorem bw_36_14 : Cond.selects RX3 yX3_burden yX3_burden ∈ wsL_law := wsL_law_r36_big _ (List.mem_of_getElem? (i := 14) rfl)
theorem bw_36_15 : Cond.code yX3_burden cX3_burden 5 (some .int) ∈ wsL_law := wsL_law_r36_big _ (List.mem_of_getElem? (i := 15) rfl)
theorem bw_36_19 : Cond.instanceMethod yX11_bears ∈ wsL_law := wsL_law_r36_big _ (List.mem_of_getElem? (i := 19) rfl)
theorem bw_36_20 : Cond.selects RX11 yX11_bears yX11_bears ∈ wsL_law := wsL_law_r36_big _ (List.mem_of_getElem? (i := 20) rfl)
theorem bw_36_21 : Cond.code yX11_bears cX11_bears 4 (some .int) ∈ wsL_law := wsL_law_r36_big _ (List.mem_of_getElem? (i := 21) rfl)
theorem bw_36_23 : Cond.instanceMethod yX11_heavy ∈ wsL_law := wsL_law_r36_big _ (List.mem_of_getElem? (i := 23) rfl)
theorem bw_37_0 : Cond.selects RX11 yX11_heavy yX11_heavy ∈ wsL_law := wsL_law_r37_big _ (List.mem_of_getElem? (i := 0) rfl)
theorem bw_37_1 : Cond.code yX11_heavy cX11_heavy 4 (some .int) ∈ wsL_law := wsL_law_r37_big _ (List.mem_of_getElem? (i := 1) rfl)
theorem bw_37_3 : Cond.instanceMethod yX10_quarrel ∈ wsL_law := wsL_law_r37_big _ (List.mem_of_getElem? (i := 3) rfl)
theorem bw_37_4 : Cond.selects RX10 yX10_quarrel yX10_quarrel ∈ wsL_law := wsL_law_r37_big _ (List.mem_of_getElem? (i := 4) rfl)
theorem bw_37_5 : Cond.code yX10_quarrel cX10_quarrel 6 (some .int) ∈ wsL_law := wsL_law_r37_big _ (List.mem_of_getElem? (i := 5) rfl)
theorem bw_37_7 : Cond.instanceMethod yX3_bestToOpen ∈ wsL_law := wsL_law_r37_big _ (List.mem_of_getElem? (i := 7) rfl)
theorem bw_37_8 : Cond.selects RX3 yX3_bestToOpen yX3_bestToOpen ∈ wsL_law := wsL_law_r37_big _ (List.mem_of_getElem? (i := 8) rfl)
theorem bw_37_9 : Cond.code yX3_bestToOpen cX3_bestToOpen 5 (some .int) ∈ wsL_law := wsL_law_r37_big _ (List.mem_of_getElem? (i := 9) rfl)
theorem bw_37_11 : Cond.instanceMethod yX3_hearsInSpite ∈ wsL_law := wsL_law_r37_big _ (List.mem_of_getElem? (i := 11) rfl)
theorem bw_37_12 : Cond.selects RX3 yX3_hearsInSpite yX3_hearsInSpite ∈ wsL_law := wsL_law_r37_big _ (List.mem_of_getElem? (i := 12) rfl)
theorem bw_37_13 : Cond.code yX3_hearsInSpite cX3_hearsInSpite 8 (some .boolean) ∈ wsL_law := wsL_law_r37_big _ (List.mem_of_getElem? (i := 13) rfl)
theorem bw_38_0 : Cond.instanceMethod yX1_sashOf ∈ wsL_law := wsL_law_r38_big _ (List.mem_of_getElem? (i := 0) rfl)
theorem bw_38_1 : Cond.selects RX1 yX1_sashOf yX1_sashOf ∈ wsL_law := wsL_law_r38_big _ (List.mem_of_getElem? (i := 1) rfl)
theorem bw_38_2 : Cond.code yX1_sashOf cX1_sashOf 2 (some .int) ∈ wsL_law := wsL_law_r38_big _ (List.mem_of_getElem? (i := 2) rfl)
theorem bw_38_5 : Cond.instanceMethod yX11_quarrel ∈ wsL_law := wsL_law_r38_big _ (List.mem_of_getElem? (i := 5) rfl)
theorem bw_38_6 : Cond.selects RX11 yX11_quarrel yX11_quarrel ∈ wsL_law := wsL_law_r38_big _ (List.mem_of_getElem? (i := 6) rfl)
theorem bw_38_7 : Cond.code yX11_quarrel cX11_quarrel 7 (some .int) ∈ wsL_law := wsL_law_r38_big _ (List.mem_of_getElem? (i := 7) rfl)
theorem bw_38_9 : Cond.instanceMethod yX11_isWon ∈ wsL_law := wsL_law_r38_big _ (List.mem_of_getElem? (i := 9) rfl)
theorem bw_38_10 : Cond.selects RX11 yX11_isWon yX11_isWon ∈ wsL_law := wsL_law_r38_big _ (List.mem_of_getElem? (i := 10) rfl)
theorem bw_38_11 : Cond.code yX11_isWon cX11_isWon 7 (some .boolean) ∈ wsL_law := wsL_law_r38_big _ (List.mem_of_getElem? (i := 11) rfl)
theorem bw_38_13 : Cond.instanceMethod yX11_knowsBy ∈ wsL_law := wsL_law_r38_big _ (List.mem_of_getElem? (i := 13) rfl)
theorem bw_38_14 : Cond.selects RX11 yX11_knowsBy yX11_knowsBy ∈ wsL_law := wsL_law_r38_big _ (List.mem_of_getElem? (i := 14) rfl)
theorem bw_38_15 : Cond.code yX11_knowsBy cX11_knowsBy 6 (some .boolean) ∈ wsL_law := wsL_law_r38_big _ (List.mem_of_getElem? (i := 15) rfl)
theorem bw_38_17 : Cond.instanceMethod yX10_see ∈ wsL_law := wsL_law_r38_big _ (List.mem_of_getElem? (i := 17) rfl)
theorem bw_38_18 : Cond.selects RX10 yX10_see yX10_see ∈ wsL_law := wsL_law_r38_big _ (List.mem_of_getElem? (i := 18) rfl)
theorem bw_38_19 : Cond.code yX10_see cX10_see 5 (some .int) ∈ wsL_law := wsL_law_r38_big _ (List.mem_of_getElem? (i := 19) rfl)
theorem bw_38_21 : Cond.instanceMethod yX8_add ∈ wsL_law := wsL_law_r38_big _ (List.mem_of_getElem? (i := 21) rfl)
theorem bw_38_22 : Cond.selects RX8 yX8_add yX8_add ∈ wsL_law := wsL_law_r38_big _ (List.mem_of_getElem? (i := 22) rfl)
theorem bw_38_23 : Cond.code yX8_add cX8_add 5 (some .boolean) ∈ wsL_law := wsL_law_r38_big _ (List.mem_of_getElem? (i := 23) rfl)
theorem bw_39_1 : Cond.instanceMethod yX8_size ∈ wsL_law := wsL_law_r39_big _ (List.mem_of_getElem? (i := 1) rfl)
theorem bw_39_2 : Cond.selects RX8 yX8_size yX8_size ∈ wsL_law := wsL_law_r39_big _ (List.mem_of_getElem? (i := 2) rfl)
theorem bw_39_3 : Cond.code yX8_size cX8_size 1 (some .int) ∈ wsL_law := wsL_law_r39_big _ (List.mem_of_getElem? (i := 3) rfl)
theorem bw_39_5 : Cond.instanceMethod yX11_see ∈ wsL_law := wsL_law_r39_big _ (List.mem_of_getElem? (i := 5) rfl)
theorem bw_39_6 : Cond.selects RX11 yX11_see yX11_see ∈ wsL_law := wsL_law_r39_big _ (List.mem_of_getElem? (i := 6) rfl)
theorem bw_39_7 : Cond.code yX11_see cX11_see 5 (some .int) ∈ wsL_law := wsL_law_r39_big _ (List.mem_of_getElem? (i := 7) rfl)
theorem bw_39_9 : Cond.instanceMethod yX10_forget ∈ wsL_law := wsL_law_r39_big _ (List.mem_of_getElem? (i := 9) rfl)
theorem bw_39_10 : Cond.selects RX10 yX10_forget yX10_forget ∈ wsL_law := wsL_law_r39_big _ (List.mem_of_getElem? (i := 10) rfl)
theorem bw_39_11 : Cond.code yX10_forget cX10_forget 2 (some .int) ∈ wsL_law := wsL_law_r39_big _ (List.mem_of_getElem? (i := 11) rfl)
theorem bw_39_13 : Cond.instanceMethod yX11_forget ∈ wsL_law := wsL_law_r39_big _ (List.mem_of_getElem? (i := 13) rfl)
theorem bw_39_14 : Cond.selects RX11 yX11_forget yX11_forget ∈ wsL_law := wsL_law_r39_big _ (List.mem_of_getElem? (i := 14) rfl)
theorem bw_39_15 : Cond.code yX11_forget cX11_forget 2 (some .int) ∈ wsL_law := wsL_law_r39_big _ (List.mem_of_getElem? (i := 15) rfl)
theorem bw_39_17 : Cond.instanceMethod yX10_began ∈ wsL_law := wsL_law_r39_big _ (List.mem_of_getElem? (i := 17) rfl)
theorem bw_39_18 : Cond.selects RX10 yX10_began yX10_began ∈ wsL_law := wsL_law_r39_big _ (List.mem_of_getElem? (i := 18) rfl)
theorem bw_39_19 : Cond.code yX10_began cX10_began 2 (some .int) ∈ wsL_law := wsL_law_r39_big _ (List.mem_of_getElem? (i := 19) rfl)
theorem bw_39_21 : Cond.instanceMethod yX8_beginnings ∈ wsL_law := wsL_law_r39_big _ (List.mem_of_getElem? (i := 21) rfl)
theorem bw_39_22 : Cond.selects RX8 yX8_beginnings yX8_beginnings ∈ wsL_law := wsL_law_r39_big _ (List.mem_of_getElem? (i := 22) rfl)
theorem bw_39_23 : Cond.code yX8_beginnings cX8_beginnings 4 (some .int) ∈ wsL_law := wsL_law_r39_big _ (List.mem_of_getElem? (i := 23) rfl)
theorem bw_40_2 : Cond.instanceMethod yX8_allSoFrom ∈ wsL_law := wsL_law_r40_big _ (List.mem_of_getElem? (i := 2) rfl)
theorem bw_40_3 : Cond.selects RX8 yX8_allSoFrom yX8_allSoFrom ∈ wsL_law := wsL_law_r40_big _ (List.mem_of_getElem? (i := 3) rfl)
theorem bw_40_4 : Cond.code yX8_allSoFrom cX8_allSoFrom 4 (some .boolean) ∈ wsL_law := wsL_law_r40_big _ (List.mem_of_getElem? (i := 4) rfl)
theorem bw_40_8 : Cond.instanceMethod yX8_isSo ∈ wsL_law := wsL_law_r40_big _ (List.mem_of_getElem? (i := 8) rfl)
theorem bw_40_9 : Cond.selects RX8 yX8_isSo yX8_isSo ∈ wsL_law := wsL_law_r40_big _ (List.mem_of_getElem? (i := 9) rfl)
theorem bw_40_10 : Cond.code yX8_isSo cX8_isSo 3 (some .boolean) ∈ wsL_law := wsL_law_r40_big _ (List.mem_of_getElem? (i := 10) rfl)
theorem bw_40_12 : Cond.instanceMethod yX11_began ∈ wsL_law := wsL_law_r40_big _ (List.mem_of_getElem? (i := 12) rfl)
theorem bw_40_13 : Cond.selects RX11 yX11_began yX11_began ∈ wsL_law := wsL_law_r40_big _ (List.mem_of_getElem? (i := 13) rfl)
theorem bw_40_14 : Cond.code yX11_began cX11_began 4 (some .int) ∈ wsL_law := wsL_law_r40_big _ (List.mem_of_getElem? (i := 14) rfl)
theorem bw_40_16 : Cond.instanceMethod yX11_isSoAll ∈ wsL_law := wsL_law_r40_big _ (List.mem_of_getElem? (i := 16) rfl)
theorem bw_40_17 : Cond.selects RX11 yX11_isSoAll yX11_isSoAll ∈ wsL_law := wsL_law_r40_big _ (List.mem_of_getElem? (i := 17) rfl)
theorem bw_40_18 : Cond.code yX11_isSoAll cX11_isSoAll 5 (some .boolean) ∈ wsL_law := wsL_law_r40_big _ (List.mem_of_getElem? (i := 18) rfl)
theorem bw_40_20 : Cond.instanceMethod yX11_isSo ∈ wsL_law := wsL_law_r40_big _ (List.mem_of_getElem? (i := 20) rfl)
theorem bw_40_21 : Cond.selects RX11 yX11_isSo yX11_isSo ∈ wsL_law := wsL_law_r40_big _ (List.mem_of_getElem? (i := 21) rfl)
theorem bw_40_22 : Cond.code yX11_isSo cX11_isSo 5 (some .boolean) ∈ wsL_law := wsL_law_r40_big _ (List.mem_of_getElem? (i := 22) rfl)
theorem bw_41_0 : Cond.instanceMethod yX10_blew ∈ wsL_law := wsL_law_r41_big _ (List.mem_of_getElem? (i := 0) rfl)
theorem bw_41_1 : Cond.selects RX10 yX10_blew yX10_blew ∈ wsL_law := wsL_law_r41_big _ (List.mem_of_getElem? (i := 1) rfl)
theorem bw_41_2 : Cond.code yX10_blew cX10_blew 1 (some .int) ∈ wsL_law := wsL_law_r41_big _ (List.mem_of_getElem? (i := 2) rfl)
theorem bw_41_4 : Cond.instanceMethod yX8_nextWinds ∈ wsL_law := wsL_law_r41_big _ (List.mem_of_getElem? (i := 4) rfl)
theorem bw_41_5 : Cond.selects RX8 yX8_nextWinds yX8_nextWinds ∈ wsL_law := wsL_law_r41_big _ (List.mem_of_getElem? (i := 5) rfl)
theorem bw_41_6 : Cond.code yX8_nextWinds cX8_nextWinds 3 (some .int) ∈ wsL_law := wsL_law_r41_big _ (List.mem_of_getElem? (i := 6) rfl)
theorem bw_41_8 : Cond.instanceMethod yX8_allSoBy ∈ wsL_law := wsL_law_r41_big _ (List.mem_of_getElem? (i := 8) rfl)
theorem bw_41_9 : Cond.selects RX8 yX8_allSoBy yX8_allSoBy ∈ wsL_law := wsL_law_r41_big _ (List.mem_of_getElem? (i := 9) rfl)
theorem bw_41_10 : Cond.code yX8_allSoBy cX8_allSoBy 4 (some .boolean) ∈ wsL_law := wsL_law_r41_big _ (List.mem_of_getElem? (i := 10) rfl)
theorem bw_41_14 : Cond.instanceMethod yX11_blew ∈ wsL_law := wsL_law_r41_big _ (List.mem_of_getElem? (i := 14) rfl)
theorem bw_41_15 : Cond.selects RX11 yX11_blew yX11_blew ∈ wsL_law := wsL_law_r41_big _ (List.mem_of_getElem? (i := 15) rfl)
theorem bw_41_16 : Cond.code yX11_blew cX11_blew 3 (some .int) ∈ wsL_law := wsL_law_r41_big _ (List.mem_of_getElem? (i := 16) rfl)
theorem bw_41_18 : Cond.instanceMethod yX10_gusts ∈ wsL_law := wsL_law_r41_big _ (List.mem_of_getElem? (i := 18) rfl)
theorem bw_41_19 : Cond.selects RX10 yX10_gusts yX10_gusts ∈ wsL_law := wsL_law_r41_big _ (List.mem_of_getElem? (i := 19) rfl)
theorem bw_41_20 : Cond.code yX10_gusts cX10_gusts 5 (some .int) ∈ wsL_law := wsL_law_r41_big _ (List.mem_of_getElem? (i := 20) rfl)
theorem bw_41_22 : Cond.instanceMethod yX0_gustsThatReach ∈ wsL_law := wsL_law_r41_big _ (List.mem_of_getElem? (i := 22) rfl)
theorem bw_41_23 : Cond.selects RX0 yX0_gustsThatReach yX0_gustsThatReach ∈ wsL_law := wsL_law_r41_big _ (List.mem_of_getElem? (i := 23) rfl)
theorem bw_42_0 : Cond.code yX0_gustsThatReach cX0_gustsThatReach 8 (some .int) ∈ wsL_law := wsL_law_r42_big _ (List.mem_of_getElem? (i := 0) rfl)
theorem bw_42_3 : Cond.static yX0_waysOf ∈ wsL_law := wsL_law_r42_big _ (List.mem_of_getElem? (i := 3) rfl)
theorem bw_42_4 : Cond.code yX0_waysOf cX0_waysOf 1 (some .int) ∈ wsL_law := wsL_law_r42_big _ (List.mem_of_getElem? (i := 4) rfl)
theorem bw_42_8 : Cond.instanceMethod yX0_inLowestTerms ∈ wsL_law := wsL_law_r42_big _ (List.mem_of_getElem? (i := 8) rfl)
theorem bw_42_9 : Cond.selects RX0 yX0_inLowestTerms yX0_inLowestTerms ∈ wsL_law := wsL_law_r42_big _ (List.mem_of_getElem? (i := 9) rfl)
theorem bw_42_10 : Cond.code yX0_inLowestTerms cX0_inLowestTerms 7 (some .int) ∈ wsL_law := wsL_law_r42_big _ (List.mem_of_getElem? (i := 10) rfl)
theorem bw_42_12 : Cond.instanceMethod yX11_gusts ∈ wsL_law := wsL_law_r42_big _ (List.mem_of_getElem? (i := 12) rfl)
theorem bw_42_13 : Cond.selects RX11 yX11_gusts yX11_gusts ∈ wsL_law := wsL_law_r42_big _ (List.mem_of_getElem? (i := 13) rfl)
theorem bw_42_14 : Cond.code yX11_gusts cX11_gusts 10 (some .int) ∈ wsL_law := wsL_law_r42_big _ (List.mem_of_getElem? (i := 14) rfl)
theorem bw_42_16 : Cond.instanceMethod yX10_year ∈ wsL_law := wsL_law_r42_big _ (List.mem_of_getElem? (i := 16) rfl)
theorem bw_42_17 : Cond.selects RX10 yX10_year yX10_year ∈ wsL_law := wsL_law_r42_big _ (List.mem_of_getElem? (i := 17) rfl)
theorem bw_42_18 : Cond.code yX10_year cX10_year 4 (some .int) ∈ wsL_law := wsL_law_r42_big _ (List.mem_of_getElem? (i := 18) rfl)
theorem bw_42_20 : Cond.instanceMethod yX0_runYear ∈ wsL_law := wsL_law_r42_big _ (List.mem_of_getElem? (i := 20) rfl)
theorem bw_42_21 : Cond.selects RX0 yX0_runYear yX0_runYear ∈ wsL_law := wsL_law_r42_big _ (List.mem_of_getElem? (i := 21) rfl)
theorem bw_42_22 : Cond.code yX0_runYear cX0_runYear 7 none ∈ wsL_law := wsL_law_r42_big _ (List.mem_of_getElem? (i := 22) rfl)
theorem bw_43_1 : Cond.static yX0_draw ∈ wsL_law := wsL_law_r43_big _ (List.mem_of_getElem? (i := 1) rfl)
theorem bw_43_2 : Cond.code yX0_draw cX0_draw 4 (some .int) ∈ wsL_law := wsL_law_r43_big _ (List.mem_of_getElem? (i := 2) rfl)
theorem bw_43_8 : Cond.instanceMethod yX0_openByDraw ∈ wsL_law := wsL_law_r43_big _ (List.mem_of_getElem? (i := 8) rfl)
theorem bw_43_9 : Cond.selects RX0 yX0_openByDraw yX0_openByDraw ∈ wsL_law := wsL_law_r43_big _ (List.mem_of_getElem? (i := 9) rfl)
theorem bw_43_10 : Cond.code yX0_openByDraw cX0_openByDraw 3 none ∈ wsL_law := wsL_law_r43_big _ (List.mem_of_getElem? (i := 10) rfl)
theorem bw_43_16 : Cond.instanceMethod yX0_housesThatKnow ∈ wsL_law := wsL_law_r43_big _ (List.mem_of_getElem? (i := 16) rfl)
theorem bw_43_17 : Cond.selects RX0 yX0_housesThatKnow yX0_housesThatKnow ∈ wsL_law := wsL_law_r43_big _ (List.mem_of_getElem? (i := 17) rfl)
theorem bw_43_18 : Cond.code yX0_housesThatKnow cX0_housesThatKnow 1 (some .int) ∈ wsL_law := wsL_law_r43_big _ (List.mem_of_getElem? (i := 18) rfl)
theorem bw_43_20 : Cond.instanceMethod yX0_timesHeard ∈ wsL_law := wsL_law_r43_big _ (List.mem_of_getElem? (i := 20) rfl)
theorem bw_43_21 : Cond.selects RX0 yX0_timesHeard yX0_timesHeard ∈ wsL_law := wsL_law_r43_big _ (List.mem_of_getElem? (i := 21) rfl)
theorem bw_43_22 : Cond.code yX0_timesHeard cX0_timesHeard 1 (some .int) ∈ wsL_law := wsL_law_r43_big _ (List.mem_of_getElem? (i := 22) rfl)
theorem bw_44_0 : Cond.instanceMethod yX11_year ∈ wsL_law := wsL_law_r44_big _ (List.mem_of_getElem? (i := 0) rfl)
theorem bw_44_1 : Cond.selects RX11 yX11_year yX11_year ∈ wsL_law := wsL_law_r44_big _ (List.mem_of_getElem? (i := 1) rfl)
theorem bw_44_2 : Cond.code yX11_year cX11_year 9 (some .int) ∈ wsL_law := wsL_law_r44_big _ (List.mem_of_getElem? (i := 2) rfl)
theorem bw_44_8 : Cond.instanceMethod yX11_allKnown ∈ wsL_law := wsL_law_r44_big _ (List.mem_of_getElem? (i := 8) rfl)
theorem bw_44_9 : Cond.selects RX11 yX11_allKnown yX11_allKnown ∈ wsL_law := wsL_law_r44_big _ (List.mem_of_getElem? (i := 9) rfl)
theorem bw_44_10 : Cond.code yX11_allKnown cX11_allKnown 3 (some .int) ∈ wsL_law := wsL_law_r44_big _ (List.mem_of_getElem? (i := 10) rfl)
theorem bw_44_12 : Cond.instanceMethod yX11_knowers ∈ wsL_law := wsL_law_r44_big _ (List.mem_of_getElem? (i := 12) rfl)
theorem bw_44_13 : Cond.selects RX11 yX11_knowers yX11_knowers ∈ wsL_law := wsL_law_r44_big _ (List.mem_of_getElem? (i := 13) rfl)
theorem bw_44_14 : Cond.code yX11_knowers cX11_knowers 3 (some .int) ∈ wsL_law := wsL_law_r44_big _ (List.mem_of_getElem? (i := 14) rfl)
theorem bw_44_16 : Cond.instanceMethod yX10_keep ∈ wsL_law := wsL_law_r44_big _ (List.mem_of_getElem? (i := 16) rfl)
theorem bw_44_17 : Cond.selects RX10 yX10_keep yX10_keep ∈ wsL_law := wsL_law_r44_big _ (List.mem_of_getElem? (i := 17) rfl)
theorem bw_44_18 : Cond.code yX10_keep cX10_keep 1 (some .int) ∈ wsL_law := wsL_law_r44_big _ (List.mem_of_getElem? (i := 18) rfl)
theorem bw_44_21 : Cond.instanceMethod yX11_keep ∈ wsL_law := wsL_law_r44_big _ (List.mem_of_getElem? (i := 21) rfl)
theorem bw_44_22 : Cond.selects RX11 yX11_keep yX11_keep ∈ wsL_law := wsL_law_r44_big _ (List.mem_of_getElem? (i := 22) rfl)
theorem bw_44_23 : Cond.code yX11_keep cX11_keep 1 (some .int) ∈ wsL_law := wsL_law_r44_big _ (List.mem_of_getElem? (i := 23) rfl)
theorem bw_45_1 : Cond.instanceMethod yX10_back ∈ wsL_law := wsL_law_r45_big _ (List.mem_of_getElem? (i := 1) rfl)
theorem bw_45_2 : Cond.selects RX10 yX10_back yX10_back ∈ wsL_law := wsL_law_r45_big _ (List.mem_of_getElem? (i := 2) rfl)
theorem bw_45_3 : Cond.code yX10_back cX10_back 1 (some .int) ∈ wsL_law := wsL_law_r45_big _ (List.mem_of_getElem? (i := 3) rfl)
theorem bw_45_5 : Cond.instanceMethod yX11_back ∈ wsL_law := wsL_law_r45_big _ (List.mem_of_getElem? (i := 5) rfl)
theorem bw_45_6 : Cond.selects RX11 yX11_back yX11_back ∈ wsL_law := wsL_law_r45_big _ (List.mem_of_getElem? (i := 6) rfl)
theorem bw_45_7 : Cond.code yX11_back cX11_back 1 (some .int) ∈ wsL_law := wsL_law_r45_big _ (List.mem_of_getElem? (i := 7) rfl)
theorem bw_45_9 : Cond.instanceMethod yX10_count ∈ wsL_law := wsL_law_r45_big _ (List.mem_of_getElem? (i := 9) rfl)
theorem bw_45_10 : Cond.selects RX10 yX10_count yX10_count ∈ wsL_law := wsL_law_r45_big _ (List.mem_of_getElem? (i := 10) rfl)
theorem bw_45_11 : Cond.code yX10_count cX10_count 2 (some .int) ∈ wsL_law := wsL_law_r45_big _ (List.mem_of_getElem? (i := 11) rfl)
theorem bw_45_13 : Cond.instanceMethod yX4_rows ∈ wsL_law := wsL_law_r45_big _ (List.mem_of_getElem? (i := 13) rfl)
theorem bw_45_14 : Cond.selects RX4 yX4_rows yX4_rows ∈ wsL_law := wsL_law_r45_big _ (List.mem_of_getElem? (i := 14) rfl)
theorem bw_45_15 : Cond.code yX4_rows cX4_rows 1 (some .int) ∈ wsL_law := wsL_law_r45_big _ (List.mem_of_getElem? (i := 15) rfl)
theorem bw_45_18 : Cond.instanceMethod yX9_whoKnowsAny ∈ wsL_law := wsL_law_r45_big _ (List.mem_of_getElem? (i := 18) rfl)
theorem bw_45_19 : Cond.selects RX9 yX9_whoKnowsAny yX9_whoKnowsAny ∈ wsL_law := wsL_law_r45_big _ (List.mem_of_getElem? (i := 19) rfl)
theorem bw_45_20 : Cond.code yX9_whoKnowsAny cX9_whoKnowsAny 3 (some .int) ∈ wsL_law := wsL_law_r45_big _ (List.mem_of_getElem? (i := 20) rfl)
theorem bw_45_22 : Cond.instanceMethod yX11_count ∈ wsL_law := wsL_law_r45_big _ (List.mem_of_getElem? (i := 22) rfl)
theorem bw_45_23 : Cond.selects RX11 yX11_count yX11_count ∈ wsL_law := wsL_law_r45_big _ (List.mem_of_getElem? (i := 23) rfl)
theorem bw_46_0 : Cond.code yX11_count cX11_count 2 (some .int) ∈ wsL_law := wsL_law_r46_big _ (List.mem_of_getElem? (i := 0) rfl)
theorem nst_RX10_9 : (RX10, 9, yX7_init, RX10) ∈ nestL := List.mem_of_getElem? (i := 0) rfl
theorem nst_RX10_27 : (RX10, 27, yX4_init, RX10) ∈ nestL := List.mem_of_getElem? (i := 1) rfl
theorem nst_RX10_37 : (RX10, 37, yX9_init, RX10) ∈ nestL := List.mem_of_getElem? (i := 2) rfl
theorem nst_RX5_22 : (RX5, 22, yX9_init, RX10) ∈ nestL := List.mem_of_getElem? (i := 3) rfl
theorem nst_RX7_19 : (RX7, 19, yX10_put, RX10) ∈ nestL := List.mem_of_getElem? (i := 4) rfl
theorem nst_RX4_53 : (RX4, 53, yX10_fill, RX10) ∈ nestL := List.mem_of_getElem? (i := 5) rfl
theorem nst_RX4_76 : (RX4, 76, yX10_within, RX10) ∈ nestL := List.mem_of_getElem? (i := 6) rfl
theorem nst_RX4_79 : (RX4, 79, yX10_bit, RX10) ∈ nestL := List.mem_of_getElem? (i := 7) rfl
theorem nst_RX7_23 : (RX7, 23, yX10_at, RX10) ∈ nestL := List.mem_of_getElem? (i := 8) rfl
theorem nst_RX6_56 : (RX6, 56, yX10_within, RX10) ∈ nestL := List.mem_of_getElem? (i := 9) rfl
theorem nst_RX6_48 : (RX6, 48, yX10_put, RX10) ∈ nestL := List.mem_of_getElem? (i := 10) rfl
theorem nst_RX4_61 : (RX4, 61, yX10_at, RX10) ∈ nestL := List.mem_of_getElem? (i := 11) rfl
theorem nst_RX4_86 : (RX4, 86, yX10_isWidth, RX10) ∈ nestL := List.mem_of_getElem? (i := 12) rfl
theorem nst_RX4_89 : (RX4, 89, yX10_put, RX10) ∈ nestL := List.mem_of_getElem? (i := 13) rfl
theorem nst_RX9_28 : (RX9, 28, yX10_put, RX10) ∈ nestL := List.mem_of_getElem? (i := 14) rfl
theorem nst_RX9_39 : (RX9, 39, yX10_bit, RX10) ∈ nestL := List.mem_of_getElem? (i := 15) rfl
theorem nst_RX9_46 : (RX9, 46, yX10_at, RX10) ∈ nestL := List.mem_of_getElem? (i := 16) rfl
theorem nst_RX9_52 : (RX9, 52, yX10_holds, RX10) ∈ nestL := List.mem_of_getElem? (i := 17) rfl
theorem nst_RX9_42 : (RX9, 42, yX10_copy, RX10) ∈ nestL := List.mem_of_getElem? (i := 18) rfl
theorem nst_RX1_74 : (RX1, 74, yX10_bit, RX10) ∈ nestL := List.mem_of_getElem? (i := 19) rfl
theorem nst_RX1_80 : (RX1, 80, yX10_put, RX10) ∈ nestL := List.mem_of_getElem? (i := 20) rfl
theorem nst_RX1_98 : (RX1, 98, yX10_at, RX10) ∈ nestL := List.mem_of_getElem? (i := 21) rfl
theorem nst_RX1_102 : (RX1, 102, yX10_holds, RX10) ∈ nestL := List.mem_of_getElem? (i := 22) rfl
theorem nst_RX3_39 : (RX3, 39, yX10_bit, RX10) ∈ nestL := List.mem_of_getElem? (i := 23) rfl
theorem nst_RX3_46 : (RX3, 46, yX10_holds, RX10) ∈ nestL := List.mem_of_getElem? (i := 24) rfl
theorem nst_RX8_36 : (RX8, 36, yX10_put, RX10) ∈ nestL := List.mem_of_getElem? (i := 25) rfl
theorem nst_RX8_59 : (RX8, 59, yX10_at, RX10) ∈ nestL := List.mem_of_getElem? (i := 26) rfl
theorem nst_RX8_49 : (RX8, 49, yX10_bit, RX10) ∈ nestL := List.mem_of_getElem? (i := 27) rfl
theorem nst_RX8_81 : (RX8, 81, yX10_holds, RX10) ∈ nestL := List.mem_of_getElem? (i := 28) rfl
theorem nst_RX0_44 : (RX0, 44, yX10_holds, RX10) ∈ nestL := List.mem_of_getElem? (i := 29) rfl
theorem wk_J0_charAt_5068e : Wk yJ0_charAt_5068e cJ0_charAt_5068e 2 (some .char) 1 := ⟨bw_7_23, bw_7_11, by decide +kernel⟩
theorem wv_J0_charAt_5068e : Wv yJ0_charAt_5068e := ⟨bw_7_21, bw_7_22⟩
theorem wk_J0_checkIndex_df160 : Wk yJ0_checkIndex_df160 cJ0_checkIndex_df160 2 none 2 := ⟨bw_8_10, bw_7_11, by decide +kernel⟩
theorem ws_J0_checkIndex_df160 : Cond.static yJ0_checkIndex_df160 ∈ wsL_law := bw_8_9
theorem wk_J0_coder_7d493 : Wk yJ0_coder_7d493 cJ0_coder_7d493 1 (some .byte) 0 := ⟨bw_7_17, bw_7_11, by decide +kernel⟩
theorem wv_J0_coder_7d493 : Wv yJ0_coder_7d493 := ⟨bw_7_15, bw_7_16⟩
theorem wk_J0_isLatin1_aae02 : Wk yJ0_isLatin1_aae02 cJ0_isLatin1_aae02 1 (some .boolean) 0 := ⟨bw_8_3, bw_7_11, by decide +kernel⟩
theorem wv_J0_isLatin1_aae02 : Wv yJ0_isLatin1_aae02 := ⟨bw_8_1, bw_8_2⟩
theorem wk_J0_length_8abf5 : Wk yJ0_length_8abf5 cJ0_length_8abf5 1 (some .int) 0 := ⟨bw_7_12, bw_7_11, by decide +kernel⟩
theorem wv_J0_length_8abf5 : Wv yJ0_length_8abf5 := ⟨bw_7_9, bw_7_10⟩
theorem wk_J1_charAt_3b067 : Wk yJ1_charAt_3b067 cJ1_charAt_3b067 2 (some .char) 2 := ⟨bw_8_7, bw_8_6, by decide +kernel⟩
theorem ws_J1_charAt_3b067 : Cond.static yJ1_charAt_3b067 ∈ wsL_law := bw_8_5
theorem wk_J2_charAt_3b067 : Wk yJ2_charAt_3b067 cJ2_charAt_3b067 2 (some .char) 2 := ⟨bw_8_19, bw_8_18, by decide +kernel⟩
theorem ws_J2_charAt_3b067 : Cond.static yJ2_charAt_3b067 ∈ wsL_law := bw_8_17
theorem wk_J2_checkIndex_2214a : Wk yJ2_checkIndex_2214a cJ2_checkIndex_2214a 2 none 2 := ⟨bw_8_22, bw_8_18, by decide +kernel⟩
theorem ws_J2_checkIndex_2214a : Cond.static yJ2_checkIndex_2214a ∈ wsL_law := bw_8_21
theorem wk_J2_getChar_3b067 : Wk yJ2_getChar_3b067 cJ2_getChar_3b067 2 (some .char) 2 := ⟨bw_9_5, bw_8_18, by decide +kernel⟩
theorem ws_J2_getChar_3b067 : Cond.static yJ2_getChar_3b067 ∈ wsL_law := bw_9_4
theorem wk_J2_length_9d52b : Wk yJ2_length_9d52b cJ2_length_9d52b 1 (some .int) 1 := ⟨bw_9_1, bw_8_18, by decide +kernel⟩
theorem ws_J2_length_9d52b : Cond.static yJ2_length_9d52b ∈ wsL_law := bw_9_0
theorem wk_J3_checkIndex_8e157 : Wk yJ3_checkIndex_8e157 cJ3_checkIndex_8e157 3 (some .int) 3 := ⟨bw_8_15, bw_8_14, by decide +kernel⟩
theorem ws_J3_checkIndex_8e157 : Cond.static yJ3_checkIndex_8e157 ∈ wsL_law := bw_8_13
theorem wk_J6_bitCount_0f7a4 : Wk yJ6_bitCount_0f7a4 cJ6_bitCount_0f7a4 1 (some .int) 1 := ⟨bw_21_20, bw_21_19, by decide +kernel⟩
theorem ws_J6_bitCount_0f7a4 : Cond.static yJ6_bitCount_0f7a4 ∈ wsL_law := bw_21_18
theorem wk_J9_floorMod_7cf53 : Wk yJ9_floorMod_7cf53 cJ9_floorMod_7cf53 3 (some .int) 2 := ⟨bw_23_6, bw_23_5, by decide +kernel⟩
theorem ws_J9_floorMod_7cf53 : Cond.static yJ9_floorMod_7cf53 ∈ wsL_law := bw_23_4
theorem wk_X0_draw : Wk yX0_draw cX0_draw 4 (some .int) 2 := ⟨bw_43_2, bw_3_0, by decide +kernel⟩
theorem ws_X0_draw : Cond.static yX0_draw ∈ wsL_law := bw_43_1
theorem wk_X0_gustsThatReach : Wk yX0_gustsThatReach cX0_gustsThatReach 8 (some .int) 3 := ⟨bw_42_0, bw_3_0, by decide +kernel⟩
theorem wv_X0_gustsThatReach : Wv yX0_gustsThatReach := ⟨bw_41_22, bw_41_23⟩
theorem wk_X0_housesThatKnow : Wk yX0_housesThatKnow cX0_housesThatKnow 1 (some .int) 0 := ⟨bw_43_18, bw_3_0, by decide +kernel⟩
theorem wv_X0_housesThatKnow : Wv yX0_housesThatKnow := ⟨bw_43_16, bw_43_17⟩
theorem wk_X0_inLowestTerms : Wk yX0_inLowestTerms cX0_inLowestTerms 7 (some .int) 3 := ⟨bw_42_10, bw_3_0, by decide +kernel⟩
theorem wv_X0_inLowestTerms : Wv yX0_inLowestTerms := ⟨bw_42_8, bw_42_9⟩
theorem wk_X0_init : Wk yX0_init cX0_init 3 none 2 := ⟨bw_6_15, bw_3_0, by decide +kernel⟩
theorem wk_X0_openByDraw : Wk yX0_openByDraw cX0_openByDraw 3 none 1 := ⟨bw_43_10, bw_3_0, by decide +kernel⟩
theorem wv_X0_openByDraw : Wv yX0_openByDraw := ⟨bw_43_8, bw_43_9⟩
theorem wk_X0_runYear : Wk yX0_runYear cX0_runYear 7 none 2 := ⟨bw_42_22, bw_3_0, by decide +kernel⟩
theorem wv_X0_runYear : Wv yX0_runYear := ⟨bw_42_20, bw_42_21⟩
theorem wk_X0_timesHeard : Wk yX0_timesHeard cX0_timesHeard 1 (some .int) 0 := ⟨bw_43_22, bw_3_0, by decide +kernel⟩
theorem wv_X0_timesHeard : Wv yX0_timesHeard := ⟨bw_43_20, bw_43_21⟩
theorem wk_X0_waysOf : Wk yX0_waysOf cX0_waysOf 1 (some .int) 1 := ⟨bw_42_4, bw_3_0, by decide +kernel⟩
theorem ws_X0_waysOf : Cond.static yX0_waysOf ∈ wsL_law := bw_42_3
theorem wk_X10_at : Wk yX10_at cX10_at 2 (some .int) 2 := ⟨bw_11_6, bw_1_2, by decide +kernel⟩
theorem ws_X10_at : Cond.static yX10_at ∈ wsL_law := bw_11_5
theorem wk_X10_back : Wk yX10_back cX10_back 1 (some .int) 0 := ⟨bw_45_3, bw_1_2, by decide +kernel⟩
theorem wv_X10_back : Wv yX10_back := ⟨bw_45_1, bw_45_2⟩
theorem wk_X10_bears : Wk yX10_bears cX10_bears 3 (some .int) 2 := ⟨bw_36_7, bw_1_2, by decide +kernel⟩
theorem wv_X10_bears : Wv yX10_bears := ⟨bw_36_5, bw_36_6⟩
theorem wk_X10_began : Wk yX10_began cX10_began 2 (some .int) 1 := ⟨bw_39_19, bw_1_2, by decide +kernel⟩
theorem wv_X10_began : Wv yX10_began := ⟨bw_39_17, bw_39_18⟩
theorem wk_X10_behind : Wk yX10_behind cX10_behind 3 (some .int) 2 := ⟨bw_30_1, bw_1_2, by decide +kernel⟩
theorem wv_X10_behind : Wv yX10_behind := ⟨bw_29_23, bw_30_0⟩
theorem wk_X10_bit : Wk yX10_bit cX10_bit 1 (some .int) 1 := ⟨bw_10_12, bw_1_2, by decide +kernel⟩
theorem ws_X10_bit : Cond.static yX10_bit ∈ wsL_law := bw_10_11
theorem wk_X10_blew : Wk yX10_blew cX10_blew 1 (some .int) 0 := ⟨bw_41_2, bw_1_2, by decide +kernel⟩
theorem wv_X10_blew : Wv yX10_blew := ⟨bw_41_0, bw_41_1⟩
theorem wk_X10_copy : Wk yX10_copy cX10_copy 3 none 2 := ⟨bw_24_9, bw_1_2, by decide +kernel⟩
theorem ws_X10_copy : Cond.static yX10_copy ∈ wsL_law := bw_24_8
theorem wk_X10_count : Wk yX10_count cX10_count 2 (some .int) 1 := ⟨bw_45_11, bw_1_2, by decide +kernel⟩
theorem wv_X10_count : Wv yX10_count := ⟨bw_45_9, bw_45_10⟩
theorem wk_X10_cut : Wk yX10_cut cX10_cut 5 (some .int) 3 := ⟨bw_32_8, bw_1_2, by decide +kernel⟩
theorem wv_X10_cut : Wv yX10_cut := ⟨bw_32_6, bw_32_7⟩
theorem wk_X10_fault : Wk yX10_fault cX10_fault 1 (some .int) 0 := ⟨bw_16_23, bw_1_2, by decide +kernel⟩
theorem wv_X10_fault : Wv yX10_fault := ⟨bw_16_21, bw_16_22⟩
theorem wk_X10_fill : Wk yX10_fill cX10_fill 3 none 2 := ⟨bw_10_4, bw_1_2, by decide +kernel⟩
theorem ws_X10_fill : Cond.static yX10_fill ∈ wsL_law := bw_10_3
theorem wk_X10_forget : Wk yX10_forget cX10_forget 2 (some .int) 0 := ⟨bw_39_11, bw_1_2, by decide +kernel⟩
theorem wv_X10_forget : Wv yX10_forget := ⟨bw_39_9, bw_39_10⟩
theorem wk_X10_gusts : Wk yX10_gusts cX10_gusts 5 (some .int) 4 := ⟨bw_41_20, bw_1_2, by decide +kernel⟩
theorem wv_X10_gusts : Wv yX10_gusts := ⟨bw_41_18, bw_41_19⟩
theorem wk_X10_holds : Wk yX10_holds cX10_holds 2 (some .boolean) 2 := ⟨bw_20_4, bw_1_2, by decide +kernel⟩
theorem ws_X10_holds : Cond.static yX10_holds ∈ wsL_law := bw_20_3
theorem wk_X10_house : Wk yX10_house cX10_house 3 (some .int) 2 := ⟨bw_19_9, bw_1_2, by decide +kernel⟩
theorem wv_X10_house : Wv yX10_house := ⟨bw_19_7, bw_19_8⟩
theorem wk_X10_init : Wk yX10_init cX10_init 2 none 0 := ⟨bw_1_8, bw_1_2, by decide +kernel⟩
theorem wk_X10_isWidth : Wk yX10_isWidth cX10_isWidth 1 (some .boolean) 1 := ⟨bw_12_3, bw_1_2, by decide +kernel⟩
theorem ws_X10_isWidth : Cond.static yX10_isWidth ∈ wsL_law := bw_12_2
theorem wk_X10_keep : Wk yX10_keep cX10_keep 1 (some .int) 0 := ⟨bw_44_18, bw_1_2, by decide +kernel⟩
theorem wv_X10_keep : Wv yX10_keep := ⟨bw_44_16, bw_44_17⟩
theorem wk_X10_last : Wk yX10_last cX10_last 4 (some .int) 2 := ⟨bw_31_18, bw_1_2, by decide +kernel⟩
theorem wv_X10_last : Wv yX10_last := ⟨bw_31_16, bw_31_17⟩
theorem wk_X10_lay : Wk yX10_lay cX10_lay 1 (some .int) 0 := ⟨bw_18_23, bw_1_2, by decide +kernel⟩
theorem wv_X10_lay : Wv yX10_lay := ⟨bw_18_21, bw_18_22⟩
theorem wk_X10_layText : Wk yX10_layText cX10_layText 1 (some .boolean) 0 := ⟨bw_9_18, bw_1_2, by decide +kernel⟩
theorem wv_X10_layText : Wv yX10_layText := ⟨bw_9_16, bw_9_17⟩
theorem wk_X10_news : Wk yX10_news cX10_news 3 (some .int) 2 := ⟨bw_21_5, bw_1_2, by decide +kernel⟩
theorem wv_X10_news : Wv yX10_news := ⟨bw_21_3, bw_21_4⟩
theorem wk_X10_open : Wk yX10_open cX10_open 4 (some .int) 2 := ⟨bw_28_11, bw_1_2, by decide +kernel⟩
theorem wv_X10_open : Wv yX10_open := ⟨bw_28_9, bw_28_10⟩
theorem wk_X10_openings : Wk yX10_openings cX10_openings 6 (some .int) 5 := ⟨bw_33_10, bw_1_2, by decide +kernel⟩
theorem wv_X10_openings : Wv yX10_openings := ⟨bw_33_8, bw_33_9⟩
theorem wk_X10_put : Wk yX10_put cX10_put 3 none 3 := ⟨bw_9_14, bw_1_2, by decide +kernel⟩
theorem ws_X10_put : Cond.static yX10_put ∈ wsL_law := bw_9_13
theorem wk_X10_quarrel : Wk yX10_quarrel cX10_quarrel 6 (some .int) 4 := ⟨bw_37_5, bw_1_2, by decide +kernel⟩
theorem wv_X10_quarrel : Wv yX10_quarrel := ⟨bw_37_3, bw_37_4⟩
theorem wk_X10_see : Wk yX10_see cX10_see 5 (some .int) 4 := ⟨bw_38_19, bw_1_2, by decide +kernel⟩
theorem wv_X10_see : Wv yX10_see := ⟨bw_38_17, bw_38_18⟩
theorem wk_X10_step : Wk yX10_step cX10_step 3 (some .int) 1 := ⟨bw_23_18, bw_1_2, by decide +kernel⟩
theorem wv_X10_step : Wv yX10_step := ⟨bw_23_16, bw_23_17⟩
theorem wk_X10_tell : Wk yX10_tell cX10_tell 4 (some .int) 2 := ⟨bw_29_0, bw_1_2, by decide +kernel⟩
theorem wv_X10_tell : Wv yX10_tell := ⟨bw_28_22, bw_28_23⟩
theorem wk_X10_undo : Wk yX10_undo cX10_undo 1 (some .int) 0 := ⟨bw_29_9, bw_1_2, by decide +kernel⟩
theorem wv_X10_undo : Wv yX10_undo := ⟨bw_29_7, bw_29_8⟩
theorem wk_X10_when : Wk yX10_when cX10_when 3 (some .int) 2 := ⟨bw_30_20, bw_1_2, by decide +kernel⟩
theorem wv_X10_when : Wv yX10_when := ⟨bw_30_18, bw_30_19⟩
theorem wk_X10_wind : Wk yX10_wind cX10_wind 2 (some .int) 1 := ⟨bw_22_14, bw_1_2, by decide +kernel⟩
theorem wv_X10_wind : Wv yX10_wind := ⟨bw_22_12, bw_22_13⟩
theorem wk_X10_wipe : Wk yX10_wipe cX10_wipe 2 (some .int) 0 := ⟨bw_16_15, bw_1_2, by decide +kernel⟩
theorem wv_X10_wipe : Wv yX10_wipe := ⟨bw_16_13, bw_16_14⟩
theorem wk_X10_within : Wk yX10_within cX10_within 3 (some .boolean) 3 := ⟨bw_10_10, bw_1_2, by decide +kernel⟩
theorem ws_X10_within : Cond.static yX10_within ∈ wsL_law := bw_10_9
theorem wk_X10_write : Wk yX10_write cX10_write 2 (some .int) 1 := ⟨bw_16_2, bw_1_2, by decide +kernel⟩
theorem wv_X10_write : Wv yX10_write := ⟨bw_16_0, bw_16_1⟩
theorem wk_X10_year : Wk yX10_year cX10_year 4 (some .int) 3 := ⟨bw_42_18, bw_1_2, by decide +kernel⟩
theorem wv_X10_year : Wv yX10_year := ⟨bw_42_16, bw_42_17⟩
theorem wk_X11_allKnown : Wk yX11_allKnown cX11_allKnown 3 (some .int) 0 := ⟨bw_44_10, bw_1_5, by decide +kernel⟩
theorem wv_X11_allKnown : Wv yX11_allKnown := ⟨bw_44_8, bw_44_9⟩
theorem wk_X11_asItIs : Wk yX11_asItIs cX11_asItIs 1 none 0 := ⟨bw_20_17, bw_1_5, by decide +kernel⟩
theorem wv_X11_asItIs : Wv yX11_asItIs := ⟨bw_20_15, bw_20_16⟩
theorem wk_X11_asItIsOf : Wk yX11_asItIsOf cX11_asItIsOf 2 none 1 := ⟨bw_31_10, bw_1_5, by decide +kernel⟩
theorem wv_X11_asItIsOf : Wv yX11_asItIsOf := ⟨bw_31_8, bw_31_9⟩
theorem wk_X11_back : Wk yX11_back cX11_back 1 (some .int) 0 := ⟨bw_45_7, bw_1_5, by decide +kernel⟩
theorem wv_X11_back : Wv yX11_back := ⟨bw_45_5, bw_45_6⟩
theorem wk_X11_bears : Wk yX11_bears cX11_bears 4 (some .int) 2 := ⟨bw_36_21, bw_1_5, by decide +kernel⟩
theorem wv_X11_bears : Wv yX11_bears := ⟨bw_36_19, bw_36_20⟩
theorem wk_X11_began : Wk yX11_began cX11_began 4 (some .int) 1 := ⟨bw_40_14, bw_1_5, by decide +kernel⟩
theorem wv_X11_began : Wv yX11_began := ⟨bw_40_12, bw_40_13⟩
theorem wk_X11_behind : Wk yX11_behind cX11_behind 3 (some .int) 2 := ⟨bw_30_16, bw_1_5, by decide +kernel⟩
theorem wv_X11_behind : Wv yX11_behind := ⟨bw_30_14, bw_30_15⟩
theorem wk_X11_beside : Wk yX11_beside cX11_beside 5 (some .int) 2 := ⟨bw_28_3, bw_1_5, by decide +kernel⟩
theorem wv_X11_beside : Wv yX11_beside := ⟨bw_28_1, bw_28_2⟩
theorem wk_X11_bits : Wk yX11_bits cX11_bits 3 (some .int) 1 := ⟨bw_22_10, bw_1_5, by decide +kernel⟩
theorem ws_X11_bits : Cond.static yX11_bits ∈ wsL_law := bw_22_9
theorem wk_X11_blew : Wk yX11_blew cX11_blew 3 (some .int) 0 := ⟨bw_41_16, bw_1_5, by decide +kernel⟩
theorem wv_X11_blew : Wv yX11_blew := ⟨bw_41_14, bw_41_15⟩
theorem wk_X11_blowsFrom : Wk yX11_blowsFrom cX11_blowsFrom 6 none 4 := ⟨bw_27_23, bw_1_5, by decide +kernel⟩
theorem wv_X11_blowsFrom : Wv yX11_blowsFrom := ⟨bw_27_21, bw_27_22⟩
theorem wk_X11_clearTold : Wk yX11_clearTold cX11_clearTold 2 none 0 := ⟨bw_14_19, bw_1_5, by decide +kernel⟩
theorem wv_X11_clearTold : Wv yX11_clearTold := ⟨bw_14_17, bw_14_18⟩
theorem wk_X11_copies : Wk yX11_copies cX11_copies 6 none 5 := ⟨bw_15_22, bw_1_5, by decide +kernel⟩
theorem ws_X11_copies : Cond.static yX11_copies ∈ wsL_law := bw_15_21
theorem wk_X11_count : Wk yX11_count cX11_count 2 (some .int) 1 := ⟨bw_46_0, bw_1_5, by decide +kernel⟩
theorem wv_X11_count : Wv yX11_count := ⟨bw_45_22, bw_45_23⟩
theorem wk_X11_cut : Wk yX11_cut cX11_cut 6 (some .int) 3 := ⟨bw_33_2, bw_1_5, by decide +kernel⟩
theorem wv_X11_cut : Wv yX11_cut := ⟨bw_33_0, bw_33_1⟩
theorem wk_X11_fault : Wk yX11_fault cX11_fault 2 (some .int) 0 := ⟨bw_17_3, bw_1_5, by decide +kernel⟩
theorem wv_X11_fault : Wv yX11_fault := ⟨bw_17_1, bw_17_2⟩
theorem wk_X11_findWay : Wk yX11_findWay cX11_findWay 10 (some .boolean) 5 := ⟨bw_35_23, bw_1_5, by decide +kernel⟩
theorem wv_X11_findWay : Wv yX11_findWay := ⟨bw_35_21, bw_35_22⟩
theorem wk_X11_forget : Wk yX11_forget cX11_forget 2 (some .int) 0 := ⟨bw_39_15, bw_1_5, by decide +kernel⟩
theorem wv_X11_forget : Wv yX11_forget := ⟨bw_39_13, bw_39_14⟩
theorem wk_X11_goes : Wk yX11_goes cX11_goes 3 none 1 := ⟨bw_27_11, bw_1_5, by decide +kernel⟩
theorem wv_X11_goes : Wv yX11_goes := ⟨bw_27_9, bw_27_10⟩
theorem wk_X11_goesBy : Wk yX11_goesBy cX11_goesBy 6 none 1 := ⟨bw_27_15, bw_1_5, by decide +kernel⟩
theorem wv_X11_goesBy : Wv yX11_goesBy := ⟨bw_27_13, bw_27_14⟩
theorem wk_X11_gusts : Wk yX11_gusts cX11_gusts 10 (some .int) 4 := ⟨bw_42_14, bw_1_5, by decide +kernel⟩
theorem wv_X11_gusts : Wv yX11_gusts := ⟨bw_42_12, bw_42_13⟩
theorem wk_X11_has : Wk yX11_has cX11_has 2 (some .boolean) 2 := ⟨bw_21_1, bw_1_5, by decide +kernel⟩
theorem ws_X11_has : Cond.static yX11_has ∈ wsL_law := bw_21_0
theorem wk_X11_heavy : Wk yX11_heavy cX11_heavy 4 (some .int) 1 := ⟨bw_37_1, bw_1_5, by decide +kernel⟩
theorem wv_X11_heavy : Wv yX11_heavy := ⟨bw_36_23, bw_37_0⟩
theorem wk_X11_house : Wk yX11_house cX11_house 3 (some .int) 2 := ⟨bw_20_9, bw_1_5, by decide +kernel⟩
theorem wv_X11_house : Wv yX11_house := ⟨bw_20_7, bw_20_8⟩
theorem wk_X11_in : Wk yX11_in cX11_in 3 (some .boolean) 3 := ⟨bw_16_11, bw_1_5, by decide +kernel⟩
theorem ws_X11_in : Cond.static yX11_in ∈ wsL_law := bw_16_10
theorem wk_X11_init : Wk yX11_init cX11_init 1 none 0 := ⟨bw_13_23, bw_1_5, by decide +kernel⟩
theorem wk_X11_isCutBy : Wk yX11_isCutBy cX11_isCutBy 5 (some .boolean) 3 := ⟨bw_33_6, bw_1_5, by decide +kernel⟩
theorem wv_X11_isCutBy : Wv yX11_isCutBy := ⟨bw_33_4, bw_33_5⟩
theorem wk_X11_isFigure : Wk yX11_isFigure cX11_isFigure 1 (some .boolean) 1 := ⟨bw_17_23, bw_1_5, by decide +kernel⟩
theorem ws_X11_isFigure : Cond.static yX11_isFigure ∈ wsL_law := bw_17_22
theorem wk_X11_isHouse : Wk yX11_isHouse cX11_isHouse 2 (some .boolean) 1 := ⟨bw_20_13, bw_1_5, by decide +kernel⟩
theorem wv_X11_isHouse : Wv yX11_isHouse := ⟨bw_20_11, bw_20_12⟩
theorem wk_X11_isNews : Wk yX11_isNews cX11_isNews 2 (some .boolean) 1 := ⟨bw_22_7, bw_1_5, by decide +kernel⟩
theorem wv_X11_isNews : Wv yX11_isNews := ⟨bw_22_5, bw_22_6⟩
theorem wk_X11_isSo : Wk yX11_isSo cX11_isSo 5 (some .boolean) 2 := ⟨bw_40_22, bw_1_5, by decide +kernel⟩
theorem wv_X11_isSo : Wv yX11_isSo := ⟨bw_40_20, bw_40_21⟩
theorem wk_X11_isSoAll : Wk yX11_isSoAll cX11_isSoAll 5 (some .boolean) 2 := ⟨bw_40_18, bw_1_5, by decide +kernel⟩
theorem wv_X11_isSoAll : Wv yX11_isSoAll := ⟨bw_40_16, bw_40_17⟩
theorem wk_X11_isSoBy : Wk yX11_isSoBy cX11_isSoBy 5 (some .boolean) 4 := ⟨bw_36_3, bw_1_5, by decide +kernel⟩
theorem wv_X11_isSoBy : Wv yX11_isSoBy := ⟨bw_36_1, bw_36_2⟩
theorem wk_X11_isTold : Wk yX11_isTold cX11_isTold 4 (some .boolean) 3 := ⟨bw_18_3, bw_1_5, by decide +kernel⟩
theorem wv_X11_isTold : Wv yX11_isTold := ⟨bw_18_1, bw_18_2⟩
theorem wk_X11_isWon : Wk yX11_isWon cX11_isWon 7 (some .boolean) 4 := ⟨bw_38_11, bw_1_5, by decide +kernel⟩
theorem wv_X11_isWon : Wv yX11_isWon := ⟨bw_38_9, bw_38_10⟩
theorem wk_X11_keep : Wk yX11_keep cX11_keep 1 (some .int) 0 := ⟨bw_44_23, bw_1_5, by decide +kernel⟩
theorem wv_X11_keep : Wv yX11_keep := ⟨bw_44_21, bw_44_22⟩
theorem wk_X11_knowers : Wk yX11_knowers cX11_knowers 3 (some .int) 0 := ⟨bw_44_14, bw_1_5, by decide +kernel⟩
theorem wv_X11_knowers : Wv yX11_knowers := ⟨bw_44_12, bw_44_13⟩
theorem wk_X11_known : Wk yX11_known cX11_known 4 (some .int) 1 := ⟨bw_20_22, bw_1_5, by decide +kernel⟩
theorem wv_X11_known : Wv yX11_known := ⟨bw_20_20, bw_20_21⟩
theorem wk_X11_knowsBehind : Wk yX11_knowsBehind cX11_knowsBehind 4 (some .int) 2 := ⟨bw_31_14, bw_1_5, by decide +kernel⟩
theorem wv_X11_knowsBehind : Wv yX11_knowsBehind := ⟨bw_31_12, bw_31_13⟩
theorem wk_X11_knowsBy : Wk yX11_knowsBy cX11_knowsBy 6 (some .boolean) 5 := ⟨bw_38_15, bw_1_5, by decide +kernel⟩
theorem wv_X11_knowsBy : Wv yX11_knowsBy := ⟨bw_38_13, bw_38_14⟩
theorem wk_X11_last : Wk yX11_last cX11_last 8 (some .int) 2 := ⟨bw_32_4, bw_1_5, by decide +kernel⟩
theorem wv_X11_last : Wv yX11_last := ⟨bw_32_2, bw_32_3⟩
theorem wk_X11_lastTold : Wk yX11_lastTold cX11_lastTold 1 (some .int) 0 := ⟨bw_18_11, bw_1_5, by decide +kernel⟩
theorem wv_X11_lastTold : Wv yX11_lastTold := ⟨bw_18_9, bw_18_10⟩
theorem wk_X11_lay : Wk yX11_lay cX11_lay 1 (some .int) 0 := ⟨bw_19_4, bw_1_5, by decide +kernel⟩
theorem wv_X11_lay : Wv yX11_lay := ⟨bw_19_2, bw_19_3⟩
theorem wk_X11_letsIn : Wk yX11_letsIn cX11_letsIn 5 (some .boolean) 3 := ⟨bw_28_7, bw_1_5, by decide +kernel⟩
theorem wv_X11_letsIn : Wv yX11_letsIn := ⟨bw_28_5, bw_28_6⟩
theorem wk_X11_letsOut : Wk yX11_letsOut cX11_letsOut 3 (some .boolean) 2 := ⟨bw_27_19, bw_1_5, by decide +kernel⟩
theorem wv_X11_letsOut : Wv yX11_letsOut := ⟨bw_27_17, bw_27_18⟩
theorem wk_X11_letterAt : Wk yX11_letterAt cX11_letterAt 2 (some .int) 1 := ⟨bw_17_12, bw_1_5, by decide +kernel⟩
theorem wv_X11_letterAt : Wv yX11_letterAt := ⟨bw_17_10, bw_17_11⟩
theorem wk_X11_news : Wk yX11_news cX11_news 3 (some .int) 2 := ⟨bw_22_3, bw_1_5, by decide +kernel⟩
theorem wv_X11_news : Wv yX11_news := ⟨bw_22_1, bw_22_2⟩
theorem wk_X11_open : Wk yX11_open cX11_open 4 (some .int) 2 := ⟨bw_28_20, bw_1_5, by decide +kernel⟩
theorem wv_X11_open : Wv yX11_open := ⟨bw_28_18, bw_28_19⟩
theorem wk_X11_openings : Wk yX11_openings cX11_openings 8 (some .int) 5 := ⟨bw_35_17, bw_1_5, by decide +kernel⟩
theorem wv_X11_openings : Wv yX11_openings := ⟨bw_35_15, bw_35_16⟩
theorem wk_X11_quarrel : Wk yX11_quarrel cX11_quarrel 7 (some .int) 4 := ⟨bw_38_7, bw_1_5, by decide +kernel⟩
theorem wv_X11_quarrel : Wv yX11_quarrel := ⟨bw_38_5, bw_38_6⟩
theorem wk_X11_readGridOf : Wk yX11_readGridOf cX11_readGridOf 1 (some .boolean) 0 := ⟨bw_17_16, bw_1_5, by decide +kernel⟩
theorem wv_X11_readGridOf : Wv yX11_readGridOf := ⟨bw_17_14, bw_17_15⟩
theorem wk_X11_readHouseOf : Wk yX11_readHouseOf cX11_readHouseOf 1 (some .boolean) 0 := ⟨bw_18_7, bw_1_5, by decide +kernel⟩
theorem wv_X11_readHouseOf : Wv yX11_readHouseOf := ⟨bw_18_5, bw_18_6⟩
theorem wk_X11_readItem : Wk yX11_readItem cX11_readItem 2 (some .boolean) 0 := ⟨bw_17_8, bw_1_5, by decide +kernel⟩
theorem wv_X11_readItem : Wv yX11_readItem := ⟨bw_17_6, bw_17_7⟩
theorem wk_X11_readNewsOf : Wk yX11_readNewsOf cX11_readNewsOf 1 (some .boolean) 0 := ⟨bw_18_15, bw_1_5, by decide +kernel⟩
theorem wv_X11_readNewsOf : Wv yX11_readNewsOf := ⟨bw_18_13, bw_18_14⟩
theorem wk_X11_readNumbers : Wk yX11_readNumbers cX11_readNumbers 3 (some .boolean) 1 := ⟨bw_17_20, bw_1_5, by decide +kernel⟩
theorem wv_X11_readNumbers : Wv yX11_readNumbers := ⟨bw_17_18, bw_17_19⟩
theorem wk_X11_readWindOf : Wk yX11_readWindOf cX11_readWindOf 1 (some .boolean) 0 := ⟨bw_18_19, bw_1_5, by decide +kernel⟩
theorem wv_X11_readWindOf : Wv yX11_readWindOf := ⟨bw_18_17, bw_18_18⟩
theorem wk_X11_remembers : Wk yX11_remembers cX11_remembers 2 none 0 := ⟨bw_27_7, bw_1_5, by decide +kernel⟩
theorem wv_X11_remembers : Wv yX11_remembers := ⟨bw_27_5, bw_27_6⟩
theorem wk_X11_see : Wk yX11_see cX11_see 5 (some .int) 4 := ⟨bw_39_7, bw_1_5, by decide +kernel⟩
theorem wv_X11_see : Wv yX11_see := ⟨bw_39_5, bw_39_6⟩
theorem wk_X11_settles : Wk yX11_settles cX11_settles 2 none 0 := ⟨bw_15_11, bw_1_5, by decide +kernel⟩
theorem wv_X11_settles : Wv yX11_settles := ⟨bw_15_9, bw_15_10⟩
theorem wk_X11_step : Wk yX11_step cX11_step 2 (some .int) 1 := ⟨bw_27_3, bw_1_5, by decide +kernel⟩
theorem wv_X11_step : Wv yX11_step := ⟨bw_27_1, bw_27_2⟩
theorem wk_X11_tell : Wk yX11_tell cX11_tell 3 (some .int) 2 := ⟨bw_29_5, bw_1_5, by decide +kernel⟩
theorem wv_X11_tell : Wv yX11_tell := ⟨bw_29_3, bw_29_4⟩
theorem wk_X11_tellsHouse : Wk yX11_tellsHouse cX11_tellsHouse 4 none 3 := ⟨bw_15_3, bw_1_5, by decide +kernel⟩
theorem wv_X11_tellsHouse : Wv yX11_tellsHouse := ⟨bw_15_1, bw_15_2⟩
theorem wk_X11_tellsNews : Wk yX11_tellsNews cX11_tellsNews 4 none 3 := ⟨bw_15_7, bw_1_5, by decide +kernel⟩
theorem wv_X11_tellsNews : Wv yX11_tellsNews := ⟨bw_15_5, bw_15_6⟩
theorem wk_X11_undo : Wk yX11_undo cX11_undo 1 (some .int) 0 := ⟨bw_29_21, bw_1_5, by decide +kernel⟩
theorem wv_X11_undo : Wv yX11_undo := ⟨bw_29_19, bw_29_20⟩
theorem wk_X11_when : Wk yX11_when cX11_when 3 (some .int) 2 := ⟨bw_31_6, bw_1_5, by decide +kernel⟩
theorem wv_X11_when : Wv yX11_when := ⟨bw_31_4, bw_31_5⟩
theorem wk_X11_wind : Wk yX11_wind cX11_wind 2 (some .int) 1 := ⟨bw_23_10, bw_1_5, by decide +kernel⟩
theorem wv_X11_wind : Wv yX11_wind := ⟨bw_23_8, bw_23_9⟩
theorem wk_X11_windOf : Wk yX11_windOf cX11_windOf 2 (some .int) 1 := ⟨bw_23_14, bw_1_5, by decide +kernel⟩
theorem wv_X11_windOf : Wv yX11_windOf := ⟨bw_23_12, bw_23_13⟩
theorem wk_X11_wipe : Wk yX11_wipe cX11_wipe 2 (some .int) 0 := ⟨bw_16_19, bw_1_5, by decide +kernel⟩
theorem wv_X11_wipe : Wv yX11_wipe := ⟨bw_16_17, bw_16_18⟩
theorem wk_X11_write : Wk yX11_write cX11_write 2 (some .int) 1 := ⟨bw_16_7, bw_1_5, by decide +kernel⟩
theorem wv_X11_write : Wv yX11_write := ⟨bw_16_5, bw_16_6⟩
theorem wk_X11_year : Wk yX11_year cX11_year 9 (some .int) 3 := ⟨bw_44_2, bw_1_5, by decide +kernel⟩
theorem wv_X11_year : Wv yX11_year := ⟨bw_44_0, bw_44_1⟩
theorem wk_X1_along : Wk yX1_along cX1_along 9 (some .int) 3 := ⟨bw_26_8, bw_2_12, by decide +kernel⟩
theorem wv_X1_along : Wv yX1_along := ⟨bw_26_6, bw_26_7⟩
theorem wk_X1_hears : Wk yX1_hears cX1_hears 3 (some .boolean) 2 := ⟨bw_30_11, bw_2_12, by decide +kernel⟩
theorem wv_X1_hears : Wv yX1_hears := ⟨bw_30_9, bw_30_10⟩
theorem wk_X1_init : Wk yX1_init cX1_init 3 none 2 := ⟨bw_5_3, bw_2_12, by decide +kernel⟩
theorem wk_X1_isAnother : Wk yX1_isAnother cX1_isAnother 3 (some .boolean) 2 := ⟨bw_34_23, bw_2_12, by decide +kernel⟩
theorem wv_X1_isAnother : Wv yX1_isAnother := ⟨bw_34_21, bw_34_22⟩
theorem wk_X1_letsInFromGossips : Wk yX1_letsInFromGossips cX1_letsInFromGossips 3 (some .boolean) 2 := ⟨bw_26_0, bw_2_12, by decide +kernel⟩
theorem wv_X1_letsInFromGossips : Wv yX1_letsInFromGossips := ⟨bw_25_22, bw_25_23⟩
theorem wk_X1_letsInFromTalkers : Wk yX1_letsInFromTalkers cX1_letsInFromTalkers 3 (some .boolean) 2 := ⟨bw_25_20, bw_2_12, by decide +kernel⟩
theorem wv_X1_letsInFromTalkers : Wv yX1_letsInFromTalkers := ⟨bw_25_18, bw_25_19⟩
theorem wk_X1_onward : Wk yX1_onward cX1_onward 6 (some .int) 2 := ⟨bw_26_15, bw_2_12, by decide +kernel⟩
theorem wv_X1_onward : Wv yX1_onward := ⟨bw_26_13, bw_26_14⟩
theorem wk_X1_pick : Wk yX1_pick cX1_pick 6 none 1 := ⟨bw_24_18, bw_2_12, by decide +kernel⟩
theorem wv_X1_pick : Wv yX1_pick := ⟨bw_24_16, bw_24_17⟩
theorem wk_X1_reopen : Wk yX1_reopen cX1_reopen 3 none 2 := ⟨bw_25_16, bw_2_12, by decide +kernel⟩
theorem wv_X1_reopen : Wv yX1_reopen := ⟨bw_25_14, bw_25_15⟩
theorem wk_X1_sashOf : Wk yX1_sashOf cX1_sashOf 2 (some .int) 1 := ⟨bw_38_2, bw_2_12, by decide +kernel⟩
theorem wv_X1_sashOf : Wv yX1_sashOf := ⟨bw_38_0, bw_38_1⟩
theorem wk_X1_stuff : Wk yX1_stuff cX1_stuff 3 none 1 := ⟨bw_32_22, bw_2_12, by decide +kernel⟩
theorem wv_X1_stuff : Wv yX1_stuff := ⟨bw_32_20, bw_32_21⟩
theorem wk_X1_whoKnows : Wk yX1_whoKnows cX1_whoKnows 1 (some .int) 0 := ⟨bw_26_4, bw_2_12, by decide +kernel⟩
theorem wv_X1_whoKnows : Wv yX1_whoKnows := ⟨bw_26_2, bw_26_3⟩
theorem wk_X2_answer : Wk yX2_answer cX2_answer 2 (some .int) 1 := ⟨bw_35_13, bw_2_20, by decide +kernel⟩
theorem wv_X2_answer : Wv yX2_answer := ⟨bw_35_11, bw_35_12⟩
theorem wk_X2_findByTwo : Wk yX2_findByTwo cX2_findByTwo 3 none 0 := ⟨bw_35_5, bw_2_20, by decide +kernel⟩
theorem wv_X2_findByTwo : Wv yX2_findByTwo := ⟨bw_35_3, bw_35_4⟩
theorem wk_X2_fittingWidth : Wk yX2_fittingWidth cX2_fittingWidth 4 (some .int) 1 := ⟨bw_34_19, bw_2_20, by decide +kernel⟩
theorem wv_X2_fittingWidth : Wv yX2_fittingWidth := ⟨bw_34_17, bw_34_18⟩
theorem wk_X2_found : Wk yX2_found cX2_found 4 none 3 := ⟨bw_33_23, bw_2_20, by decide +kernel⟩
theorem wv_X2_found : Wv yX2_found := ⟨bw_33_21, bw_33_22⟩
theorem wk_X2_init : Wk yX2_init cX2_init 4 none 3 := ⟨bw_6_2, bw_2_20, by decide +kernel⟩
theorem wk_X2_isFoundByNone : Wk yX2_isFoundByNone cX2_isFoundByNone 1 (some .boolean) 0 := ⟨bw_34_4, bw_2_20, by decide +kernel⟩
theorem wv_X2_isFoundByNone : Wv yX2_isFoundByNone := ⟨bw_34_2, bw_34_3⟩
theorem wk_X2_isFoundByOne : Wk yX2_isFoundByOne cX2_isFoundByOne 3 (some .boolean) 0 := ⟨bw_34_14, bw_2_20, by decide +kernel⟩
theorem wv_X2_isFoundByOne : Wv yX2_isFoundByOne := ⟨bw_34_12, bw_34_13⟩
theorem wk_X2_isFoundWith : Wk yX2_isFoundWith cX2_isFoundWith 5 (some .boolean) 2 := ⟨bw_35_9, bw_2_20, by decide +kernel⟩
theorem wv_X2_isFoundWith : Wv yX2_isFoundWith := ⟨bw_35_7, bw_35_8⟩
theorem wk_X2_isSo : Wk yX2_isSo cX2_isSo 2 (some .boolean) 1 := ⟨bw_34_10, bw_2_20, by decide +kernel⟩
theorem wv_X2_isSo : Wv yX2_isSo := ⟨bw_34_8, bw_34_9⟩
theorem wk_X2_pose : Wk yX2_pose cX2_pose 5 none 4 := ⟨bw_33_19, bw_2_20, by decide +kernel⟩
theorem wv_X2_pose : Wv yX2_pose := ⟨bw_33_17, bw_33_18⟩
theorem wk_X3_bestToOpen : Wk yX3_bestToOpen cX3_bestToOpen 5 (some .int) 3 := ⟨bw_37_9, bw_2_16, by decide +kernel⟩
theorem wv_X3_bestToOpen : Wv yX3_bestToOpen := ⟨bw_37_7, bw_37_8⟩
theorem wk_X3_burden : Wk yX3_burden cX3_burden 5 (some .int) 2 := ⟨bw_36_15, bw_2_16, by decide +kernel⟩
theorem wv_X3_burden : Wv yX3_burden := ⟨bw_36_13, bw_36_14⟩
theorem wk_X3_fewestStuffed : Wk yX3_fewestStuffed cX3_fewestStuffed 7 (some .int) 2 := ⟨bw_32_12, bw_2_16, by decide +kernel⟩
theorem wv_X3_fewestStuffed : Wv yX3_fewestStuffed := ⟨bw_32_10, bw_32_11⟩
theorem wk_X3_firstHeard : Wk yX3_firstHeard cX3_firstHeard 5 (some .int) 2 := ⟨bw_31_0, bw_2_16, by decide +kernel⟩
theorem wv_X3_firstHeard : Wv yX3_firstHeard := ⟨bw_30_22, bw_30_23⟩
theorem wk_X3_hearsInSpite : Wk yX3_hearsInSpite cX3_hearsInSpite 8 (some .boolean) 4 := ⟨bw_37_13, bw_2_16, by decide +kernel⟩
theorem wv_X3_hearsInSpite : Wv yX3_hearsInSpite := ⟨bw_37_11, bw_37_12⟩
theorem wk_X3_init : Wk yX3_init cX3_init 4 none 3 := ⟨bw_5_19, bw_2_16, by decide +kernel⟩
theorem wk_X3_knownBehind : Wk yX3_knownBehind cX3_knownBehind 5 (some .int) 2 := ⟨bw_30_5, bw_2_16, by decide +kernel⟩
theorem wv_X3_knownBehind : Wv yX3_knownBehind := ⟨bw_30_3, bw_30_4⟩
theorem wk_X3_latestHouse : Wk yX3_latestHouse cX3_latestHouse 6 (some .int) 1 := ⟨bw_31_22, bw_2_16, by decide +kernel⟩
theorem wv_X3_latestHouse : Wv yX3_latestHouse := ⟨bw_31_20, bw_31_21⟩
theorem wk_X3_widestBorne : Wk yX3_widestBorne cX3_widestBorne 4 (some .int) 2 := ⟨bw_36_11, bw_2_16, by decide +kernel⟩
theorem wv_X3_widestBorne : Wv yX3_widestBorne := ⟨bw_36_9, bw_36_10⟩
theorem wk_X4_allHouses : Wk yX4_allHouses cX4_allHouses 1 (some .int) 0 := ⟨bw_32_17, bw_1_22, by decide +kernel⟩
theorem wv_X4_allHouses : Wv yX4_allHouses := ⟨bw_32_15, bw_32_16⟩
theorem wk_X4_beginningOf : Wk yX4_beginningOf cX4_beginningOf 2 (some .int) 1 := ⟨bw_13_8, bw_1_22, by decide +kernel⟩
theorem wv_X4_beginningOf : Wv yX4_beginningOf := ⟨bw_13_6, bw_13_7⟩
theorem wk_X4_clear : Wk yX4_clear cX4_clear 1 none 0 := ⟨bw_10_2, bw_1_22, by decide +kernel⟩
theorem wv_X4_clear : Wv yX4_clear := ⟨bw_10_0, bw_10_1⟩
theorem wk_X4_columns : Wk yX4_columns cX4_columns 1 (some .int) 0 := ⟨bw_25_0, bw_1_22, by decide +kernel⟩
theorem wv_X4_columns : Wv yX4_columns := ⟨bw_24_22, bw_24_23⟩
theorem wk_X4_firstColumn : Wk yX4_firstColumn cX4_firstColumn 1 (some .int) 0 := ⟨bw_25_4, bw_1_22, by decide +kernel⟩
theorem wv_X4_firstColumn : Wv yX4_firstColumn := ⟨bw_25_2, bw_25_3⟩
theorem wk_X4_hasHouse : Wk yX4_hasHouse cX4_hasHouse 2 (some .boolean) 1 := ⟨bw_11_21, bw_1_22, by decide +kernel⟩
theorem wv_X4_hasHouse : Wv yX4_hasHouse := ⟨bw_11_19, bw_11_20⟩
theorem wk_X4_hasHouses : Wk yX4_hasHouses cX4_hasHouses 2 (some .boolean) 1 := ⟨bw_33_14, bw_1_22, by decide +kernel⟩
theorem wv_X4_hasHouses : Wv yX4_hasHouses := ⟨bw_33_12, bw_33_13⟩
theorem wk_X4_hasNews : Wk yX4_hasNews cX4_hasNews 2 (some .boolean) 1 := ⟨bw_13_4, bw_1_22, by decide +kernel⟩
theorem wv_X4_hasNews : Wv yX4_hasNews := ⟨bw_13_2, bw_13_3⟩
theorem wk_X4_houses : Wk yX4_houses cX4_houses 1 (some .int) 0 := ⟨bw_12_1, bw_1_22, by decide +kernel⟩
theorem wv_X4_houses : Wv yX4_houses := ⟨bw_11_23, bw_12_0⟩
theorem wk_X4_init : Wk yX4_init cX4_init 1 none 0 := ⟨bw_3_20, bw_1_22, by decide +kernel⟩
theorem wk_X4_kindOf : Wk yX4_kindOf cX4_kindOf 2 (some .int) 1 := ⟨bw_19_14, bw_1_22, by decide +kernel⟩
theorem wv_X4_kindOf : Wv yX4_kindOf := ⟨bw_19_12, bw_19_13⟩
theorem wk_X4_lastColumn : Wk yX4_lastColumn cX4_lastColumn 1 (some .int) 0 := ⟨bw_25_8, bw_1_22, by decide +kernel⟩
theorem wv_X4_lastColumn : Wv yX4_lastColumn := ⟨bw_25_6, bw_25_7⟩
theorem wk_X4_newsKindOf : Wk yX4_newsKindOf cX4_newsKindOf 2 (some .int) 1 := ⟨bw_21_10, bw_1_22, by decide +kernel⟩
theorem wv_X4_newsKindOf : Wv yX4_newsKindOf := ⟨bw_21_8, bw_21_9⟩
theorem wk_X4_newsTold : Wk yX4_newsTold cX4_newsTold 1 (some .int) 0 := ⟨bw_12_16, bw_1_22, by decide +kernel⟩
theorem wv_X4_newsTold : Wv yX4_newsTold := ⟨bw_12_14, bw_12_15⟩
theorem wk_X4_rows : Wk yX4_rows cX4_rows 1 (some .int) 0 := ⟨bw_45_15, bw_1_22, by decide +kernel⟩
theorem wv_X4_rows : Wv yX4_rows := ⟨bw_45_13, bw_45_14⟩
theorem wk_X4_sashOf : Wk yX4_sashOf cX4_sashOf 2 (some .int) 1 := ⟨bw_13_0, bw_1_22, by decide +kernel⟩
theorem wv_X4_sashOf : Wv yX4_sashOf := ⟨bw_12_22, bw_12_23⟩
theorem wk_X4_take : Wk yX4_take cX4_take 7 (some .boolean) 3 := ⟨bw_11_13, bw_1_22, by decide +kernel⟩
theorem wv_X4_take : Wv yX4_take := ⟨bw_11_11, bw_11_12⟩
theorem wk_X4_takeGrid : Wk yX4_takeGrid cX4_takeGrid 4 (some .boolean) 2 := ⟨bw_10_8, bw_1_22, by decide +kernel⟩
theorem wv_X4_takeGrid : Wv yX4_takeGrid := ⟨bw_10_6, bw_10_7⟩
theorem wk_X4_takeHouse : Wk yX4_takeHouse cX4_takeHouse 4 (some .boolean) 3 := ⟨bw_11_17, bw_1_22, by decide +kernel⟩
theorem wv_X4_takeHouse : Wv yX4_takeHouse := ⟨bw_11_15, bw_11_16⟩
theorem wk_X4_takeNews : Wk yX4_takeNews cX4_takeNews 4 (some .boolean) 3 := ⟨bw_12_8, bw_1_22, by decide +kernel⟩
theorem wv_X4_takeNews : Wv yX4_takeNews := ⟨bw_12_6, bw_12_7⟩
theorem wk_X4_takeWind : Wk yX4_takeWind cX4_takeWind 2 (some .boolean) 1 := ⟨bw_12_12, bw_1_22, by decide +kernel⟩
theorem wv_X4_takeWind : Wv yX4_takeWind := ⟨bw_12_10, bw_12_11⟩
theorem wk_X4_weightOf : Wk yX4_weightOf cX4_weightOf 2 (some .int) 1 := ⟨bw_21_14, bw_1_22, by decide +kernel⟩
theorem wv_X4_weightOf : Wv yX4_weightOf := ⟨bw_21_12, bw_21_13⟩
theorem wk_X4_windOf : Wk yX4_windOf cX4_windOf 3 (some .int) 1 := ⟨bw_22_22, bw_1_22, by decide +kernel⟩
theorem wv_X4_windOf : Wv yX4_windOf := ⟨bw_22_20, bw_22_21⟩
theorem wk_X4_windsInTurn : Wk yX4_windsInTurn cX4_windsInTurn 1 (some .int) 0 := ⟨bw_23_2, bw_1_22, by decide +kernel⟩
theorem wv_X4_windsInTurn : Wv yX4_windsInTurn := ⟨bw_23_0, bw_23_1⟩
theorem wk_X5_clear : Wk yX5_clear cX5_clear 1 none 0 := ⟨bw_13_12, bw_2_7, by decide +kernel⟩
theorem wv_X5_clear : Wv yX5_clear := ⟨bw_13_10, bw_13_11⟩
theorem wk_X5_init : Wk yX5_init cX5_init 3 none 1 := ⟨bw_4_19, bw_2_7, by decide +kernel⟩
theorem wk_X5_isFull : Wk yX5_isFull cX5_isFull 1 (some .boolean) 0 := ⟨bw_24_14, bw_2_7, by decide +kernel⟩
theorem wv_X5_isFull : Wv yX5_isFull := ⟨bw_24_12, bw_24_13⟩
theorem wk_X5_placeOf : Wk yX5_placeOf cX5_placeOf 3 (some (.object "NewsDraughts$Standing")) 1 := ⟨bw_24_2, bw_2_7, by decide +kernel⟩
theorem wv_X5_placeOf : Wv yX5_placeOf := ⟨bw_24_0, bw_24_1⟩
theorem wk_X5_popInto : Wk yX5_popInto cX5_popInto 3 (some .boolean) 1 := ⟨bw_29_13, bw_2_7, by decide +kernel⟩
theorem wv_X5_popInto : Wv yX5_popInto := ⟨bw_29_11, bw_29_12⟩
theorem wk_X5_push : Wk yX5_push cX5_push 3 none 1 := ⟨bw_23_22, bw_2_7, by decide +kernel⟩
theorem wv_X5_push : Wv yX5_push := ⟨bw_23_20, bw_23_21⟩
theorem wk_X5_size : Wk yX5_size cX5_size 1 (some .int) 0 := ⟨bw_29_17, bw_2_7, by decide +kernel⟩
theorem wv_X5_size : Wv yX5_size := ⟨bw_29_15, bw_29_16⟩
theorem wk_X6_init : Wk yX6_init cX6_init 2 none 1 := ⟨bw_3_14, bw_1_18, by decide +kernel⟩
theorem wk_X6_isFigure : Wk yX6_isFigure cX6_isFigure 1 (some .boolean) 1 := ⟨bw_11_9, bw_1_18, by decide +kernel⟩
theorem ws_X6_isFigure : Cond.static yX6_isFigure ∈ wsL_law := bw_11_8
theorem wk_X6_readInto : Wk yX6_readInto cX6_readInto 5 (some .int) 1 := ⟨bw_9_22, bw_1_18, by decide +kernel⟩
theorem wv_X6_readInto : Wv yX6_readInto := ⟨bw_9_20, bw_9_21⟩
theorem wk_X6_readNumber : Wk yX6_readNumber cX6_readNumber 3 (some .int) 0 := ⟨bw_11_0, bw_1_18, by decide +kernel⟩
theorem wv_X6_readNumber : Wv yX6_readNumber := ⟨bw_10_22, bw_10_23⟩
theorem wk_X6_readNumbers : Wk yX6_readNumbers cX6_readNumbers 4 (some .int) 0 := ⟨bw_10_20, bw_1_18, by decide +kernel⟩
theorem wv_X6_readNumbers : Wv yX6_readNumbers := ⟨bw_10_18, bw_10_19⟩
theorem wk_X7_add : Wk yX7_add cX7_add 2 (some .boolean) 1 := ⟨bw_9_12, bw_1_14, by decide +kernel⟩
theorem wv_X7_add : Wv yX7_add := ⟨bw_9_10, bw_9_11⟩
theorem wk_X7_clear : Wk yX7_clear cX7_clear 1 none 0 := ⟨bw_13_20, bw_1_14, by decide +kernel⟩
theorem wv_X7_clear : Wv yX7_clear := ⟨bw_13_18, bw_13_19⟩
theorem wk_X7_init : Wk yX7_init cX7_init 1 none 0 := ⟨bw_3_7, bw_1_14, by decide +kernel⟩
theorem wk_X7_length : Wk yX7_length cX7_length 1 (some .int) 0 := ⟨bw_10_16, bw_1_14, by decide +kernel⟩
theorem wv_X7_length : Wv yX7_length := ⟨bw_10_14, bw_10_15⟩
theorem wk_X7_letterAt : Wk yX7_letterAt cX7_letterAt 2 (some .int) 1 := ⟨bw_11_4, bw_1_14, by decide +kernel⟩
theorem wv_X7_letterAt : Wv yX7_letterAt := ⟨bw_11_2, bw_11_3⟩
theorem wk_X8_add : Wk yX8_add cX8_add 5 (some .boolean) 4 := ⟨bw_38_23, bw_3_4, by decide +kernel⟩
theorem wv_X8_add : Wv yX8_add := ⟨bw_38_21, bw_38_22⟩
theorem wk_X8_allSoBy : Wk yX8_allSoBy cX8_allSoBy 4 (some .boolean) 1 := ⟨bw_41_10, bw_3_4, by decide +kernel⟩
theorem wv_X8_allSoBy : Wv yX8_allSoBy := ⟨bw_41_8, bw_41_9⟩
theorem wk_X8_allSoFrom : Wk yX8_allSoFrom cX8_allSoFrom 4 (some .boolean) 2 := ⟨bw_40_4, bw_3_4, by decide +kernel⟩
theorem wv_X8_allSoFrom : Wv yX8_allSoFrom := ⟨bw_40_2, bw_40_3⟩
theorem wk_X8_beginnings : Wk yX8_beginnings cX8_beginnings 4 (some .int) 1 := ⟨bw_39_23, bw_3_4, by decide +kernel⟩
theorem wv_X8_beginnings : Wv yX8_beginnings := ⟨bw_39_21, bw_39_22⟩
theorem wk_X8_clear : Wk yX8_clear cX8_clear 1 none 0 := ⟨bw_13_16, bw_3_4, by decide +kernel⟩
theorem wv_X8_clear : Wv yX8_clear := ⟨bw_13_14, bw_13_15⟩
theorem wk_X8_init : Wk yX8_init cX8_init 3 none 2 := ⟨bw_6_23, bw_3_4, by decide +kernel⟩
theorem wk_X8_isSo : Wk yX8_isSo cX8_isSo 3 (some .boolean) 2 := ⟨bw_40_10, bw_3_4, by decide +kernel⟩
theorem wv_X8_isSo : Wv yX8_isSo := ⟨bw_40_8, bw_40_9⟩
theorem wk_X8_nextWinds : Wk yX8_nextWinds cX8_nextWinds 3 (some .int) 0 := ⟨bw_41_6, bw_3_4, by decide +kernel⟩
theorem wv_X8_nextWinds : Wv yX8_nextWinds := ⟨bw_41_4, bw_41_5⟩
theorem wk_X8_size : Wk yX8_size cX8_size 1 (some .int) 0 := ⟨bw_39_3, bw_3_4, by decide +kernel⟩
theorem wv_X8_size : Wv yX8_size := ⟨bw_39_1, bw_39_2⟩
theorem wk_X9_begin : Wk yX9_begin cX9_begin 3 none 1 := ⟨bw_12_20, bw_2_3, by decide +kernel⟩
theorem wv_X9_begin : Wv yX9_begin := ⟨bw_12_18, bw_12_19⟩
theorem wk_X9_copyOf : Wk yX9_copyOf cX9_copyOf 2 none 1 := ⟨bw_24_7, bw_2_3, by decide +kernel⟩
theorem wv_X9_copyOf : Wv yX9_copyOf := ⟨bw_24_5, bw_24_6⟩
theorem wk_X9_goOn : Wk yX9_goOn cX9_goOn 2 none 1 := ⟨bw_26_23, bw_2_3, by decide +kernel⟩
theorem wv_X9_goOn : Wv yX9_goOn := ⟨bw_26_21, bw_26_22⟩
theorem wk_X9_init : Wk yX9_init cX9_init 1 none 0 := ⟨bw_4_12, bw_2_3, by decide +kernel⟩
theorem wk_X9_knownIn : Wk yX9_knownIn cX9_knownIn 4 (some .int) 1 := ⟨bw_19_22, bw_2_3, by decide +kernel⟩
theorem wv_X9_knownIn : Wv yX9_knownIn := ⟨bw_19_20, bw_19_21⟩
theorem wk_X9_sashOf : Wk yX9_sashOf cX9_sashOf 2 (some .int) 1 := ⟨bw_19_18, bw_2_3, by decide +kernel⟩
theorem wv_X9_sashOf : Wv yX9_sashOf := ⟨bw_19_16, bw_19_17⟩
theorem wk_X9_setSash : Wk yX9_setSash cX9_setSash 3 none 2 := ⟨bw_28_16, bw_2_3, by decide +kernel⟩
theorem wv_X9_setSash : Wv yX9_setSash := ⟨bw_28_14, bw_28_15⟩
theorem wk_X9_setWhoKnows : Wk yX9_setWhoKnows cX9_setWhoKnows 3 none 2 := ⟨bw_26_19, bw_2_3, by decide +kernel⟩
theorem wv_X9_setWhoKnows : Wv yX9_setWhoKnows := ⟨bw_26_17, bw_26_18⟩
theorem wk_X9_stepsGone : Wk yX9_stepsGone cX9_stepsGone 1 (some .int) 0 := ⟨bw_22_18, bw_2_3, by decide +kernel⟩
theorem wv_X9_stepsGone : Wv yX9_stepsGone := ⟨bw_22_16, bw_22_17⟩
theorem wk_X9_whoKnows : Wk yX9_whoKnows cX9_whoKnows 2 (some .int) 1 := ⟨bw_20_2, bw_2_3, by decide +kernel⟩
theorem wv_X9_whoKnows : Wv yX9_whoKnows := ⟨bw_20_0, bw_20_1⟩
theorem wk_X9_whoKnowsAny : Wk yX9_whoKnowsAny cX9_whoKnowsAny 3 (some .int) 0 := ⟨bw_45_20, bw_2_3, by decide +kernel⟩
theorem wv_X9_whoKnowsAny : Wv yX9_whoKnowsAny := ⟨bw_45_18, bw_45_19⟩
