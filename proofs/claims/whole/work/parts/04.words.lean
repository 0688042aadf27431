/-! words among the tables' words, by their places -/
theorem mem_l {a b : List Cond} {w : Cond} (h : w ∈ a) : w ∈ a ++ b := List.mem_append_left _ h
theorem mem_r {a b : List Cond} {w : Cond} (h : w ∈ b) : w ∈ a ++ b := List.mem_append_right _ h
theorem wsL_law_r1_big : ∀ w ∈ wsL_law_r1, w ∈ wsL_law := fun w h => (mem_l (mem_l (mem_l (mem_l (mem_l (mem_l (mem_l (mem_l (mem_l (mem_l (mem_l (mem_l (mem_l (mem_l h))))))))))))))
theorem wsL_law_r2_big : ∀ w ∈ wsL_law_r2, w ∈ wsL_law := fun w h => (mem_l (mem_l (mem_l (mem_l (mem_l (mem_l (mem_l (mem_l (mem_l (mem_l (mem_l (mem_l (mem_l (mem_r (mem_l h)))))))))))))))
theorem wsL_law_r3_big : ∀ w ∈ wsL_law_r3, w ∈ wsL_law := fun w h => (mem_l (mem_l (mem_l (mem_l (mem_l (mem_l (mem_l (mem_l (mem_l (mem_l (mem_l (mem_l (mem_l (mem_r (mem_r (mem_l h))))))))))))))))
theorem wsL_law_r4_big : ∀ w ∈ wsL_law_r4, w ∈ wsL_law := fun w h => (mem_l (mem_l (mem_l (mem_l (mem_l (mem_l (mem_l (mem_l (mem_l (mem_l (mem_l (mem_l (mem_l (mem_r (mem_r (mem_r (mem_l h)))))))))))))))))
theorem wsL_law_r5_big : ∀ w ∈ wsL_law_r5, w ∈ wsL_law := fun w h => (mem_l (mem_l (mem_l (mem_l (mem_l (mem_l (mem_l (mem_l (mem_l (mem_l (mem_l (mem_l (mem_l (mem_r (mem_r (mem_r (mem_r (mem_l h))))))))))))))))))
theorem wsL_law_r6_big : ∀ w ∈ wsL_law_r6, w ∈ wsL_law := fun w h => (mem_l (mem_l (mem_l (mem_l (mem_l (mem_l (mem_l (mem_l (mem_l (mem_l (mem_l (mem_l (mem_l (mem_r (mem_r (mem_r (mem_r (mem_r (mem_l h)))))))))))))))))))
theorem wsL_law_r7_big : ∀ w ∈ wsL_law_r7, w ∈ wsL_law := fun w h => (mem_l (mem_l (mem_l (mem_l (mem_l (mem_l (mem_l (mem_l (mem_l (mem_l (mem_l (mem_l (mem_l (mem_r (mem_r (mem_r (mem_r (mem_r (mem_r (mem_l h))))))))))))))))))))
theorem wsL_law_r8_big : ∀ w ∈ wsL_law_r8, w ∈ wsL_law := fun w h => (mem_l (mem_l (mem_l (mem_l (mem_l (mem_l (mem_l (mem_l (mem_l (mem_l (mem_l (mem_l (mem_l (mem_r (mem_r (mem_r (mem_r (mem_r (mem_r (mem_r (mem_l h)))))))))))))))))))))
theorem wsL_law_r9_big : ∀ w ∈ wsL_law_r9, w ∈ wsL_law := fun w h => (mem_l (mem_l (mem_l (mem_l (mem_l (mem_l (mem_l (mem_l (mem_l (mem_l (mem_l (mem_l (mem_l (mem_r (mem_r (mem_r (mem_r (mem_r (mem_r (mem_r (mem_r (mem_l h))))))))))))))))))))))
theorem wsL_law_r10_big : ∀ w ∈ wsL_law_r10, w ∈ wsL_law := fun w h => (mem_l (mem_l (mem_l (mem_l (mem_l (mem_l (mem_l (mem_l (mem_l (mem_l (mem_l (mem_l (mem_l (mem_r (mem_r (mem_r (mem_r (mem_r (mem_r (mem_r (mem_r (mem_r (mem_l h)))))))))))))))))))))))
theorem wsL_law_r11_big : ∀ w ∈ wsL_law_r11, w ∈ wsL_law := fun w h => (mem_l (mem_l (mem_l (mem_l (mem_l (mem_l (mem_l (mem_l (mem_l (mem_l (mem_l (mem_l (mem_l (mem_r (mem_r (mem_r (mem_r (mem_r (mem_r (mem_r (mem_r (mem_r (mem_r (mem_l h))))))))))))))))))))))))
theorem wsL_law_r12_big : ∀ w ∈ wsL_law_r12, w ∈ wsL_law := fun w h => (mem_l (mem_l (mem_l (mem_l (mem_l (mem_l (mem_l (mem_l (mem_l (mem_l (mem_l (mem_l (mem_l (mem_r (mem_r (mem_r (mem_r (mem_r (mem_r (mem_r (mem_r (mem_r (mem_r (mem_r (mem_l h)))))))))))))))))))))))))
theorem wsL_law_r13_big : ∀ w ∈ wsL_law_r13, w ∈ wsL_law := fun w h => (mem_l (mem_l (mem_l (mem_l (mem_l (mem_l (mem_l (mem_l (mem_l (mem_l (mem_l (mem_l (mem_l (mem_r (mem_r (mem_r (mem_r (mem_r (mem_r (mem_r (mem_r (mem_r (mem_r (mem_r (mem_r (mem_l h))))))))))))))))))))))))))
theorem wsL_law_r14_big : ∀ w ∈ wsL_law_r14, w ∈ wsL_law := fun w h => (mem_l (mem_l (mem_l (mem_l (mem_l (mem_l (mem_l (mem_l (mem_l (mem_l (mem_l (mem_l (mem_l (mem_r (mem_r (mem_r (mem_r (mem_r (mem_r (mem_r (mem_r (mem_r (mem_r (mem_r (mem_r (mem_r (mem_l h)))))))))))))))))))))))))))
theorem wsL_law_r15_big : ∀ w ∈ wsL_law_r15, w ∈ wsL_law := fun w h => (mem_l (mem_l (mem_l (mem_l (mem_l (mem_l (mem_l (mem_l (mem_l (mem_l (mem_l (mem_l (mem_l (mem_r (mem_r (mem_r (mem_r (mem_r (mem_r (mem_r (mem_r (mem_r (mem_r (mem_r (mem_r (mem_r (mem_r (mem_l h))))))))))))))))))))))))))))
theorem wsL_law_r16_big : ∀ w ∈ wsL_law_r16, w ∈ wsL_law := fun w h => (mem_l (mem_l (mem_l (mem_l (mem_l (mem_l (mem_l (mem_l (mem_l (mem_l (mem_l (mem_l (mem_l (mem_r (mem_r (mem_r (mem_r (mem_r (mem_r (mem_r (mem_r (mem_r (mem_r (mem_r (mem_r (mem_r (mem_r (mem_r (mem_l h)))))))))))))))))))))))))))))
theorem wsL_law_r17_big : ∀ w ∈ wsL_law_r17, w ∈ wsL_law := fun w h => (mem_l (mem_l (mem_l (mem_l (mem_l (mem_l (mem_l (mem_l (mem_l (mem_l (mem_l (mem_l (mem_l (mem_r (mem_r (mem_r (mem_r (mem_r (mem_r (mem_r (mem_r (mem_r (mem_r (mem_r (mem_r (mem_r (mem_r (mem_r (mem_r (mem_l h))))))))))))))))))))))))))))))
theorem wsL_law_r18_big : ∀ w ∈ wsL_law_r18, w ∈ wsL_law := fun w h => (mem_l (mem_l (mem_l (mem_l (mem_l (mem_l (mem_l (mem_l (mem_l (mem_l (mem_l (mem_l (mem_l (mem_r (mem_r (mem_r (mem_r (mem_r (mem_r (mem_r (mem_r (mem_r (mem_r (mem_r (mem_r (mem_r (mem_r (mem_r (mem_r (mem_r (mem_l h)))))))))))))))))))))))))))))))
theorem wsL_law_r19_big : ∀ w ∈ wsL_law_r19, w ∈ wsL_law := fun w h => (mem_l (mem_l (mem_l (mem_l (mem_l (mem_l (mem_l (mem_l (mem_l (mem_l (mem_l (mem_l (mem_l (mem_r (mem_r (mem_r (mem_r (mem_r (mem_r (mem_r (mem_r (mem_r (mem_r (mem_r (mem_r (mem_r (mem_r (mem_r (mem_r (mem_r (mem_r (mem_l h))))))))))))))))))))))))))))))))
theorem wsL_law_r20_big : ∀ w ∈ wsL_law_r20, w ∈ wsL_law := fun w h => (mem_l (mem_l (mem_l (mem_l (mem_l (mem_l (mem_l (mem_l (mem_l (mem_l (mem_l (mem_l (mem_l (mem_r (mem_r (mem_r (mem_r (mem_r (mem_r (mem_r (mem_r (mem_r (mem_r (mem_r (mem_r (mem_r (mem_r (mem_r (mem_r (mem_r (mem_r (mem_r (mem_l h)))))))))))))))))))))))))))))))))
theorem wsL_law_r21_big : ∀ w ∈ wsL_law_r21, w ∈ wsL_law := fun w h => (mem_l (mem_l (mem_l (mem_l (mem_l (mem_l (mem_l (mem_l (mem_l (mem_l (mem_l (mem_l (mem_l (mem_r (mem_r (mem_r (mem_r (mem_r (mem_r (mem_r (mem_r (mem_r (mem_r (mem_r (mem_r (mem_r (mem_r (mem_r (mem_r (mem_r (mem_r (mem_r (mem_r (mem_l h))))))))))))))))))))))))))))))))))
theorem wsL_law_r22_big : ∀ w ∈ wsL_law_r22, w ∈ wsL_law := fun w h => (mem_l (mem_l (mem_l (mem_l (mem_l (mem_l (mem_l (mem_l (mem_l (mem_l (mem_l (mem_l (mem_l (mem_r (mem_r (mem_r (mem_r (mem_r (mem_r (mem_r (mem_r (mem_r (mem_r (mem_r (mem_r (mem_r (mem_r (mem_r (mem_r (mem_r (mem_r (mem_r (mem_r (mem_r (mem_l h)))))))))))))))))))))))))))))))))))
theorem wsL_law_r23_big : ∀ w ∈ wsL_law_r23, w ∈ wsL_law := fun w h => (mem_l (mem_l (mem_l (mem_l (mem_l (mem_l (mem_l (mem_l (mem_l (mem_l (mem_l (mem_l (mem_l (mem_r (mem_r (mem_r (mem_r (mem_r (mem_r (mem_r (mem_r (mem_r (mem_r (mem_r (mem_r (mem_r (mem_r (mem_r (mem_r (mem_r (mem_r (mem_r (mem_r (mem_r (mem_r (mem_l h))))))))))))))))))))))))))))))))))))
theorem wsL_law_r24_big : ∀ w ∈ wsL_law_r24, w ∈ wsL_law := fun w h => (mem_l (mem_l (mem_l (mem_l (mem_l (mem_l (mem_l (mem_l (mem_l (mem_l (mem_l (mem_l (mem_l (mem_r (mem_r (mem_r (mem_r (mem_r (mem_r (mem_r (mem_r (mem_r (mem_r (mem_r (mem_r (mem_r (mem_r (mem_r (mem_r (mem_r (mem_r (mem_r (mem_r (mem_r (mem_r (mem_r (mem_l h)))))))))))))))))))))))))))))))))))))
theorem wsL_law_r25_big : ∀ w ∈ wsL_law_r25, w ∈ wsL_law := fun w h => (mem_l (mem_l (mem_l (mem_l (mem_l (mem_l (mem_l (mem_l (mem_l (mem_l (mem_l (mem_l (mem_l (mem_r (mem_r (mem_r (mem_r (mem_r (mem_r (mem_r (mem_r (mem_r (mem_r (mem_r (mem_r (mem_r (mem_r (mem_r (mem_r (mem_r (mem_r (mem_r (mem_r (mem_r (mem_r (mem_r (mem_r (mem_l h))))))))))))))))))))))))))))))))))))))
theorem wsL_law_r26_big : ∀ w ∈ wsL_law_r26, w ∈ wsL_law := fun w h => (mem_l (mem_l (mem_l (mem_l (mem_l (mem_l (mem_l (mem_l (mem_l (mem_l (mem_l (mem_l (mem_l (mem_r (mem_r (mem_r (mem_r (mem_r (mem_r (mem_r (mem_r (mem_r (mem_r (mem_r (mem_r (mem_r (mem_r (mem_r (mem_r (mem_r (mem_r (mem_r (mem_r (mem_r (mem_r (mem_r (mem_r (mem_r (mem_l h)))))))))))))))))))))))))))))))))))))))
theorem wsL_law_r27_big : ∀ w ∈ wsL_law_r27, w ∈ wsL_law := fun w h => (mem_l (mem_l (mem_l (mem_l (mem_l (mem_l (mem_l (mem_l (mem_l (mem_l (mem_l (mem_l (mem_l (mem_r (mem_r (mem_r (mem_r (mem_r (mem_r (mem_r (mem_r (mem_r (mem_r (mem_r (mem_r (mem_r (mem_r (mem_r (mem_r (mem_r (mem_r (mem_r (mem_r (mem_r (mem_r (mem_r (mem_r (mem_r (mem_r (mem_l h))))))))))))))))))))))))))))))))))))))))
theorem wsL_law_r28_big : ∀ w ∈ wsL_law_r28, w ∈ wsL_law := fun w h => (mem_l (mem_l (mem_l (mem_l (mem_l (mem_l (mem_l (mem_l (mem_l (mem_l (mem_l (mem_l (mem_l (mem_r (mem_r (mem_r (mem_r (mem_r (mem_r (mem_r (mem_r (mem_r (mem_r (mem_r (mem_r (mem_r (mem_r (mem_r (mem_r (mem_r (mem_r (mem_r (mem_r (mem_r (mem_r (mem_r (mem_r (mem_r (mem_r (mem_r (mem_l h)))))))))))))))))))))))))))))))))))))))))
theorem wsL_law_r29_big : ∀ w ∈ wsL_law_r29, w ∈ wsL_law := fun w h => (mem_l (mem_l (mem_l (mem_l (mem_l (mem_l (mem_l (mem_l (mem_l (mem_l (mem_l (mem_l (mem_l (mem_r (mem_r (mem_r (mem_r (mem_r (mem_r (mem_r (mem_r (mem_r (mem_r (mem_r (mem_r (mem_r (mem_r (mem_r (mem_r (mem_r (mem_r (mem_r (mem_r (mem_r (mem_r (mem_r (mem_r (mem_r (mem_r (mem_r (mem_r (mem_l h))))))))))))))))))))))))))))))))))))))))))
theorem wsL_law_r30_big : ∀ w ∈ wsL_law_r30, w ∈ wsL_law := fun w h => (mem_l (mem_l (mem_l (mem_l (mem_l (mem_l (mem_l (mem_l (mem_l (mem_l (mem_l (mem_l (mem_l (mem_r (mem_r (mem_r (mem_r (mem_r (mem_r (mem_r (mem_r (mem_r (mem_r (mem_r (mem_r (mem_r (mem_r (mem_r (mem_r (mem_r (mem_r (mem_r (mem_r (mem_r (mem_r (mem_r (mem_r (mem_r (mem_r (mem_r (mem_r (mem_r (mem_l h)))))))))))))))))))))))))))))))))))))))))))
theorem wsL_law_r31_big : ∀ w ∈ wsL_law_r31, w ∈ wsL_law := fun w h => (mem_l (mem_l (mem_l (mem_l (mem_l (mem_l (mem_l (mem_l (mem_l (mem_l (mem_l (mem_l (mem_l (mem_r (mem_r (mem_r (mem_r (mem_r (mem_r (mem_r (mem_r (mem_r (mem_r (mem_r (mem_r (mem_r (mem_r (mem_r (mem_r (mem_r (mem_r (mem_r (mem_r (mem_r (mem_r (mem_r (mem_r (mem_r (mem_r (mem_r (mem_r (mem_r (mem_r (mem_l h))))))))))))))))))))))))))))))))))))))))))))
theorem wsL_law_r32_big : ∀ w ∈ wsL_law_r32, w ∈ wsL_law := fun w h => (mem_l (mem_l (mem_l (mem_l (mem_l (mem_l (mem_l (mem_l (mem_l (mem_l (mem_l (mem_l (mem_l (mem_r (mem_r (mem_r (mem_r (mem_r (mem_r (mem_r (mem_r (mem_r (mem_r (mem_r (mem_r (mem_r (mem_r (mem_r (mem_r (mem_r (mem_r (mem_r (mem_r (mem_r (mem_r (mem_r (mem_r (mem_r (mem_r (mem_r (mem_r (mem_r (mem_r (mem_r (mem_l h)))))))))))))))))))))))))))))))))))))))))))))
theorem wsL_law_r33_big : ∀ w ∈ wsL_law_r33, w ∈ wsL_law := fun w h => (mem_l (mem_l (mem_l (mem_l (mem_l (mem_l (mem_l (mem_l (mem_l (mem_l (mem_l (mem_l (mem_l (mem_r (mem_r (mem_r (mem_r (mem_r (mem_r (mem_r (mem_r (mem_r (mem_r (mem_r (mem_r (mem_r (mem_r (mem_r (mem_r (mem_r (mem_r (mem_r (mem_r (mem_r (mem_r (mem_r (mem_r (mem_r (mem_r (mem_r (mem_r (mem_r (mem_r (mem_r (mem_r (mem_l h))))))))))))))))))))))))))))))))))))))))))))))
theorem wsL_law_r34_big : ∀ w ∈ wsL_law_r34, w ∈ wsL_law := fun w h => (mem_l (mem_l (mem_l (mem_l (mem_l (mem_l (mem_l (mem_l (mem_l (mem_l (mem_l (mem_l (mem_l (mem_r (mem_r (mem_r (mem_r (mem_r (mem_r (mem_r (mem_r (mem_r (mem_r (mem_r (mem_r (mem_r (mem_r (mem_r (mem_r (mem_r (mem_r (mem_r (mem_r (mem_r (mem_r (mem_r (mem_r (mem_r (mem_r (mem_r (mem_r (mem_r (mem_r (mem_r (mem_r (mem_r (mem_l h)))))))))))))))))))))))))))))))))))))))))))))))
theorem wsL_law_r35_big : ∀ w ∈ wsL_law_r35, w ∈ wsL_law := fun w h => (mem_l (mem_l (mem_l (mem_l (mem_l (mem_l (mem_l (mem_l (mem_l (mem_l (mem_l (mem_l (mem_l (mem_r (mem_r (mem_r (mem_r (mem_r (mem_r (mem_r (mem_r (mem_r (mem_r (mem_r (mem_r (mem_r (mem_r (mem_r (mem_r (mem_r (mem_r (mem_r (mem_r (mem_r (mem_r (mem_r (mem_r (mem_r (mem_r (mem_r (mem_r (mem_r (mem_r (mem_r (mem_r (mem_r (mem_r (mem_l h))))))))))))))))))))))))))))))))))))))))))))))))
theorem wsL_law_r36_big : ∀ w ∈ wsL_law_r36, w ∈ wsL_law := fun w h => (mem_l (mem_l (mem_l (mem_l (mem_l (mem_l (mem_l (mem_l (mem_l (mem_l (mem_l (mem_l (mem_l (mem_r (mem_r (mem_r (mem_r (mem_r (mem_r (mem_r (mem_r (mem_r (mem_r (mem_r (mem_r (mem_r (mem_r (mem_r (mem_r (mem_r (mem_r (mem_r (mem_r (mem_r (mem_r (mem_r (mem_r (mem_r (mem_r (mem_r (mem_r (mem_r (mem_r (mem_r (mem_r (mem_r (mem_r (mem_r (mem_l h)))))))))))))))))))))))))))))))))))))))))))))))))
theorem wsL_law_r37_big : ∀ w ∈ wsL_law_r37, w ∈ wsL_law := fun w h => (mem_l (mem_l (mem_l (mem_l (mem_l (mem_l (mem_l (mem_l (mem_l (mem_l (mem_l (mem_l (mem_l (mem_r (mem_r (mem_r (mem_r (mem_r (mem_r (mem_r (mem_r (mem_r (mem_r (mem_r (mem_r (mem_r (mem_r (mem_r (mem_r (mem_r (mem_r (mem_r (mem_r (mem_r (mem_r (mem_r (mem_r (mem_r (mem_r (mem_r (mem_r (mem_r (mem_r (mem_r (mem_r (mem_r (mem_r (mem_r (mem_r (mem_l h))))))))))))))))))))))))))))))))))))))))))))))))))
theorem wsL_law_r38_big : ∀ w ∈ wsL_law_r38, w ∈ wsL_law := fun w h => (mem_l (mem_l (mem_l (mem_l (mem_l (mem_l (mem_l (mem_l (mem_l (mem_l (mem_l (mem_l (mem_l (mem_r (mem_r (mem_r (mem_r (mem_r (mem_r (mem_r (mem_r (mem_r (mem_r (mem_r (mem_r (mem_r (mem_r (mem_r (mem_r (mem_r (mem_r (mem_r (mem_r (mem_r (mem_r (mem_r (mem_r (mem_r (mem_r (mem_r (mem_r (mem_r (mem_r (mem_r (mem_r (mem_r (mem_r (mem_r (mem_r (mem_r (mem_l h)))))))))))))))))))))))))))))))))))))))))))))))))))
theorem wsL_law_r39_big : ∀ w ∈ wsL_law_r39, w ∈ wsL_law := fun w h => (mem_l (mem_l (mem_l (mem_l (mem_l (mem_l (mem_l (mem_l (mem_l (mem_l (mem_l (mem_l (mem_l (mem_r (mem_r (mem_r (mem_r (mem_r (mem_r (mem_r (mem_r (mem_r (mem_r (mem_r (mem_r (mem_r (mem_r (mem_r (mem_r (mem_r (mem_r (mem_r (mem_r (mem_r (mem_r (mem_r (mem_r (mem_r (mem_r (mem_r (mem_r (mem_r (mem_r (mem_r (mem_r (mem_r (mem_r (mem_r (mem_r (mem_r (mem_r (mem_l h))))))))))))))))))))))))))))))))))))))))))))))))))))
theorem wsL_law_r40_big : ∀ w ∈ wsL_law_r40, w ∈ wsL_law := fun w h => (mem_l (mem_l (mem_l (mem_l (mem_l (mem_l (mem_l (mem_l (mem_l (mem_l (mem_l (mem_l (mem_l (mem_r (mem_r (mem_r (mem_r (mem_r (mem_r (mem_r (mem_r (mem_r (mem_r (mem_r (mem_r (mem_r (mem_r (mem_r (mem_r (mem_r (mem_r (mem_r (mem_r (mem_r (mem_r (mem_r (mem_r (mem_r (mem_r (mem_r (mem_r (mem_r (mem_r (mem_r (mem_r (mem_r (mem_r (mem_r (mem_r (mem_r (mem_r (mem_r (mem_l h)))))))))))))))))))))))))))))))))))))))))))))))))))))
theorem wsL_law_r41_big : ∀ w ∈ wsL_law_r41, w ∈ wsL_law := fun w h => (mem_l (mem_l (mem_l (mem_l (mem_l (mem_l (mem_l (mem_l (mem_l (mem_l (mem_l (mem_l (mem_l (mem_r (mem_r (mem_r (mem_r (mem_r (mem_r (mem_r (mem_r (mem_r (mem_r (mem_r (mem_r (mem_r (mem_r (mem_r (mem_r (mem_r (mem_r (mem_r (mem_r (mem_r (mem_r (mem_r (mem_r (mem_r (mem_r (mem_r (mem_r (mem_r (mem_r (mem_r (mem_r (mem_r (mem_r (mem_r (mem_r (mem_r (mem_r (mem_r (mem_r (mem_l h))))))))))))))))))))))))))))))))))))))))))))))))))))))
theorem wsL_law_r42_big : ∀ w ∈ wsL_law_r42, w ∈ wsL_law := fun w h => (mem_l (mem_l (mem_l (mem_l (mem_l (mem_l (mem_l (mem_l (mem_l (mem_l (mem_l (mem_l (mem_l (mem_r (mem_r (mem_r (mem_r (mem_r (mem_r (mem_r (mem_r (mem_r (mem_r (mem_r (mem_r (mem_r (mem_r (mem_r (mem_r (mem_r (mem_r (mem_r (mem_r (mem_r (mem_r (mem_r (mem_r (mem_r (mem_r (mem_r (mem_r (mem_r (mem_r (mem_r (mem_r (mem_r (mem_r (mem_r (mem_r (mem_r (mem_r (mem_r (mem_r (mem_r (mem_l h)))))))))))))))))))))))))))))))))))))))))))))))))))))))
theorem wsL_law_r43_big : ∀ w ∈ wsL_law_r43, w ∈ wsL_law := fun w h => (mem_l (mem_l (mem_l (mem_l (mem_l (mem_l (mem_l (mem_l (mem_l (mem_l (mem_l (mem_l (mem_l (mem_r (mem_r (mem_r (mem_r (mem_r (mem_r (mem_r (mem_r (mem_r (mem_r (mem_r (mem_r (mem_r (mem_r (mem_r (mem_r (mem_r (mem_r (mem_r (mem_r (mem_r (mem_r (mem_r (mem_r (mem_r (mem_r (mem_r (mem_r (mem_r (mem_r (mem_r (mem_r (mem_r (mem_r (mem_r (mem_r (mem_r (mem_r (mem_r (mem_r (mem_r (mem_r (mem_l h))))))))))))))))))))))))))))))))))))))))))))))))))))))))
theorem wsL_law_r44_big : ∀ w ∈ wsL_law_r44, w ∈ wsL_law := fun w h => (mem_l (mem_l (mem_l (mem_l (mem_l (mem_l (mem_l (mem_l (mem_l (mem_l (mem_l (mem_l (mem_l (mem_r (mem_r (mem_r (mem_r (mem_r (mem_r (mem_r (mem_r (mem_r (mem_r (mem_r (mem_r (mem_r (mem_r (mem_r (mem_r (mem_r (mem_r (mem_r (mem_r (mem_r (mem_r (mem_r (mem_r (mem_r (mem_r (mem_r (mem_r (mem_r (mem_r (mem_r (mem_r (mem_r (mem_r (mem_r (mem_r (mem_r (mem_r (mem_r (mem_r (mem_r (mem_r (mem_r (mem_l h)))))))))))))))))))))))))))))))))))))))))))))))))))))))))
theorem wsL_law_r45_big : ∀ w ∈ wsL_law_r45, w ∈ wsL_law := fun w h => (mem_l (mem_l (mem_l (mem_l (mem_l (mem_l (mem_l (mem_l (mem_l (mem_l (mem_l (mem_l (mem_l (mem_r (mem_r (mem_r (mem_r (mem_r (mem_r (mem_r (mem_r (mem_r (mem_r (mem_r (mem_r (mem_r (mem_r (mem_r (mem_r (mem_r (mem_r (mem_r (mem_r (mem_r (mem_r (mem_r (mem_r (mem_r (mem_r (mem_r (mem_r (mem_r (mem_r (mem_r (mem_r (mem_r (mem_r (mem_r (mem_r (mem_r (mem_r (mem_r (mem_r (mem_r (mem_r (mem_r (mem_r (mem_l h))))))))))))))))))))))))))))))))))))))))))))))))))))))))))
theorem wsL_law_r46_big : ∀ w ∈ wsL_law_r46, w ∈ wsL_law := fun w h => (mem_l (mem_l (mem_l (mem_l (mem_l (mem_l (mem_l (mem_l (mem_l (mem_l (mem_l (mem_l (mem_l (mem_r (mem_r (mem_r (mem_r (mem_r (mem_r (mem_r (mem_r (mem_r (mem_r (mem_r (mem_r (mem_r (mem_r (mem_r (mem_r (mem_r (mem_r (mem_r (mem_r (mem_r (mem_r (mem_r (mem_r (mem_r (mem_r (mem_r (mem_r (mem_r (mem_r (mem_r (mem_r (mem_r (mem_r (mem_r (mem_r (mem_r (mem_r (mem_r (mem_r (mem_r (mem_r (mem_r (mem_r (mem_r h))))))))))))))))))))))))))))))))))))))))))))))))))))))))))
theorem bw0 : Cond.fieldLink RX11 40 "NewsDraughtsModel" "readOpen" "[I" ∈ wsL_law := wsL_law_r14_big _ (List.mem_of_getElem? (i := 11) rfl)
theorem bw1 : Cond.fieldLink RX11 37 "NewsDraughtsModel" "readKind" "[I" ∈ wsL_law := wsL_law_r14_big _ (List.mem_of_getElem? (i := 10) rfl)
theorem bw2 : Cond.fieldLink RX11 69 "NewsDraughtsModel" "readNewsMany" "I" ∈ wsL_law := wsL_law_r14_big _ (List.mem_of_getElem? (i := 23) rfl)
theorem bw3 : Cond.fieldLink RX11 43 "NewsDraughtsModel" "readNews" "[I" ∈ wsL_law := wsL_law_r14_big _ (List.mem_of_getElem? (i := 12) rfl)
theorem bw4 : Cond.methodLink RX11 75 yX11_in ∈ wsL_law := wsL_law_r16_big _ (List.mem_of_getElem? (i := 9) rfl)
theorem bw5 : Cond.fieldLink RX11 72 "NewsDraughtsModel" "houses" "I" ∈ wsL_law := wsL_law_r15_big _ (List.mem_of_getElem? (i := 14) rfl)
theorem bw6 : Cond.fieldLink RX11 79 "NewsDraughtsModel" "newsMany" "I" ∈ wsL_law := wsL_law_r15_big _ (List.mem_of_getElem? (i := 15) rfl)
theorem bw7 : Cond.fieldLink RX11 82 "NewsDraughtsModel" "texted" "I" ∈ wsL_law := wsL_law_r16_big _ (List.mem_of_getElem? (i := 8) rfl)
theorem bw8 : Cond.fieldLink RX11 31 "NewsDraughtsModel" "text" "[I" ∈ wsL_law := wsL_law_r14_big _ (List.mem_of_getElem? (i := 8) rfl)
theorem bw9 : Cond.fieldLink RX11 85 "NewsDraughtsModel" "at" "I" ∈ wsL_law := wsL_law_r17_big _ (List.mem_of_getElem? (i := 4) rfl)
theorem bw10 : Cond.methodLink RX11 88 yX11_letterAt ∈ wsL_law := wsL_law_r17_big _ (List.mem_of_getElem? (i := 9) rfl)
theorem bw11 : Cond.fieldLink RX11 34 "NewsDraughtsModel" "told" "[I" ∈ wsL_law := wsL_law_r14_big _ (List.mem_of_getElem? (i := 9) rfl)
theorem bw12 : Cond.methodLink RX11 92 yX11_isFigure ∈ wsL_law := wsL_law_r17_big _ (List.mem_of_getElem? (i := 21) rfl)
theorem bw13 : Cond.fieldLink RX11 62 "NewsDraughtsModel" "readWinds" "I" ∈ wsL_law := wsL_law_r14_big _ (List.mem_of_getElem? (i := 15) rfl)
theorem bw14 : Cond.fieldLink RX11 103 "NewsDraughtsModel" "readColumns" "I" ∈ wsL_law := wsL_law_r14_big _ (List.mem_of_getElem? (i := 22) rfl)
theorem bw15 : Cond.fieldLink RX11 100 "NewsDraughtsModel" "readRows" "I" ∈ wsL_law := wsL_law_r14_big _ (List.mem_of_getElem? (i := 21) rfl)
theorem bw16 : Cond.fieldLink RX11 96 "NewsDraughtsModel" "isBegun" "Z" ∈ wsL_law := wsL_law_r14_big _ (List.mem_of_getElem? (i := 20) rfl)
theorem bw17 : Cond.methodLink RX11 109 yX11_isTold ∈ wsL_law := wsL_law_r18_big _ (List.mem_of_getElem? (i := 0) rfl)
theorem bw18 : Cond.methodLink RX11 106 yX11_readNumbers ∈ wsL_law := wsL_law_r17_big _ (List.mem_of_getElem? (i := 17) rfl)
theorem bw19 : Cond.methodLink RX11 55 yX11_tellsHouse ∈ wsL_law := wsL_law_r15_big _ (List.mem_of_getElem? (i := 0) rfl)
theorem bw20 : Cond.methodLink RX11 112 yX11_lastTold ∈ wsL_law := wsL_law_r18_big _ (List.mem_of_getElem? (i := 8) rfl)
theorem bw21 : Cond.methodLink RX11 59 yX11_tellsNews ∈ wsL_law := wsL_law_r15_big _ (List.mem_of_getElem? (i := 4) rfl)
theorem bw22 : Cond.fieldLink RX11 46 "NewsDraughtsModel" "readWind" "[I" ∈ wsL_law := wsL_law_r14_big _ (List.mem_of_getElem? (i := 13) rfl)
theorem bw23 : Cond.methodLink RX11 120 yX11_readHouseOf ∈ wsL_law := wsL_law_r18_big _ (List.mem_of_getElem? (i := 4) rfl)
theorem bw24 : Cond.methodLink RX11 123 yX11_readNewsOf ∈ wsL_law := wsL_law_r18_big _ (List.mem_of_getElem? (i := 12) rfl)
theorem bw25 : Cond.methodLink RX11 126 yX11_readWindOf ∈ wsL_law := wsL_law_r18_big _ (List.mem_of_getElem? (i := 16) rfl)
theorem bw26 : Cond.methodLink RX11 116 yX11_readGridOf ∈ wsL_law := wsL_law_r17_big _ (List.mem_of_getElem? (i := 13) rfl)
theorem bw27 : Cond.methodLink RX11 129 yX11_readItem ∈ wsL_law := wsL_law_r17_big _ (List.mem_of_getElem? (i := 5) rfl)
theorem bw28 : Cond.methodLink RX11 52 yX11_clearTold ∈ wsL_law := wsL_law_r14_big _ (List.mem_of_getElem? (i := 16) rfl)
theorem bw29 : Cond.fieldLink RX11 154 "NewsDraughtsModel" "sees" "I" ∈ wsL_law := wsL_law_r15_big _ (List.mem_of_getElem? (i := 19) rfl)
theorem bw30 : Cond.fieldLink RX11 151 "NewsDraughtsModel" "keeps" "I" ∈ wsL_law := wsL_law_r15_big _ (List.mem_of_getElem? (i := 18) rfl)
theorem bw31 : Cond.fieldLink RX11 148 "NewsDraughtsModel" "acts" "I" ∈ wsL_law := wsL_law_r15_big _ (List.mem_of_getElem? (i := 17) rfl)
theorem bw32 : Cond.fieldLink RX11 13 "NewsDraughtsModel" "news" "[I" ∈ wsL_law := wsL_law_r14_big _ (List.mem_of_getElem? (i := 2) rfl)
theorem bw33 : Cond.fieldLink RX11 19 "NewsDraughtsModel" "st" "[I" ∈ wsL_law := wsL_law_r14_big _ (List.mem_of_getElem? (i := 4) rfl)
theorem bw34 : Cond.methodLink RX11 141 yX11_copies ∈ wsL_law := wsL_law_r15_big _ (List.mem_of_getElem? (i := 20) rfl)
theorem bw35 : Cond.fieldLink RX11 16 "NewsDraughtsModel" "winds" "[I" ∈ wsL_law := wsL_law_r14_big _ (List.mem_of_getElem? (i := 3) rfl)
theorem bw36 : Cond.fieldLink RX11 145 "NewsDraughtsModel" "windMany" "I" ∈ wsL_law := wsL_law_r15_big _ (List.mem_of_getElem? (i := 16) rfl)
theorem bw37 : Cond.fieldLink RX11 7 "NewsDraughtsModel" "kinds" "[I" ∈ wsL_law := wsL_law_r14_big _ (List.mem_of_getElem? (i := 1) rfl)
theorem bw38 : Cond.fieldLink RX11 138 "NewsDraughtsModel" "columns" "I" ∈ wsL_law := wsL_law_r15_big _ (List.mem_of_getElem? (i := 13) rfl)
theorem bw39 : Cond.fieldLink RX11 135 "NewsDraughtsModel" "rows" "I" ∈ wsL_law := wsL_law_r15_big _ (List.mem_of_getElem? (i := 12) rfl)
theorem bw40 : Cond.methodLink RX11 66 yX11_settles ∈ wsL_law := wsL_law_r15_big _ (List.mem_of_getElem? (i := 8) rfl)
theorem bw41 : Cond.methodLink RX11 132 yX11_fault ∈ wsL_law := wsL_law_r19_big _ (List.mem_of_getElem? (i := 5) rfl)
theorem bw42 : Cond.fieldLink RX11 157 "NewsDraughtsModel" "only" "I" ∈ wsL_law := wsL_law_r20_big _ (List.mem_of_getElem? (i := 18) rfl)
theorem bw43 : Cond.fieldLink RX11 49 "NewsDraughtsModel" "now" "[I" ∈ wsL_law := wsL_law_r14_big _ (List.mem_of_getElem? (i := 14) rfl)
theorem bw44 : Cond.methodLink RX11 160 yX11_asItIs ∈ wsL_law := wsL_law_r20_big _ (List.mem_of_getElem? (i := 14) rfl)
theorem bw45 : Cond.methodLink RX11 171 yX11_letsIn ∈ wsL_law := wsL_law_r28_big _ (List.mem_of_getElem? (i := 4) rfl)
theorem bw46 : Cond.methodLink RX11 167 yX11_has ∈ wsL_law := wsL_law_r20_big _ (List.mem_of_getElem? (i := 23) rfl)
theorem bw47 : Cond.methodLink RX11 163 yX11_beside ∈ wsL_law := wsL_law_r28_big _ (List.mem_of_getElem? (i := 0) rfl)
theorem bw48 : Cond.methodLink RX11 177 yX11_blowsFrom ∈ wsL_law := wsL_law_r27_big _ (List.mem_of_getElem? (i := 20) rfl)
theorem bw49 : Cond.methodLink RX11 174 yX11_letsOut ∈ wsL_law := wsL_law_r27_big _ (List.mem_of_getElem? (i := 16) rfl)
theorem bw50 : Cond.methodLink RX11 184 yX11_goesBy ∈ wsL_law := wsL_law_r27_big _ (List.mem_of_getElem? (i := 12) rfl)
theorem bw51 : Cond.methodLink RX11 181 yX11_windOf ∈ wsL_law := wsL_law_r23_big _ (List.mem_of_getElem? (i := 11) rfl)
theorem bw52 : Cond.methodLink RX11 191 yX11_known ∈ wsL_law := wsL_law_r20_big _ (List.mem_of_getElem? (i := 19) rfl)
theorem bw53 : Cond.methodLink RX11 188 yX11_isHouse ∈ wsL_law := wsL_law_r20_big _ (List.mem_of_getElem? (i := 10) rfl)
theorem bw54 : Cond.methodLink RX11 197 yX11_bits ∈ wsL_law := wsL_law_r22_big _ (List.mem_of_getElem? (i := 8) rfl)
theorem bw55 : Cond.methodLink RX11 194 yX11_isNews ∈ wsL_law := wsL_law_r22_big _ (List.mem_of_getElem? (i := 4) rfl)
theorem bw56 : Cond.fieldLink RX11 22 "NewsDraughtsModel" "was" "[I" ∈ wsL_law := wsL_law_r14_big _ (List.mem_of_getElem? (i := 5) rfl)
theorem bw57 : Cond.methodLink RX11 203 yX11_goes ∈ wsL_law := wsL_law_r27_big _ (List.mem_of_getElem? (i := 8) rfl)
theorem bw58 : Cond.methodLink RX11 200 yX11_remembers ∈ wsL_law := wsL_law_r27_big _ (List.mem_of_getElem? (i := 4) rfl)
theorem bw59 : Cond.methodLink RX11 209 yX11_knowsBehind ∈ wsL_law := wsL_law_r31_big _ (List.mem_of_getElem? (i := 11) rfl)
theorem bw60 : Cond.methodLink RX11 206 yX11_asItIsOf ∈ wsL_law := wsL_law_r31_big _ (List.mem_of_getElem? (i := 7) rfl)
theorem bw61 : Cond.methodLink RX11 212 yX11_isCutBy ∈ wsL_law := wsL_law_r33_big _ (List.mem_of_getElem? (i := 3) rfl)
theorem bw62 : Cond.fieldLink RX11 218 "NewsDraughtsModel" "other" "I" ∈ wsL_law := wsL_law_r35_big _ (List.mem_of_getElem? (i := 19) rfl)
theorem bw63 : Cond.fieldLink RX11 215 "NewsDraughtsModel" "one" "I" ∈ wsL_law := wsL_law_r35_big _ (List.mem_of_getElem? (i := 18) rfl)
theorem bw64 : Cond.methodLink RX11 221 yX11_isSoBy ∈ wsL_law := wsL_law_r36_big _ (List.mem_of_getElem? (i := 0) rfl)
theorem bw65 : Cond.methodLink RX11 225 yX11_findWay ∈ wsL_law := wsL_law_r35_big _ (List.mem_of_getElem? (i := 20) rfl)
theorem bw66 : Cond.methodLink RX11 229 yX11_heavy ∈ wsL_law := wsL_law_r36_big _ (List.mem_of_getElem? (i := 22) rfl)
theorem bw67 : Cond.methodLink RX11 232 yX11_knowsBy ∈ wsL_law := wsL_law_r38_big _ (List.mem_of_getElem? (i := 12) rfl)
theorem bw68 : Cond.methodLink RX11 235 yX11_isWon ∈ wsL_law := wsL_law_r38_big _ (List.mem_of_getElem? (i := 8) rfl)
theorem bw69 : Cond.fieldLink RX11 28 "NewsDraughtsModel" "seen" "[I" ∈ wsL_law := wsL_law_r14_big _ (List.mem_of_getElem? (i := 7) rfl)
theorem bw70 : Cond.methodLink RX11 238 yX11_isSo ∈ wsL_law := wsL_law_r40_big _ (List.mem_of_getElem? (i := 19) rfl)
theorem bw71 : Cond.methodLink RX11 241 yX11_isSoAll ∈ wsL_law := wsL_law_r40_big _ (List.mem_of_getElem? (i := 15) rfl)
theorem bw72 : Cond.methodLink RX11 244 yX11_allKnown ∈ wsL_law := wsL_law_r44_big _ (List.mem_of_getElem? (i := 7) rfl)
theorem bw73 : Cond.methodLink RX11 255 yX11_knowers ∈ wsL_law := wsL_law_r44_big _ (List.mem_of_getElem? (i := 11) rfl)
theorem bw74 : Cond.constantLong RX11 253 (2) ∈ wsL_law := wsL_law_r44_big _ (List.mem_of_getElem? (i := 6) rfl)
theorem bw75 : Cond.constantLong RX11 251 (65521) ∈ wsL_law := wsL_law_r44_big _ (List.mem_of_getElem? (i := 5) rfl)
theorem bw76 : Cond.constantLong RX11 249 (6151) ∈ wsL_law := wsL_law_r44_big _ (List.mem_of_getElem? (i := 4) rfl)
theorem bw77 : Cond.constantLong RX11 247 (7919) ∈ wsL_law := wsL_law_r44_big _ (List.mem_of_getElem? (i := 3) rfl)
theorem bw78 : Cond.fieldLink RX11 25 "NewsDraughtsModel" "kept" "[I" ∈ wsL_law := wsL_law_r14_big _ (List.mem_of_getElem? (i := 6) rfl)
theorem bw79 : Cond.fieldLink RX7 15 "NewsDraughts$Sheet" "length" "I" ∈ wsL_law := wsL_law_r3_big _ (List.mem_of_getElem? (i := 11) rfl)
theorem bw80 : Cond.fieldLink RX7 9 "NewsDraughts$Sheet" "letters" "[I" ∈ wsL_law := wsL_law_r3_big _ (List.mem_of_getElem? (i := 10) rfl)
theorem bw81 : Cond.methodLink RX10 122 yX7_length ∈ wsL_law := wsL_law_r16_big _ (List.mem_of_getElem? (i := 3) rfl)
theorem bw82 : Cond.fieldLink RX10 10 "NewsDraughts" "sheet" "LNewsDraughts$Sheet;" ∈ wsL_law := wsL_law_r1_big _ (List.mem_of_getElem? (i := 15) rfl)
theorem bw83 : Cond.methodLink RX10 107 yX7_add ∈ wsL_law := wsL_law_r9_big _ (List.mem_of_getElem? (i := 9) rfl)
theorem bw84 : Cond.methodLink RX10 118 yX10_within ∈ wsL_law := wsL_law_r12_big _ (List.mem_of_getElem? (i := 4) rfl)
theorem bw85 : Cond.methodLink RX10 115 yX7_clear ∈ wsL_law := wsL_law_r13_big _ (List.mem_of_getElem? (i := 17) rfl)
theorem bw86 : Cond.fieldLink RX4 40 "NewsDraughts$Parish" "lastColumn" "I" ∈ wsL_law := wsL_law_r4_big _ (List.mem_of_getElem? (i := 7) rfl)
theorem bw87 : Cond.fieldLink RX4 34 "NewsDraughts$Parish" "columns" "I" ∈ wsL_law := wsL_law_r4_big _ (List.mem_of_getElem? (i := 5) rfl)
theorem bw88 : Cond.fieldLink RX4 37 "NewsDraughts$Parish" "firstColumn" "I" ∈ wsL_law := wsL_law_r4_big _ (List.mem_of_getElem? (i := 6) rfl)
theorem bw89 : Cond.fieldLink RX4 30 "NewsDraughts$Parish" "rows" "I" ∈ wsL_law := wsL_law_r4_big _ (List.mem_of_getElem? (i := 4) rfl)
theorem bw90 : Cond.methodLink RX4 57 yX4_takeGrid ∈ wsL_law := wsL_law_r10_big _ (List.mem_of_getElem? (i := 5) rfl)
theorem bw91 : Cond.fieldLink RX4 49 "NewsDraughts$Parish" "gridsAlone" "Z" ∈ wsL_law := wsL_law_r4_big _ (List.mem_of_getElem? (i := 10) rfl)
theorem bw92 : Cond.fieldLink RX4 46 "NewsDraughts$Parish" "windsTold" "I" ∈ wsL_law := wsL_law_r4_big _ (List.mem_of_getElem? (i := 9) rfl)
theorem bw93 : Cond.fieldLink RX4 43 "NewsDraughts$Parish" "newsTold" "I" ∈ wsL_law := wsL_law_r4_big _ (List.mem_of_getElem? (i := 8) rfl)
theorem bw94 : Cond.fieldLink RX4 27 "NewsDraughts$Parish" "winds" "[I" ∈ wsL_law := wsL_law_r4_big _ (List.mem_of_getElem? (i := 3) rfl)
theorem bw95 : Cond.fieldLink RX4 15 "NewsDraughts$Parish" "sashes" "[I" ∈ wsL_law := wsL_law_r3_big _ (List.mem_of_getElem? (i := 23) rfl)
theorem bw96 : Cond.fieldLink RX4 9 "NewsDraughts$Parish" "kinds" "[I" ∈ wsL_law := wsL_law_r3_big _ (List.mem_of_getElem? (i := 22) rfl)
theorem bw97 : Cond.fieldLink RX6 15 "NewsDraughts$Reader" "place" "I" ∈ wsL_law := wsL_law_r3_big _ (List.mem_of_getElem? (i := 17) rfl)
theorem bw98 : Cond.methodLink RX6 52 yX6_isFigure ∈ wsL_law := wsL_law_r11_big _ (List.mem_of_getElem? (i := 7) rfl)
theorem bw99 : Cond.methodLink RX6 37 yX7_letterAt ∈ wsL_law := wsL_law_r11_big _ (List.mem_of_getElem? (i := 1) rfl)
theorem bw100 : Cond.fieldLink RX6 19 "NewsDraughts$Reader" "sheet" "LNewsDraughts$Sheet;" ∈ wsL_law := wsL_law_r3_big _ (List.mem_of_getElem? (i := 18) rfl)
theorem bw101 : Cond.fieldLink RX6 9 "NewsDraughts$Reader" "numbers" "[I" ∈ wsL_law := wsL_law_r3_big _ (List.mem_of_getElem? (i := 16) rfl)
theorem bw102 : Cond.methodLink RX6 45 yX6_readNumber ∈ wsL_law := wsL_law_r10_big _ (List.mem_of_getElem? (i := 21) rfl)
theorem bw103 : Cond.methodLink RX4 93 yX4_houses ∈ wsL_law := wsL_law_r11_big _ (List.mem_of_getElem? (i := 22) rfl)
theorem bw104 : Cond.methodLink RX4 83 yX4_hasHouse ∈ wsL_law := wsL_law_r11_big _ (List.mem_of_getElem? (i := 18) rfl)
theorem bw105 : Cond.methodLink RX4 65 yX4_takeHouse ∈ wsL_law := wsL_law_r11_big _ (List.mem_of_getElem? (i := 14) rfl)
theorem bw106 : Cond.fieldLink RX4 24 "NewsDraughts$Parish" "beginnings" "[I" ∈ wsL_law := wsL_law_r4_big _ (List.mem_of_getElem? (i := 2) rfl)
theorem bw107 : Cond.fieldLink RX4 21 "NewsDraughts$Parish" "weights" "[I" ∈ wsL_law := wsL_law_r4_big _ (List.mem_of_getElem? (i := 1) rfl)
theorem bw108 : Cond.fieldLink RX4 18 "NewsDraughts$Parish" "newsKinds" "[I" ∈ wsL_law := wsL_law_r4_big _ (List.mem_of_getElem? (i := 0) rfl)
theorem bw109 : Cond.methodLink RX4 69 yX4_takeNews ∈ wsL_law := wsL_law_r12_big _ (List.mem_of_getElem? (i := 5) rfl)
theorem bw110 : Cond.methodLink RX4 72 yX4_takeWind ∈ wsL_law := wsL_law_r12_big _ (List.mem_of_getElem? (i := 9) rfl)
theorem bw111 : Cond.methodLink RX6 41 yX4_take ∈ wsL_law := wsL_law_r11_big _ (List.mem_of_getElem? (i := 10) rfl)
theorem bw112 : Cond.methodLink RX6 34 yX6_readNumbers ∈ wsL_law := wsL_law_r10_big _ (List.mem_of_getElem? (i := 17) rfl)
theorem bw113 : Cond.methodLink RX6 28 yX7_length ∈ wsL_law := wsL_law_r10_big _ (List.mem_of_getElem? (i := 13) rfl)
theorem bw114 : Cond.methodLink RX6 23 yX4_clear ∈ wsL_law := wsL_law_r9_big _ (List.mem_of_getElem? (i := 23) rfl)
theorem bw115 : Cond.methodLink RX10 123 yX6_readInto ∈ wsL_law := wsL_law_r9_big _ (List.mem_of_getElem? (i := 19) rfl)
theorem bw116 : Cond.fieldLink RX10 28 "NewsDraughts" "draft" "LNewsDraughts$Parish;" ∈ wsL_law := wsL_law_r1_big _ (List.mem_of_getElem? (i := 23) rfl)
theorem bw117 : Cond.fieldLink RX10 21 "NewsDraughts" "reader" "LNewsDraughts$Reader;" ∈ wsL_law := wsL_law_r1_big _ (List.mem_of_getElem? (i := 19) rfl)
theorem bw118 : Cond.fieldLink RX9 18 "NewsDraughts$Standing" "stepsGone" "I" ∈ wsL_law := wsL_law_r4_big _ (List.mem_of_getElem? (i := 16) rfl)
theorem bw119 : Cond.methodLink RX9 36 yX4_beginningOf ∈ wsL_law := wsL_law_r13_big _ (List.mem_of_getElem? (i := 5) rfl)
theorem bw120 : Cond.methodLink RX9 32 yX4_hasNews ∈ wsL_law := wsL_law_r13_big _ (List.mem_of_getElem? (i := 1) rfl)
theorem bw121 : Cond.fieldLink RX9 15 "NewsDraughts$Standing" "whoKnows" "[I" ∈ wsL_law := wsL_law_r4_big _ (List.mem_of_getElem? (i := 15) rfl)
theorem bw122 : Cond.methodLink RX9 22 yX4_sashOf ∈ wsL_law := wsL_law_r12_big _ (List.mem_of_getElem? (i := 21) rfl)
theorem bw123 : Cond.fieldLink RX9 9 "NewsDraughts$Standing" "sashes" "[I" ∈ wsL_law := wsL_law_r4_big _ (List.mem_of_getElem? (i := 14) rfl)
theorem bw124 : Cond.fieldLink RX5 13 "NewsDraughts$Pile" "size" "I" ∈ wsL_law := wsL_law_r4_big _ (List.mem_of_getElem? (i := 22) rfl)
theorem bw125 : Cond.fieldLink RX8 24 "NewsDraughts$Sightings" "size" "I" ∈ wsL_law := wsL_law_r7_big _ (List.mem_of_getElem? (i := 5) rfl)
theorem bw126 : Cond.methodLink RX10 258 yX8_clear ∈ wsL_law := wsL_law_r13_big _ (List.mem_of_getElem? (i := 13) rfl)
theorem bw127 : Cond.fieldLink RX10 91 "NewsDraughts" "sightings" "LNewsDraughts$Sightings;" ∈ wsL_law := wsL_law_r3_big _ (List.mem_of_getElem? (i := 5) rfl)
theorem bw128 : Cond.methodLink RX10 283 yX5_clear ∈ wsL_law := wsL_law_r13_big _ (List.mem_of_getElem? (i := 9) rfl)
theorem bw129 : Cond.fieldLink RX10 51 "NewsDraughts" "kept" "LNewsDraughts$Pile;" ∈ wsL_law := wsL_law_r2_big _ (List.mem_of_getElem? (i := 9) rfl)
theorem bw130 : Cond.fieldLink RX10 47 "NewsDraughts" "undone" "LNewsDraughts$Pile;" ∈ wsL_law := wsL_law_r2_big _ (List.mem_of_getElem? (i := 8) rfl)
theorem bw131 : Cond.methodLink RX10 293 yX9_begin ∈ wsL_law := wsL_law_r12_big _ (List.mem_of_getElem? (i := 17) rfl)
theorem bw132 : Cond.fieldLink RX10 32 "NewsDraughts" "parish" "LNewsDraughts$Parish;" ∈ wsL_law := wsL_law_r2_big _ (List.mem_of_getElem? (i := 0) rfl)
theorem bw133 : Cond.fieldLink RX10 38 "NewsDraughts" "now" "LNewsDraughts$Standing;" ∈ wsL_law := wsL_law_r2_big _ (List.mem_of_getElem? (i := 4) rfl)
theorem bw134 : Cond.methodLink RX10 173 yX4_newsTold ∈ wsL_law := wsL_law_r12_big _ (List.mem_of_getElem? (i := 13) rfl)
theorem bw135 : Cond.methodLink RX10 127 yX4_houses ∈ wsL_law := wsL_law_r19_big _ (List.mem_of_getElem? (i := 0) rfl)
theorem bw136 : Cond.methodLink RX10 111 yX10_layText ∈ wsL_law := wsL_law_r9_big _ (List.mem_of_getElem? (i := 15) rfl)
theorem bw137 : Cond.methodLink RX10 133 yX4_kindOf ∈ wsL_law := wsL_law_r19_big _ (List.mem_of_getElem? (i := 11) rfl)
theorem bw138 : Cond.methodLink RX10 137 yX9_sashOf ∈ wsL_law := wsL_law_r19_big _ (List.mem_of_getElem? (i := 15) rfl)
theorem bw139 : Cond.methodLink RX10 202 yX10_bit ∈ wsL_law := wsL_law_r20_big _ (List.mem_of_getElem? (i := 5) rfl)
theorem bw140 : Cond.methodLink RX9 50 yX9_whoKnows ∈ wsL_law := wsL_law_r19_big _ (List.mem_of_getElem? (i := 23) rfl)
theorem bw141 : Cond.methodLink RX10 140 yX9_knownIn ∈ wsL_law := wsL_law_r19_big _ (List.mem_of_getElem? (i := 19) rfl)
theorem bw142 : Cond.methodLink RX10 130 yX4_hasHouse ∈ wsL_law := wsL_law_r19_big _ (List.mem_of_getElem? (i := 10) rfl)
theorem bw143 : Cond.methodLink RX10 146 yX4_newsKindOf ∈ wsL_law := wsL_law_r21_big _ (List.mem_of_getElem? (i := 7) rfl)
theorem bw144 : Cond.methodLink RX10 149 yX4_weightOf ∈ wsL_law := wsL_law_r21_big _ (List.mem_of_getElem? (i := 11) rfl)
theorem bw145 : Cond.methodLink RX10 152 yX4_beginningOf ∈ wsL_law := wsL_law_r21_big _ (List.mem_of_getElem? (i := 15) rfl)
theorem bw146 : Cond.constant RJ6 267 (252645135) ∈ wsL_law := wsL_law_r21_big _ (List.mem_of_getElem? (i := 23) rfl)
theorem bw147 : Cond.constant RJ6 266 (858993459) ∈ wsL_law := wsL_law_r21_big _ (List.mem_of_getElem? (i := 22) rfl)
theorem bw148 : Cond.constant RJ6 265 (1431655765) ∈ wsL_law := wsL_law_r21_big _ (List.mem_of_getElem? (i := 21) rfl)
theorem bw149 : Cond.methodLink RX10 158 yJ6_bitCount_0f7a4 ∈ wsL_law := wsL_law_r21_big _ (List.mem_of_getElem? (i := 17) rfl)
theorem bw150 : Cond.methodLink RX10 155 yX9_whoKnows ∈ wsL_law := wsL_law_r21_big _ (List.mem_of_getElem? (i := 16) rfl)
theorem bw151 : Cond.methodLink RX10 143 yX4_hasNews ∈ wsL_law := wsL_law_r21_big _ (List.mem_of_getElem? (i := 6) rfl)
theorem bw152 : Cond.methodLink RX4 103 yJ9_floorMod_7cf53 ∈ wsL_law := wsL_law_r23_big _ (List.mem_of_getElem? (i := 3) rfl)
theorem bw153 : Cond.methodLink RX4 100 yX4_windsInTurn ∈ wsL_law := wsL_law_r22_big _ (List.mem_of_getElem? (i := 23) rfl)
theorem bw154 : Cond.methodLink RX10 166 yX4_windOf ∈ wsL_law := wsL_law_r22_big _ (List.mem_of_getElem? (i := 19) rfl)
theorem bw155 : Cond.methodLink RX10 163 yX9_stepsGone ∈ wsL_law := wsL_law_r22_big _ (List.mem_of_getElem? (i := 15) rfl)
theorem bw156 : Cond.fieldLink RX5 18 "NewsDraughts$Pile" "places" "[LNewsDraughts$Standing;" ∈ wsL_law := wsL_law_r5_big _ (List.mem_of_getElem? (i := 0) rfl)
theorem bw157 : Cond.methodLink RX5 35 yJ9_floorMod_7cf53 ∈ wsL_law := wsL_law_r24_big _ (List.mem_of_getElem? (i := 3) rfl)
theorem bw158 : Cond.fieldLink RX5 7 "NewsDraughts$Pile" "lowest" "I" ∈ wsL_law := wsL_law_r4_big _ (List.mem_of_getElem? (i := 21) rfl)
theorem bw159 : Cond.methodLink RX10 297 yX10_at ∈ wsL_law := wsL_law_r24_big _ (List.mem_of_getElem? (i := 10) rfl)
theorem bw160 : Cond.methodLink RX5 31 yX5_isFull ∈ wsL_law := wsL_law_r24_big _ (List.mem_of_getElem? (i := 11) rfl)
theorem bw161 : Cond.methodLink RX5 27 yX9_copyOf ∈ wsL_law := wsL_law_r24_big _ (List.mem_of_getElem? (i := 4) rfl)
theorem bw162 : Cond.methodLink RX5 23 yX5_placeOf ∈ wsL_law := wsL_law_r23_big _ (List.mem_of_getElem? (i := 23) rfl)
theorem bw163 : Cond.methodLink RX10 189 yX9_goOn ∈ wsL_law := wsL_law_r26_big _ (List.mem_of_getElem? (i := 20) rfl)
theorem bw164 : Cond.fieldLink RX1 15 "NewsDraughts$Draught" "needed" "[I" ∈ wsL_law := wsL_law_r5_big _ (List.mem_of_getElem? (i := 6) rfl)
theorem bw165 : Cond.fieldLink RX1 28 "NewsDraughts$Draught" "openToGossips" "I" ∈ wsL_law := wsL_law_r5_big _ (List.mem_of_getElem? (i := 10) rfl)
theorem bw166 : Cond.methodLink RX1 95 yX1_letsInFromGossips ∈ wsL_law := wsL_law_r25_big _ (List.mem_of_getElem? (i := 21) rfl)
theorem bw167 : Cond.fieldLink RX1 31 "NewsDraughts$Draught" "openToTalkers" "I" ∈ wsL_law := wsL_law_r5_big _ (List.mem_of_getElem? (i := 11) rfl)
theorem bw168 : Cond.methodLink RX1 91 yX1_letsInFromTalkers ∈ wsL_law := wsL_law_r25_big _ (List.mem_of_getElem? (i := 17) rfl)
theorem bw169 : Cond.fieldLink RX1 9 "NewsDraughts$Draught" "sashes" "[I" ∈ wsL_law := wsL_law_r5_big _ (List.mem_of_getElem? (i := 5) rfl)
theorem bw170 : Cond.methodLink RX1 87 yX1_reopen ∈ wsL_law := wsL_law_r25_big _ (List.mem_of_getElem? (i := 13) rfl)
theorem bw171 : Cond.methodLink RX1 84 yX9_sashOf ∈ wsL_law := wsL_law_r25_big _ (List.mem_of_getElem? (i := 12) rfl)
theorem bw172 : Cond.fieldLink RX1 47 "NewsDraughts$Draught" "now" "LNewsDraughts$Standing;" ∈ wsL_law := wsL_law_r5_big _ (List.mem_of_getElem? (i := 16) rfl)
theorem bw173 : Cond.methodLink RX1 77 yX4_weightOf ∈ wsL_law := wsL_law_r25_big _ (List.mem_of_getElem? (i := 11) rfl)
theorem bw174 : Cond.fieldLink RX1 43 "NewsDraughts$Draught" "parish" "LNewsDraughts$Parish;" ∈ wsL_law := wsL_law_r5_big _ (List.mem_of_getElem? (i := 15) rfl)
theorem bw175 : Cond.fieldLink RX1 25 "NewsDraughts$Draught" "talkers" "I" ∈ wsL_law := wsL_law_r5_big _ (List.mem_of_getElem? (i := 9) rfl)
theorem bw176 : Cond.fieldLink RX1 22 "NewsDraughts$Draught" "gossips" "I" ∈ wsL_law := wsL_law_r5_big _ (List.mem_of_getElem? (i := 8) rfl)
theorem bw177 : Cond.methodLink RX1 71 yX4_kindOf ∈ wsL_law := wsL_law_r25_big _ (List.mem_of_getElem? (i := 10) rfl)
theorem bw178 : Cond.methodLink RX1 68 yX4_houses ∈ wsL_law := wsL_law_r25_big _ (List.mem_of_getElem? (i := 9) rfl)
theorem bw179 : Cond.fieldLink RX1 40 "NewsDraughts$Draught" "lastColumn" "I" ∈ wsL_law := wsL_law_r5_big _ (List.mem_of_getElem? (i := 14) rfl)
theorem bw180 : Cond.methodLink RX1 66 yX4_lastColumn ∈ wsL_law := wsL_law_r25_big _ (List.mem_of_getElem? (i := 5) rfl)
theorem bw181 : Cond.fieldLink RX1 37 "NewsDraughts$Draught" "firstColumn" "I" ∈ wsL_law := wsL_law_r5_big _ (List.mem_of_getElem? (i := 13) rfl)
theorem bw182 : Cond.methodLink RX1 64 yX4_firstColumn ∈ wsL_law := wsL_law_r25_big _ (List.mem_of_getElem? (i := 1) rfl)
theorem bw183 : Cond.fieldLink RX1 34 "NewsDraughts$Draught" "columns" "I" ∈ wsL_law := wsL_law_r5_big _ (List.mem_of_getElem? (i := 12) rfl)
theorem bw184 : Cond.methodLink RX1 61 yX4_columns ∈ wsL_law := wsL_law_r24_big _ (List.mem_of_getElem? (i := 21) rfl)
theorem bw185 : Cond.fieldLink RX1 18 "NewsDraughts$Draught" "whoKnows" "I" ∈ wsL_law := wsL_law_r5_big _ (List.mem_of_getElem? (i := 7) rfl)
theorem bw186 : Cond.methodLink RX1 57 yX9_whoKnows ∈ wsL_law := wsL_law_r24_big _ (List.mem_of_getElem? (i := 20) rfl)
theorem bw187 : Cond.methodLink RX1 51 yX4_newsKindOf ∈ wsL_law := wsL_law_r24_big _ (List.mem_of_getElem? (i := 19) rfl)
theorem bw188 : Cond.methodLink RX1 118 yX1_onward ∈ wsL_law := wsL_law_r26_big _ (List.mem_of_getElem? (i := 12) rfl)
theorem bw189 : Cond.methodLink RX1 115 yX4_windOf ∈ wsL_law := wsL_law_r26_big _ (List.mem_of_getElem? (i := 11) rfl)
theorem bw190 : Cond.methodLink RX1 112 yX9_stepsGone ∈ wsL_law := wsL_law_r26_big _ (List.mem_of_getElem? (i := 10) rfl)
theorem bw191 : Cond.methodLink RX1 109 yX4_windsInTurn ∈ wsL_law := wsL_law_r26_big _ (List.mem_of_getElem? (i := 9) rfl)
theorem bw192 : Cond.methodLink RX10 185 yX9_setWhoKnows ∈ wsL_law := wsL_law_r26_big _ (List.mem_of_getElem? (i := 16) rfl)
theorem bw193 : Cond.methodLink RX10 181 yX1_along ∈ wsL_law := wsL_law_r26_big _ (List.mem_of_getElem? (i := 5) rfl)
theorem bw194 : Cond.methodLink RX10 179 yX1_whoKnows ∈ wsL_law := wsL_law_r26_big _ (List.mem_of_getElem? (i := 1) rfl)
theorem bw195 : Cond.fieldLink RX10 59 "NewsDraughts" "draught" "LNewsDraughts$Draught;" ∈ wsL_law := wsL_law_r2_big _ (List.mem_of_getElem? (i := 13) rfl)
theorem bw196 : Cond.methodLink RX10 176 yX1_pick ∈ wsL_law := wsL_law_r24_big _ (List.mem_of_getElem? (i := 15) rfl)
theorem bw197 : Cond.methodLink RX10 169 yX5_push ∈ wsL_law := wsL_law_r23_big _ (List.mem_of_getElem? (i := 19) rfl)
theorem bw198 : Cond.methodLink RX10 195 yX9_setSash ∈ wsL_law := wsL_law_r28_big _ (List.mem_of_getElem? (i := 13) rfl)
theorem bw199 : Cond.methodLink RX10 192 yX10_isWidth ∈ wsL_law := wsL_law_r28_big _ (List.mem_of_getElem? (i := 12) rfl)
theorem bw200 : Cond.methodLink RX10 198 yX10_holds ∈ wsL_law := wsL_law_r29_big _ (List.mem_of_getElem? (i := 1) rfl)
theorem bw201 : Cond.methodLink RX10 209 yX5_size ∈ wsL_law := wsL_law_r29_big _ (List.mem_of_getElem? (i := 14) rfl)
theorem bw202 : Cond.methodLink RX10 205 yX5_popInto ∈ wsL_law := wsL_law_r29_big _ (List.mem_of_getElem? (i := 10) rfl)
theorem bw203 : Cond.methodLink RX1 105 yX1_along ∈ wsL_law := wsL_law_r30_big _ (List.mem_of_getElem? (i := 12) rfl)
theorem bw204 : Cond.methodLink RX3 35 yX1_hears ∈ wsL_law := wsL_law_r30_big _ (List.mem_of_getElem? (i := 8) rfl)
theorem bw205 : Cond.fieldLink RX3 19 "NewsDraughts$Outlook" "draught" "LNewsDraughts$Draught;" ∈ wsL_law := wsL_law_r5_big _ (List.mem_of_getElem? (i := 23) rfl)
theorem bw206 : Cond.methodLink RX3 29 yX1_pick ∈ wsL_law := wsL_law_r30_big _ (List.mem_of_getElem? (i := 7) rfl)
theorem bw207 : Cond.methodLink RX3 23 yX4_newsTold ∈ wsL_law := wsL_law_r30_big _ (List.mem_of_getElem? (i := 6) rfl)
theorem bw208 : Cond.fieldLink RX3 9 "NewsDraughts$Outlook" "parish" "LNewsDraughts$Parish;" ∈ wsL_law := wsL_law_r5_big _ (List.mem_of_getElem? (i := 21) rfl)
theorem bw209 : Cond.methodLink RX10 212 yX3_knownBehind ∈ wsL_law := wsL_law_r30_big _ (List.mem_of_getElem? (i := 2) rfl)
theorem bw210 : Cond.fieldLink RX10 68 "NewsDraughts" "outlook" "LNewsDraughts$Outlook;" ∈ wsL_law := wsL_law_r2_big _ (List.mem_of_getElem? (i := 17) rfl)
theorem bw211 : Cond.methodLink RX3 49 yX1_along ∈ wsL_law := wsL_law_r31_big _ (List.mem_of_getElem? (i := 2) rfl)
theorem bw212 : Cond.methodLink RX3 43 yX1_whoKnows ∈ wsL_law := wsL_law_r31_big _ (List.mem_of_getElem? (i := 1) rfl)
theorem bw213 : Cond.methodLink RX10 216 yX3_firstHeard ∈ wsL_law := wsL_law_r30_big _ (List.mem_of_getElem? (i := 21) rfl)
theorem bw214 : Cond.methodLink RX3 56 yX3_firstHeard ∈ wsL_law := wsL_law_r32_big _ (List.mem_of_getElem? (i := 0) rfl)
theorem bw215 : Cond.methodLink RX3 53 yX4_houses ∈ wsL_law := wsL_law_r31_big _ (List.mem_of_getElem? (i := 23) rfl)
theorem bw216 : Cond.methodLink RX10 219 yX3_latestHouse ∈ wsL_law := wsL_law_r31_big _ (List.mem_of_getElem? (i := 19) rfl)
theorem bw217 : Cond.methodLink RX3 67 yJ6_bitCount_0f7a4 ∈ wsL_law := wsL_law_r32_big _ (List.mem_of_getElem? (i := 18) rfl)
theorem bw218 : Cond.methodLink RX3 72 yX1_stuff ∈ wsL_law := wsL_law_r32_big _ (List.mem_of_getElem? (i := 19) rfl)
theorem bw219 : Cond.methodLink RX3 64 yX4_allHouses ∈ wsL_law := wsL_law_r32_big _ (List.mem_of_getElem? (i := 14) rfl)
theorem bw220 : Cond.methodLink RX3 60 yX9_whoKnows ∈ wsL_law := wsL_law_r32_big _ (List.mem_of_getElem? (i := 13) rfl)
theorem bw221 : Cond.fieldLink RX3 15 "NewsDraughts$Outlook" "now" "LNewsDraughts$Standing;" ∈ wsL_law := wsL_law_r5_big _ (List.mem_of_getElem? (i := 22) rfl)
theorem bw222 : Cond.methodLink RX10 222 yX3_fewestStuffed ∈ wsL_law := wsL_law_r32_big _ (List.mem_of_getElem? (i := 9) rfl)
theorem bw223 : Cond.methodLink RX4 97 yX4_allHouses ∈ wsL_law := wsL_law_r33_big _ (List.mem_of_getElem? (i := 15) rfl)
theorem bw224 : Cond.fieldLink RX2 21 "NewsDraughts$Openings" "opened" "I" ∈ wsL_law := wsL_law_r6_big _ (List.mem_of_getElem? (i := 7) rfl)
theorem bw225 : Cond.fieldLink RX2 27 "NewsDraughts$Openings" "second" "I" ∈ wsL_law := wsL_law_r6_big _ (List.mem_of_getElem? (i := 9) rfl)
theorem bw226 : Cond.fieldLink RX2 24 "NewsDraughts$Openings" "first" "I" ∈ wsL_law := wsL_law_r6_big _ (List.mem_of_getElem? (i := 8) rfl)
theorem bw227 : Cond.methodLink RX10 241 yX2_answer ∈ wsL_law := wsL_law_r35_big _ (List.mem_of_getElem? (i := 10) rfl)
theorem bw228 : Cond.fieldLink RX10 75 "NewsDraughts" "ways" "LNewsDraughts$Openings;" ∈ wsL_law := wsL_law_r2_big _ (List.mem_of_getElem? (i := 21) rfl)
theorem bw229 : Cond.methodLink RX2 46 yX1_pick ∈ wsL_law := wsL_law_r34_big _ (List.mem_of_getElem? (i := 0) rfl)
theorem bw230 : Cond.fieldLink RX2 38 "NewsDraughts$Openings" "draught" "LNewsDraughts$Draught;" ∈ wsL_law := wsL_law_r6_big _ (List.mem_of_getElem? (i := 12) rfl)
theorem bw231 : Cond.methodLink RX2 42 yX2_found ∈ wsL_law := wsL_law_r33_big _ (List.mem_of_getElem? (i := 20) rfl)
theorem bw232 : Cond.fieldLink RX2 18 "NewsDraughts$Openings" "shallNot" "I" ∈ wsL_law := wsL_law_r6_big _ (List.mem_of_getElem? (i := 6) rfl)
theorem bw233 : Cond.fieldLink RX2 15 "NewsDraughts$Openings" "shallKnow" "I" ∈ wsL_law := wsL_law_r6_big _ (List.mem_of_getElem? (i := 5) rfl)
theorem bw234 : Cond.fieldLink RX2 9 "NewsDraughts$Openings" "steps" "I" ∈ wsL_law := wsL_law_r6_big _ (List.mem_of_getElem? (i := 4) rfl)
theorem bw235 : Cond.methodLink RX2 60 yX2_isSo ∈ wsL_law := wsL_law_r34_big _ (List.mem_of_getElem? (i := 7) rfl)
theorem bw236 : Cond.methodLink RX2 56 yX1_along ∈ wsL_law := wsL_law_r34_big _ (List.mem_of_getElem? (i := 6) rfl)
theorem bw237 : Cond.methodLink RX2 52 yX1_whoKnows ∈ wsL_law := wsL_law_r34_big _ (List.mem_of_getElem? (i := 5) rfl)
theorem bw238 : Cond.methodLink RX2 77 yX1_reopen ∈ wsL_law := wsL_law_r35_big _ (List.mem_of_getElem? (i := 0) rfl)
theorem bw239 : Cond.methodLink RX2 84 yX9_sashOf ∈ wsL_law := wsL_law_r35_big _ (List.mem_of_getElem? (i := 1) rfl)
theorem bw240 : Cond.fieldLink RX2 34 "NewsDraughts$Openings" "now" "LNewsDraughts$Standing;" ∈ wsL_law := wsL_law_r6_big _ (List.mem_of_getElem? (i := 11) rfl)
theorem bw241 : Cond.methodLink RX2 73 yX1_isAnother ∈ wsL_law := wsL_law_r34_big _ (List.mem_of_getElem? (i := 20) rfl)
theorem bw242 : Cond.methodLink RX2 69 yX2_fittingWidth ∈ wsL_law := wsL_law_r34_big _ (List.mem_of_getElem? (i := 16) rfl)
theorem bw243 : Cond.methodLink RX2 64 yX4_houses ∈ wsL_law := wsL_law_r34_big _ (List.mem_of_getElem? (i := 15) rfl)
theorem bw244 : Cond.fieldLink RX2 30 "NewsDraughts$Openings" "parish" "LNewsDraughts$Parish;" ∈ wsL_law := wsL_law_r6_big _ (List.mem_of_getElem? (i := 10) rfl)
theorem bw245 : Cond.methodLink RX2 81 yX2_isFoundWith ∈ wsL_law := wsL_law_r35_big _ (List.mem_of_getElem? (i := 6) rfl)
theorem bw246 : Cond.methodLink RX10 238 yX2_findByTwo ∈ wsL_law := wsL_law_r35_big _ (List.mem_of_getElem? (i := 2) rfl)
theorem bw247 : Cond.methodLink RX10 235 yX2_isFoundByOne ∈ wsL_law := wsL_law_r34_big _ (List.mem_of_getElem? (i := 11) rfl)
theorem bw248 : Cond.methodLink RX10 232 yX2_isFoundByNone ∈ wsL_law := wsL_law_r34_big _ (List.mem_of_getElem? (i := 1) rfl)
theorem bw249 : Cond.methodLink RX10 228 yX2_pose ∈ wsL_law := wsL_law_r33_big _ (List.mem_of_getElem? (i := 16) rfl)
theorem bw250 : Cond.methodLink RX10 225 yX4_hasHouses ∈ wsL_law := wsL_law_r33_big _ (List.mem_of_getElem? (i := 11) rfl)
theorem bw251 : Cond.methodLink RX3 82 yX4_weightOf ∈ wsL_law := wsL_law_r36_big _ (List.mem_of_getElem? (i := 17) rfl)
theorem bw252 : Cond.methodLink RX3 78 yX1_reopen ∈ wsL_law := wsL_law_r36_big _ (List.mem_of_getElem? (i := 16) rfl)
theorem bw253 : Cond.methodLink RX3 75 yX3_burden ∈ wsL_law := wsL_law_r36_big _ (List.mem_of_getElem? (i := 12) rfl)
theorem bw254 : Cond.methodLink RX10 244 yX3_widestBorne ∈ wsL_law := wsL_law_r36_big _ (List.mem_of_getElem? (i := 8) rfl)
theorem bw255 : Cond.methodLink RX3 102 Lib.Math.max.name ∈ wsL_law := wsL_law_r37_big _ (List.mem_of_getElem? (i := 18) rfl)
theorem bw256 : Cond.static Lib.Math.max.name ∈ wsL_law := wsL_law_r37_big _ (List.mem_of_getElem? (i := 19) rfl)
theorem bw257 : Cond.initialized "java/lang/Math" ∈ wsL_law := wsL_law_r37_big _ (List.mem_of_getElem? (i := 16) rfl)
theorem bw258 : Cond.code Lib.Math.max.name Lib.Math.max.code 2 (some .int) ∈ wsL_law := wsL_law_r37_big _ (List.mem_of_getElem? (i := 20) rfl)
theorem bw259 : Cond.methodLink RX3 101 yX1_sashOf ∈ wsL_law := wsL_law_r37_big _ (List.mem_of_getElem? (i := 23) rfl)
theorem bw260 : Cond.methodLink RX3 96 Lib.Math.min.name ∈ wsL_law := wsL_law_r37_big _ (List.mem_of_getElem? (i := 14) rfl)
theorem bw261 : Cond.static Lib.Math.min.name ∈ wsL_law := wsL_law_r37_big _ (List.mem_of_getElem? (i := 15) rfl)
theorem bw262 : Cond.code Lib.Math.min.name Lib.Math.min.code 2 (some .int) ∈ wsL_law := wsL_law_r37_big _ (List.mem_of_getElem? (i := 17) rfl)
theorem bw263 : Cond.methodLink RX3 93 yX9_sashOf ∈ wsL_law := wsL_law_r37_big _ (List.mem_of_getElem? (i := 22) rfl)
theorem bw264 : Cond.methodLink RX3 89 yX4_hasHouse ∈ wsL_law := wsL_law_r37_big _ (List.mem_of_getElem? (i := 21) rfl)
theorem bw265 : Cond.methodLink RX3 85 yX3_hearsInSpite ∈ wsL_law := wsL_law_r37_big _ (List.mem_of_getElem? (i := 10) rfl)
theorem bw266 : Cond.methodLink RX10 250 yX3_hearsInSpite ∈ wsL_law := wsL_law_r38_big _ (List.mem_of_getElem? (i := 3) rfl)
theorem bw267 : Cond.methodLink RX10 247 yX3_bestToOpen ∈ wsL_law := wsL_law_r37_big _ (List.mem_of_getElem? (i := 6) rfl)
theorem bw268 : Cond.fieldLink RX8 21 "NewsDraughts$Sightings" "knows" "[I" ∈ wsL_law := wsL_law_r7_big _ (List.mem_of_getElem? (i := 4) rfl)
theorem bw269 : Cond.fieldLink RX8 18 "NewsDraughts$Sightings" "times" "[I" ∈ wsL_law := wsL_law_r7_big _ (List.mem_of_getElem? (i := 3) rfl)
theorem bw270 : Cond.fieldLink RX8 15 "NewsDraughts$Sightings" "news" "[I" ∈ wsL_law := wsL_law_r7_big _ (List.mem_of_getElem? (i := 2) rfl)
theorem bw271 : Cond.fieldLink RX8 9 "NewsDraughts$Sightings" "houses" "[I" ∈ wsL_law := wsL_law_r7_big _ (List.mem_of_getElem? (i := 1) rfl)
theorem bw272 : Cond.methodLink RX10 257 yX8_size ∈ wsL_law := wsL_law_r39_big _ (List.mem_of_getElem? (i := 0) rfl)
theorem bw273 : Cond.methodLink RX10 254 yX8_add ∈ wsL_law := wsL_law_r38_big _ (List.mem_of_getElem? (i := 20) rfl)
theorem bw274 : Cond.methodLink RX8 67 yX8_isSo ∈ wsL_law := wsL_law_r40_big _ (List.mem_of_getElem? (i := 7) rfl)
theorem bw275 : Cond.methodLink RX8 63 yX1_along ∈ wsL_law := wsL_law_r40_big _ (List.mem_of_getElem? (i := 6) rfl)
theorem bw276 : Cond.fieldLink RX8 32 "NewsDraughts$Sightings" "draught" "LNewsDraughts$Draught;" ∈ wsL_law := wsL_law_r7_big _ (List.mem_of_getElem? (i := 7) rfl)
theorem bw277 : Cond.methodLink RX8 53 yX1_pick ∈ wsL_law := wsL_law_r40_big _ (List.mem_of_getElem? (i := 5) rfl)
theorem bw278 : Cond.methodLink RX8 45 yX8_allSoFrom ∈ wsL_law := wsL_law_r40_big _ (List.mem_of_getElem? (i := 1) rfl)
theorem bw279 : Cond.methodLink RX8 40 yX4_houses ∈ wsL_law := wsL_law_r40_big _ (List.mem_of_getElem? (i := 0) rfl)
theorem bw280 : Cond.fieldLink RX8 28 "NewsDraughts$Sightings" "parish" "LNewsDraughts$Parish;" ∈ wsL_law := wsL_law_r7_big _ (List.mem_of_getElem? (i := 6) rfl)
theorem bw281 : Cond.methodLink RX10 259 yX8_beginnings ∈ wsL_law := wsL_law_r39_big _ (List.mem_of_getElem? (i := 20) rfl)
theorem bw282 : Cond.methodLink RX8 77 yX1_onward ∈ wsL_law := wsL_law_r41_big _ (List.mem_of_getElem? (i := 12) rfl)
theorem bw283 : Cond.methodLink RX8 74 yX1_whoKnows ∈ wsL_law := wsL_law_r41_big _ (List.mem_of_getElem? (i := 11) rfl)
theorem bw284 : Cond.methodLink RX8 70 yX8_allSoBy ∈ wsL_law := wsL_law_r41_big _ (List.mem_of_getElem? (i := 7) rfl)
theorem bw285 : Cond.methodLink RX10 262 yX8_nextWinds ∈ wsL_law := wsL_law_r41_big _ (List.mem_of_getElem? (i := 3) rfl)
theorem bw286 : Cond.methodLink RX0 40 yX1_onward ∈ wsL_law := wsL_law_r42_big _ (List.mem_of_getElem? (i := 6) rfl)
theorem bw287 : Cond.fieldLink RX0 22 "NewsDraughts$Chances" "draught" "LNewsDraughts$Draught;" ∈ wsL_law := wsL_law_r6_big _ (List.mem_of_getElem? (i := 20) rfl)
theorem bw288 : Cond.methodLink RX0 36 yX1_whoKnows ∈ wsL_law := wsL_law_r42_big _ (List.mem_of_getElem? (i := 5) rfl)
theorem bw289 : Cond.methodLink RX0 32 yX0_waysOf ∈ wsL_law := wsL_law_r42_big _ (List.mem_of_getElem? (i := 2) rfl)
theorem bw290 : Cond.methodLink RX0 26 yX1_pick ∈ wsL_law := wsL_law_r42_big _ (List.mem_of_getElem? (i := 1) rfl)
theorem bw291 : Cond.methodLink RX10 268 yX0_inLowestTerms ∈ wsL_law := wsL_law_r42_big _ (List.mem_of_getElem? (i := 7) rfl)
theorem bw292 : Cond.methodLink RX10 265 yX0_gustsThatReach ∈ wsL_law := wsL_law_r41_big _ (List.mem_of_getElem? (i := 21) rfl)
theorem bw293 : Cond.fieldLink RX10 84 "NewsDraughts" "chances" "LNewsDraughts$Chances;" ∈ wsL_law := wsL_law_r3_big _ (List.mem_of_getElem? (i := 1) rfl)
theorem bw294 : Cond.fieldLink RX0 9 "NewsDraughts$Chances" "housesThatKnow" "I" ∈ wsL_law := wsL_law_r6_big _ (List.mem_of_getElem? (i := 17) rfl)
theorem bw295 : Cond.methodLink RX0 63 yJ6_bitCount_0f7a4 ∈ wsL_law := wsL_law_r43_big _ (List.mem_of_getElem? (i := 14) rfl)
theorem bw296 : Cond.fieldLink RX0 15 "NewsDraughts$Chances" "timesHeard" "I" ∈ wsL_law := wsL_law_r6_big _ (List.mem_of_getElem? (i := 18) rfl)
theorem bw297 : Cond.constantLong RX0 81 (2) ∈ wsL_law := wsL_law_r43_big _ (List.mem_of_getElem? (i := 6) rfl)
theorem bw298 : Cond.constantLong RX0 79 (65521) ∈ wsL_law := wsL_law_r43_big _ (List.mem_of_getElem? (i := 5) rfl)
theorem bw299 : Cond.constantLong RX0 77 (6151) ∈ wsL_law := wsL_law_r43_big _ (List.mem_of_getElem? (i := 4) rfl)
theorem bw300 : Cond.constantLong RX0 75 (7919) ∈ wsL_law := wsL_law_r43_big _ (List.mem_of_getElem? (i := 3) rfl)
theorem bw301 : Cond.methodLink RX0 71 yX1_reopen ∈ wsL_law := wsL_law_r43_big _ (List.mem_of_getElem? (i := 12) rfl)
theorem bw302 : Cond.methodLink RX0 68 yX4_houses ∈ wsL_law := wsL_law_r43_big _ (List.mem_of_getElem? (i := 11) rfl)
theorem bw303 : Cond.fieldLink RX0 18 "NewsDraughts$Chances" "parish" "LNewsDraughts$Parish;" ∈ wsL_law := wsL_law_r6_big _ (List.mem_of_getElem? (i := 19) rfl)
theorem bw304 : Cond.methodLink RX0 59 yX1_along ∈ wsL_law := wsL_law_r43_big _ (List.mem_of_getElem? (i := 13) rfl)
theorem bw305 : Cond.methodLink RX0 56 yX0_openByDraw ∈ wsL_law := wsL_law_r43_big _ (List.mem_of_getElem? (i := 7) rfl)
theorem bw306 : Cond.methodLink RX0 53 yX0_draw ∈ wsL_law := wsL_law_r43_big _ (List.mem_of_getElem? (i := 0) rfl)
theorem bw307 : Cond.methodLink RX0 48 yX4_newsTold ∈ wsL_law := wsL_law_r42_big _ (List.mem_of_getElem? (i := 23) rfl)
theorem bw308 : Cond.methodLink RX10 277 yX0_timesHeard ∈ wsL_law := wsL_law_r43_big _ (List.mem_of_getElem? (i := 19) rfl)
theorem bw309 : Cond.methodLink RX10 274 yX0_housesThatKnow ∈ wsL_law := wsL_law_r43_big _ (List.mem_of_getElem? (i := 15) rfl)
theorem bw310 : Cond.methodLink RX10 271 yX0_runYear ∈ wsL_law := wsL_law_r42_big _ (List.mem_of_getElem? (i := 19) rfl)
theorem bw311 : Cond.methodLink RX10 280 yX5_isFull ∈ wsL_law := wsL_law_r44_big _ (List.mem_of_getElem? (i := 19) rfl)
theorem bw312 : Cond.methodLink RX10 284 yX4_rows ∈ wsL_law := wsL_law_r45_big _ (List.mem_of_getElem? (i := 12) rfl)
theorem bw313 : Cond.methodLink RX10 287 yX4_windsInTurn ∈ wsL_law := wsL_law_r45_big _ (List.mem_of_getElem? (i := 16) rfl)
theorem bw314 : Cond.methodLink RX10 290 yX9_whoKnowsAny ∈ wsL_law := wsL_law_r45_big _ (List.mem_of_getElem? (i := 17) rfl)
theorem bw315 : Cond.initialized RJ6 ∈ wsL_law := wsL_law_r21_big _ (List.mem_of_getElem? (i := 19) rfl)
theorem bw316 : Cond.code yJ6_bitCount_0f7a4 cJ6_bitCount_0f7a4 1 (some .int) ∈ wsL_law := wsL_law_r21_big _ (List.mem_of_getElem? (i := 20) rfl)
theorem bw317 : Cond.static yJ6_bitCount_0f7a4 ∈ wsL_law := wsL_law_r21_big _ (List.mem_of_getElem? (i := 18) rfl)
theorem bw318 : Cond.initialized RJ9 ∈ wsL_law := wsL_law_r23_big _ (List.mem_of_getElem? (i := 5) rfl)
theorem bw319 : Cond.code yJ9_floorMod_7cf53 cJ9_floorMod_7cf53 3 (some .int) ∈ wsL_law := wsL_law_r23_big _ (List.mem_of_getElem? (i := 6) rfl)
theorem bw320 : Cond.static yJ9_floorMod_7cf53 ∈ wsL_law := wsL_law_r23_big _ (List.mem_of_getElem? (i := 4) rfl)
theorem bw321 : Cond.initialized RX0 ∈ wsL_law := wsL_law_r3_big _ (List.mem_of_getElem? (i := 0) rfl)
theorem bw322 : Cond.code yX0_draw cX0_draw 4 (some .int) ∈ wsL_law := wsL_law_r43_big _ (List.mem_of_getElem? (i := 2) rfl)
theorem bw323 : Cond.static yX0_draw ∈ wsL_law := wsL_law_r43_big _ (List.mem_of_getElem? (i := 1) rfl)
theorem bw324 : Cond.code yX0_gustsThatReach cX0_gustsThatReach 8 (some .int) ∈ wsL_law := wsL_law_r42_big _ (List.mem_of_getElem? (i := 0) rfl)
theorem bw325 : Cond.instanceMethod yX0_gustsThatReach ∈ wsL_law := wsL_law_r41_big _ (List.mem_of_getElem? (i := 22) rfl)
theorem bw326 : Cond.selects RX0 yX0_gustsThatReach yX0_gustsThatReach ∈ wsL_law := wsL_law_r41_big _ (List.mem_of_getElem? (i := 23) rfl)
theorem bw327 : Cond.code yX0_housesThatKnow cX0_housesThatKnow 1 (some .int) ∈ wsL_law := wsL_law_r43_big _ (List.mem_of_getElem? (i := 18) rfl)
theorem bw328 : Cond.instanceMethod yX0_housesThatKnow ∈ wsL_law := wsL_law_r43_big _ (List.mem_of_getElem? (i := 16) rfl)
theorem bw329 : Cond.selects RX0 yX0_housesThatKnow yX0_housesThatKnow ∈ wsL_law := wsL_law_r43_big _ (List.mem_of_getElem? (i := 17) rfl)
theorem bw330 : Cond.code yX0_inLowestTerms cX0_inLowestTerms 7 (some .int) ∈ wsL_law := wsL_law_r42_big _ (List.mem_of_getElem? (i := 10) rfl)
theorem bw331 : Cond.instanceMethod yX0_inLowestTerms ∈ wsL_law := wsL_law_r42_big _ (List.mem_of_getElem? (i := 8) rfl)
theorem bw332 : Cond.selects RX0 yX0_inLowestTerms yX0_inLowestTerms ∈ wsL_law := wsL_law_r42_big _ (List.mem_of_getElem? (i := 9) rfl)
theorem bw333 : Cond.code yX0_openByDraw cX0_openByDraw 3 none ∈ wsL_law := wsL_law_r43_big _ (List.mem_of_getElem? (i := 10) rfl)
theorem bw334 : Cond.instanceMethod yX0_openByDraw ∈ wsL_law := wsL_law_r43_big _ (List.mem_of_getElem? (i := 8) rfl)
theorem bw335 : Cond.selects RX0 yX0_openByDraw yX0_openByDraw ∈ wsL_law := wsL_law_r43_big _ (List.mem_of_getElem? (i := 9) rfl)
theorem bw336 : Cond.code yX0_runYear cX0_runYear 7 none ∈ wsL_law := wsL_law_r42_big _ (List.mem_of_getElem? (i := 22) rfl)
theorem bw337 : Cond.instanceMethod yX0_runYear ∈ wsL_law := wsL_law_r42_big _ (List.mem_of_getElem? (i := 20) rfl)
theorem bw338 : Cond.selects RX0 yX0_runYear yX0_runYear ∈ wsL_law := wsL_law_r42_big _ (List.mem_of_getElem? (i := 21) rfl)
theorem bw339 : Cond.code yX0_timesHeard cX0_timesHeard 1 (some .int) ∈ wsL_law := wsL_law_r43_big _ (List.mem_of_getElem? (i := 22) rfl)
theorem bw340 : Cond.instanceMethod yX0_timesHeard ∈ wsL_law := wsL_law_r43_big _ (List.mem_of_getElem? (i := 20) rfl)
theorem bw341 : Cond.selects RX0 yX0_timesHeard yX0_timesHeard ∈ wsL_law := wsL_law_r43_big _ (List.mem_of_getElem? (i := 21) rfl)
theorem bw342 : Cond.code yX0_waysOf cX0_waysOf 1 (some .int) ∈ wsL_law := wsL_law_r42_big _ (List.mem_of_getElem? (i := 4) rfl)
theorem bw343 : Cond.static yX0_waysOf ∈ wsL_law := wsL_law_r42_big _ (List.mem_of_getElem? (i := 3) rfl)
theorem bw344 : Cond.initialized RX10 ∈ wsL_law := wsL_law_r1_big _ (List.mem_of_getElem? (i := 2) rfl)
theorem bw345 : Cond.code yX10_at cX10_at 2 (some .int) ∈ wsL_law := wsL_law_r11_big _ (List.mem_of_getElem? (i := 6) rfl)
theorem bw346 : Cond.static yX10_at ∈ wsL_law := wsL_law_r11_big _ (List.mem_of_getElem? (i := 5) rfl)
theorem bw347 : Cond.code yX10_back cX10_back 1 (some .int) ∈ wsL_law := wsL_law_r45_big _ (List.mem_of_getElem? (i := 3) rfl)
theorem bw348 : Cond.code yX10_bears cX10_bears 3 (some .int) ∈ wsL_law := wsL_law_r36_big _ (List.mem_of_getElem? (i := 7) rfl)
theorem bw349 : Cond.code yX10_began cX10_began 2 (some .int) ∈ wsL_law := wsL_law_r39_big _ (List.mem_of_getElem? (i := 19) rfl)
theorem bw350 : Cond.code yX10_behind cX10_behind 3 (some .int) ∈ wsL_law := wsL_law_r30_big _ (List.mem_of_getElem? (i := 1) rfl)
theorem bw351 : Cond.code yX10_bit cX10_bit 1 (some .int) ∈ wsL_law := wsL_law_r10_big _ (List.mem_of_getElem? (i := 12) rfl)
theorem bw352 : Cond.static yX10_bit ∈ wsL_law := wsL_law_r10_big _ (List.mem_of_getElem? (i := 11) rfl)
theorem bw353 : Cond.code yX10_blew cX10_blew 1 (some .int) ∈ wsL_law := wsL_law_r41_big _ (List.mem_of_getElem? (i := 2) rfl)
theorem bw354 : Cond.code yX10_copy cX10_copy 3 none ∈ wsL_law := wsL_law_r24_big _ (List.mem_of_getElem? (i := 9) rfl)
theorem bw355 : Cond.static yX10_copy ∈ wsL_law := wsL_law_r24_big _ (List.mem_of_getElem? (i := 8) rfl)
theorem bw356 : Cond.code yX10_count cX10_count 2 (some .int) ∈ wsL_law := wsL_law_r45_big _ (List.mem_of_getElem? (i := 11) rfl)
theorem bw357 : Cond.code yX10_cut cX10_cut 5 (some .int) ∈ wsL_law := wsL_law_r32_big _ (List.mem_of_getElem? (i := 8) rfl)
theorem bw358 : Cond.code yX10_fault cX10_fault 1 (some .int) ∈ wsL_law := wsL_law_r16_big _ (List.mem_of_getElem? (i := 23) rfl)
theorem bw359 : Cond.code yX10_fill cX10_fill 3 none ∈ wsL_law := wsL_law_r10_big _ (List.mem_of_getElem? (i := 4) rfl)
theorem bw360 : Cond.static yX10_fill ∈ wsL_law := wsL_law_r10_big _ (List.mem_of_getElem? (i := 3) rfl)
theorem bw361 : Cond.code yX10_forget cX10_forget 2 (some .int) ∈ wsL_law := wsL_law_r39_big _ (List.mem_of_getElem? (i := 11) rfl)
theorem bw362 : Cond.code yX10_gusts cX10_gusts 5 (some .int) ∈ wsL_law := wsL_law_r41_big _ (List.mem_of_getElem? (i := 20) rfl)
theorem bw363 : Cond.code yX10_holds cX10_holds 2 (some .boolean) ∈ wsL_law := wsL_law_r20_big _ (List.mem_of_getElem? (i := 4) rfl)
theorem bw364 : Cond.static yX10_holds ∈ wsL_law := wsL_law_r20_big _ (List.mem_of_getElem? (i := 3) rfl)
theorem bw365 : Cond.code yX10_house cX10_house 3 (some .int) ∈ wsL_law := wsL_law_r19_big _ (List.mem_of_getElem? (i := 9) rfl)
theorem bw366 : Cond.code yX10_isWidth cX10_isWidth 1 (some .boolean) ∈ wsL_law := wsL_law_r12_big _ (List.mem_of_getElem? (i := 3) rfl)
theorem bw367 : Cond.static yX10_isWidth ∈ wsL_law := wsL_law_r12_big _ (List.mem_of_getElem? (i := 2) rfl)
theorem bw368 : Cond.code yX10_keep cX10_keep 1 (some .int) ∈ wsL_law := wsL_law_r44_big _ (List.mem_of_getElem? (i := 18) rfl)
theorem bw369 : Cond.code yX10_last cX10_last 4 (some .int) ∈ wsL_law := wsL_law_r31_big _ (List.mem_of_getElem? (i := 18) rfl)
theorem bw370 : Cond.code yX10_lay cX10_lay 1 (some .int) ∈ wsL_law := wsL_law_r18_big _ (List.mem_of_getElem? (i := 23) rfl)
theorem bw371 : Cond.code yX10_layText cX10_layText 1 (some .boolean) ∈ wsL_law := wsL_law_r9_big _ (List.mem_of_getElem? (i := 18) rfl)
theorem bw372 : Cond.instanceMethod yX10_layText ∈ wsL_law := wsL_law_r9_big _ (List.mem_of_getElem? (i := 16) rfl)
theorem bw373 : Cond.selects RX10 yX10_layText yX10_layText ∈ wsL_law := wsL_law_r9_big _ (List.mem_of_getElem? (i := 17) rfl)
theorem bw374 : Cond.code yX10_news cX10_news 3 (some .int) ∈ wsL_law := wsL_law_r21_big _ (List.mem_of_getElem? (i := 5) rfl)
theorem bw375 : Cond.code yX10_open cX10_open 4 (some .int) ∈ wsL_law := wsL_law_r28_big _ (List.mem_of_getElem? (i := 11) rfl)
theorem bw376 : Cond.code yX10_openings cX10_openings 6 (some .int) ∈ wsL_law := wsL_law_r33_big _ (List.mem_of_getElem? (i := 10) rfl)
theorem bw377 : Cond.code yX10_put cX10_put 3 none ∈ wsL_law := wsL_law_r9_big _ (List.mem_of_getElem? (i := 14) rfl)
theorem bw378 : Cond.static yX10_put ∈ wsL_law := wsL_law_r9_big _ (List.mem_of_getElem? (i := 13) rfl)
theorem bw379 : Cond.code yX10_quarrel cX10_quarrel 6 (some .int) ∈ wsL_law := wsL_law_r37_big _ (List.mem_of_getElem? (i := 5) rfl)
theorem bw380 : Cond.code yX10_see cX10_see 5 (some .int) ∈ wsL_law := wsL_law_r38_big _ (List.mem_of_getElem? (i := 19) rfl)
theorem bw381 : Cond.code yX10_step cX10_step 3 (some .int) ∈ wsL_law := wsL_law_r23_big _ (List.mem_of_getElem? (i := 18) rfl)
theorem bw382 : Cond.code yX10_tell cX10_tell 4 (some .int) ∈ wsL_law := wsL_law_r29_big _ (List.mem_of_getElem? (i := 0) rfl)
theorem bw383 : Cond.code yX10_undo cX10_undo 1 (some .int) ∈ wsL_law := wsL_law_r29_big _ (List.mem_of_getElem? (i := 9) rfl)
theorem bw384 : Cond.code yX10_when cX10_when 3 (some .int) ∈ wsL_law := wsL_law_r30_big _ (List.mem_of_getElem? (i := 20) rfl)
theorem bw385 : Cond.code yX10_wind cX10_wind 2 (some .int) ∈ wsL_law := wsL_law_r22_big _ (List.mem_of_getElem? (i := 14) rfl)
theorem bw386 : Cond.code yX10_wipe cX10_wipe 2 (some .int) ∈ wsL_law := wsL_law_r16_big _ (List.mem_of_getElem? (i := 15) rfl)
theorem bw387 : Cond.code yX10_within cX10_within 3 (some .boolean) ∈ wsL_law := wsL_law_r10_big _ (List.mem_of_getElem? (i := 10) rfl)
theorem bw388 : Cond.static yX10_within ∈ wsL_law := wsL_law_r10_big _ (List.mem_of_getElem? (i := 9) rfl)
theorem bw389 : Cond.code yX10_write cX10_write 2 (some .int) ∈ wsL_law := wsL_law_r16_big _ (List.mem_of_getElem? (i := 2) rfl)
theorem bw390 : Cond.code yX10_year cX10_year 4 (some .int) ∈ wsL_law := wsL_law_r42_big _ (List.mem_of_getElem? (i := 18) rfl)
theorem bw391 : Cond.initialized RX11 ∈ wsL_law := wsL_law_r1_big _ (List.mem_of_getElem? (i := 5) rfl)
theorem bw392 : Cond.code yX11_allKnown cX11_allKnown 3 (some .int) ∈ wsL_law := wsL_law_r44_big _ (List.mem_of_getElem? (i := 10) rfl)
theorem bw393 : Cond.instanceMethod yX11_allKnown ∈ wsL_law := wsL_law_r44_big _ (List.mem_of_getElem? (i := 8) rfl)
theorem bw394 : Cond.selects RX11 yX11_allKnown yX11_allKnown ∈ wsL_law := wsL_law_r44_big _ (List.mem_of_getElem? (i := 9) rfl)
theorem bw395 : Cond.code yX11_asItIs cX11_asItIs 1 none ∈ wsL_law := wsL_law_r20_big _ (List.mem_of_getElem? (i := 17) rfl)
theorem bw396 : Cond.instanceMethod yX11_asItIs ∈ wsL_law := wsL_law_r20_big _ (List.mem_of_getElem? (i := 15) rfl)
theorem bw397 : Cond.selects RX11 yX11_asItIs yX11_asItIs ∈ wsL_law := wsL_law_r20_big _ (List.mem_of_getElem? (i := 16) rfl)
theorem bw398 : Cond.code yX11_asItIsOf cX11_asItIsOf 2 none ∈ wsL_law := wsL_law_r31_big _ (List.mem_of_getElem? (i := 10) rfl)
theorem bw399 : Cond.instanceMethod yX11_asItIsOf ∈ wsL_law := wsL_law_r31_big _ (List.mem_of_getElem? (i := 8) rfl)
theorem bw400 : Cond.selects RX11 yX11_asItIsOf yX11_asItIsOf ∈ wsL_law := wsL_law_r31_big _ (List.mem_of_getElem? (i := 9) rfl)
theorem bw401 : Cond.code yX11_back cX11_back 1 (some .int) ∈ wsL_law := wsL_law_r45_big _ (List.mem_of_getElem? (i := 7) rfl)
theorem bw402 : Cond.code yX11_bears cX11_bears 4 (some .int) ∈ wsL_law := wsL_law_r36_big _ (List.mem_of_getElem? (i := 21) rfl)
theorem bw403 : Cond.code yX11_began cX11_began 4 (some .int) ∈ wsL_law := wsL_law_r40_big _ (List.mem_of_getElem? (i := 14) rfl)
theorem bw404 : Cond.code yX11_behind cX11_behind 3 (some .int) ∈ wsL_law := wsL_law_r30_big _ (List.mem_of_getElem? (i := 16) rfl)
theorem bw405 : Cond.code yX11_beside cX11_beside 5 (some .int) ∈ wsL_law := wsL_law_r28_big _ (List.mem_of_getElem? (i := 3) rfl)
theorem bw406 : Cond.instanceMethod yX11_beside ∈ wsL_law := wsL_law_r28_big _ (List.mem_of_getElem? (i := 1) rfl)
theorem bw407 : Cond.selects RX11 yX11_beside yX11_beside ∈ wsL_law := wsL_law_r28_big _ (List.mem_of_getElem? (i := 2) rfl)
theorem bw408 : Cond.code yX11_bits cX11_bits 3 (some .int) ∈ wsL_law := wsL_law_r22_big _ (List.mem_of_getElem? (i := 10) rfl)
theorem bw409 : Cond.static yX11_bits ∈ wsL_law := wsL_law_r22_big _ (List.mem_of_getElem? (i := 9) rfl)
theorem bw410 : Cond.code yX11_blew cX11_blew 3 (some .int) ∈ wsL_law := wsL_law_r41_big _ (List.mem_of_getElem? (i := 16) rfl)
theorem bw411 : Cond.code yX11_blowsFrom cX11_blowsFrom 6 none ∈ wsL_law := wsL_law_r27_big _ (List.mem_of_getElem? (i := 23) rfl)
theorem bw412 : Cond.instanceMethod yX11_blowsFrom ∈ wsL_law := wsL_law_r27_big _ (List.mem_of_getElem? (i := 21) rfl)
theorem bw413 : Cond.selects RX11 yX11_blowsFrom yX11_blowsFrom ∈ wsL_law := wsL_law_r27_big _ (List.mem_of_getElem? (i := 22) rfl)
theorem bw414 : Cond.code yX11_clearTold cX11_clearTold 2 none ∈ wsL_law := wsL_law_r14_big _ (List.mem_of_getElem? (i := 19) rfl)
theorem bw415 : Cond.instanceMethod yX11_clearTold ∈ wsL_law := wsL_law_r14_big _ (List.mem_of_getElem? (i := 17) rfl)
theorem bw416 : Cond.selects RX11 yX11_clearTold yX11_clearTold ∈ wsL_law := wsL_law_r14_big _ (List.mem_of_getElem? (i := 18) rfl)
theorem bw417 : Cond.code yX11_copies cX11_copies 6 none ∈ wsL_law := wsL_law_r15_big _ (List.mem_of_getElem? (i := 22) rfl)
theorem bw418 : Cond.static yX11_copies ∈ wsL_law := wsL_law_r15_big _ (List.mem_of_getElem? (i := 21) rfl)
theorem bw419 : Cond.code yX11_count cX11_count 2 (some .int) ∈ wsL_law := wsL_law_r46_big _ (List.mem_of_getElem? (i := 0) rfl)
theorem bw420 : Cond.code yX11_cut cX11_cut 6 (some .int) ∈ wsL_law := wsL_law_r33_big _ (List.mem_of_getElem? (i := 2) rfl)
theorem bw421 : Cond.code yX11_fault cX11_fault 2 (some .int) ∈ wsL_law := wsL_law_r17_big _ (List.mem_of_getElem? (i := 3) rfl)
theorem bw422 : Cond.instanceMethod yX11_fault ∈ wsL_law := wsL_law_r17_big _ (List.mem_of_getElem? (i := 1) rfl)
theorem bw423 : Cond.selects RX11 yX11_fault yX11_fault ∈ wsL_law := wsL_law_r17_big _ (List.mem_of_getElem? (i := 2) rfl)
theorem bw424 : Cond.code yX11_findWay cX11_findWay 10 (some .boolean) ∈ wsL_law := wsL_law_r35_big _ (List.mem_of_getElem? (i := 23) rfl)
theorem bw425 : Cond.instanceMethod yX11_findWay ∈ wsL_law := wsL_law_r35_big _ (List.mem_of_getElem? (i := 21) rfl)
theorem bw426 : Cond.selects RX11 yX11_findWay yX11_findWay ∈ wsL_law := wsL_law_r35_big _ (List.mem_of_getElem? (i := 22) rfl)
theorem bw427 : Cond.code yX11_forget cX11_forget 2 (some .int) ∈ wsL_law := wsL_law_r39_big _ (List.mem_of_getElem? (i := 15) rfl)
theorem bw428 : Cond.code yX11_goes cX11_goes 3 none ∈ wsL_law := wsL_law_r27_big _ (List.mem_of_getElem? (i := 11) rfl)
theorem bw429 : Cond.instanceMethod yX11_goes ∈ wsL_law := wsL_law_r27_big _ (List.mem_of_getElem? (i := 9) rfl)
theorem bw430 : Cond.selects RX11 yX11_goes yX11_goes ∈ wsL_law := wsL_law_r27_big _ (List.mem_of_getElem? (i := 10) rfl)
theorem bw431 : Cond.code yX11_goesBy cX11_goesBy 6 none ∈ wsL_law := wsL_law_r27_big _ (List.mem_of_getElem? (i := 15) rfl)
theorem bw432 : Cond.instanceMethod yX11_goesBy ∈ wsL_law := wsL_law_r27_big _ (List.mem_of_getElem? (i := 13) rfl)
theorem bw433 : Cond.selects RX11 yX11_goesBy yX11_goesBy ∈ wsL_law := wsL_law_r27_big _ (List.mem_of_getElem? (i := 14) rfl)
theorem bw434 : Cond.code yX11_gusts cX11_gusts 10 (some .int) ∈ wsL_law := wsL_law_r42_big _ (List.mem_of_getElem? (i := 14) rfl)
theorem bw435 : Cond.code yX11_has cX11_has 2 (some .boolean) ∈ wsL_law := wsL_law_r21_big _ (List.mem_of_getElem? (i := 1) rfl)
theorem bw436 : Cond.static yX11_has ∈ wsL_law := wsL_law_r21_big _ (List.mem_of_getElem? (i := 0) rfl)
theorem bw437 : Cond.code yX11_heavy cX11_heavy 4 (some .int) ∈ wsL_law := wsL_law_r37_big _ (List.mem_of_getElem? (i := 1) rfl)
theorem bw438 : Cond.instanceMethod yX11_heavy ∈ wsL_law := wsL_law_r36_big _ (List.mem_of_getElem? (i := 23) rfl)
theorem bw439 : Cond.selects RX11 yX11_heavy yX11_heavy ∈ wsL_law := wsL_law_r37_big _ (List.mem_of_getElem? (i := 0) rfl)
theorem bw440 : Cond.code yX11_house cX11_house 3 (some .int) ∈ wsL_law := wsL_law_r20_big _ (List.mem_of_getElem? (i := 9) rfl)
theorem bw441 : Cond.code yX11_in cX11_in 3 (some .boolean) ∈ wsL_law := wsL_law_r16_big _ (List.mem_of_getElem? (i := 11) rfl)
theorem bw442 : Cond.static yX11_in ∈ wsL_law := wsL_law_r16_big _ (List.mem_of_getElem? (i := 10) rfl)
theorem bw443 : Cond.code yX11_isCutBy cX11_isCutBy 5 (some .boolean) ∈ wsL_law := wsL_law_r33_big _ (List.mem_of_getElem? (i := 6) rfl)
theorem bw444 : Cond.instanceMethod yX11_isCutBy ∈ wsL_law := wsL_law_r33_big _ (List.mem_of_getElem? (i := 4) rfl)
theorem bw445 : Cond.selects RX11 yX11_isCutBy yX11_isCutBy ∈ wsL_law := wsL_law_r33_big _ (List.mem_of_getElem? (i := 5) rfl)
theorem bw446 : Cond.code yX11_isFigure cX11_isFigure 1 (some .boolean) ∈ wsL_law := wsL_law_r17_big _ (List.mem_of_getElem? (i := 23) rfl)
theorem bw447 : Cond.static yX11_isFigure ∈ wsL_law := wsL_law_r17_big _ (List.mem_of_getElem? (i := 22) rfl)
theorem bw448 : Cond.code yX11_isHouse cX11_isHouse 2 (some .boolean) ∈ wsL_law := wsL_law_r20_big _ (List.mem_of_getElem? (i := 13) rfl)
theorem bw449 : Cond.instanceMethod yX11_isHouse ∈ wsL_law := wsL_law_r20_big _ (List.mem_of_getElem? (i := 11) rfl)
theorem bw450 : Cond.selects RX11 yX11_isHouse yX11_isHouse ∈ wsL_law := wsL_law_r20_big _ (List.mem_of_getElem? (i := 12) rfl)
theorem bw451 : Cond.code yX11_isNews cX11_isNews 2 (some .boolean) ∈ wsL_law := wsL_law_r22_big _ (List.mem_of_getElem? (i := 7) rfl)
theorem bw452 : Cond.instanceMethod yX11_isNews ∈ wsL_law := wsL_law_r22_big _ (List.mem_of_getElem? (i := 5) rfl)
theorem bw453 : Cond.selects RX11 yX11_isNews yX11_isNews ∈ wsL_law := wsL_law_r22_big _ (List.mem_of_getElem? (i := 6) rfl)
theorem bw454 : Cond.code yX11_isSo cX11_isSo 5 (some .boolean) ∈ wsL_law := wsL_law_r40_big _ (List.mem_of_getElem? (i := 22) rfl)
theorem bw455 : Cond.instanceMethod yX11_isSo ∈ wsL_law := wsL_law_r40_big _ (List.mem_of_getElem? (i := 20) rfl)
theorem bw456 : Cond.selects RX11 yX11_isSo yX11_isSo ∈ wsL_law := wsL_law_r40_big _ (List.mem_of_getElem? (i := 21) rfl)
theorem bw457 : Cond.code yX11_isSoAll cX11_isSoAll 5 (some .boolean) ∈ wsL_law := wsL_law_r40_big _ (List.mem_of_getElem? (i := 18) rfl)
theorem bw458 : Cond.instanceMethod yX11_isSoAll ∈ wsL_law := wsL_law_r40_big _ (List.mem_of_getElem? (i := 16) rfl)
theorem bw459 : Cond.selects RX11 yX11_isSoAll yX11_isSoAll ∈ wsL_law := wsL_law_r40_big _ (List.mem_of_getElem? (i := 17) rfl)
theorem bw460 : Cond.code yX11_isSoBy cX11_isSoBy 5 (some .boolean) ∈ wsL_law := wsL_law_r36_big _ (List.mem_of_getElem? (i := 3) rfl)
theorem bw461 : Cond.instanceMethod yX11_isSoBy ∈ wsL_law := wsL_law_r36_big _ (List.mem_of_getElem? (i := 1) rfl)
theorem bw462 : Cond.selects RX11 yX11_isSoBy yX11_isSoBy ∈ wsL_law := wsL_law_r36_big _ (List.mem_of_getElem? (i := 2) rfl)
theorem bw463 : Cond.code yX11_isTold cX11_isTold 4 (some .boolean) ∈ wsL_law := wsL_law_r18_big _ (List.mem_of_getElem? (i := 3) rfl)
theorem bw464 : Cond.instanceMethod yX11_isTold ∈ wsL_law := wsL_law_r18_big _ (List.mem_of_getElem? (i := 1) rfl)
theorem bw465 : Cond.selects RX11 yX11_isTold yX11_isTold ∈ wsL_law := wsL_law_r18_big _ (List.mem_of_getElem? (i := 2) rfl)
theorem bw466 : Cond.code yX11_isWon cX11_isWon 7 (some .boolean) ∈ wsL_law := wsL_law_r38_big _ (List.mem_of_getElem? (i := 11) rfl)
theorem bw467 : Cond.instanceMethod yX11_isWon ∈ wsL_law := wsL_law_r38_big _ (List.mem_of_getElem? (i := 9) rfl)
theorem bw468 : Cond.selects RX11 yX11_isWon yX11_isWon ∈ wsL_law := wsL_law_r38_big _ (List.mem_of_getElem? (i := 10) rfl)
theorem bw469 : Cond.code yX11_keep cX11_keep 1 (some .int) ∈ wsL_law := wsL_law_r44_big _ (List.mem_of_getElem? (i := 23) rfl)
theorem bw470 : Cond.code yX11_knowers cX11_knowers 3 (some .int) ∈ wsL_law := wsL_law_r44_big _ (List.mem_of_getElem? (i := 14) rfl)
theorem bw471 : Cond.instanceMethod yX11_knowers ∈ wsL_law := wsL_law_r44_big _ (List.mem_of_getElem? (i := 12) rfl)
theorem bw472 : Cond.selects RX11 yX11_knowers yX11_knowers ∈ wsL_law := wsL_law_r44_big _ (List.mem_of_getElem? (i := 13) rfl)
theorem bw473 : Cond.code yX11_known cX11_known 4 (some .int) ∈ wsL_law := wsL_law_r20_big _ (List.mem_of_getElem? (i := 22) rfl)
theorem bw474 : Cond.instanceMethod yX11_known ∈ wsL_law := wsL_law_r20_big _ (List.mem_of_getElem? (i := 20) rfl)
theorem bw475 : Cond.selects RX11 yX11_known yX11_known ∈ wsL_law := wsL_law_r20_big _ (List.mem_of_getElem? (i := 21) rfl)
theorem bw476 : Cond.code yX11_knowsBehind cX11_knowsBehind 4 (some .int) ∈ wsL_law := wsL_law_r31_big _ (List.mem_of_getElem? (i := 14) rfl)
theorem bw477 : Cond.instanceMethod yX11_knowsBehind ∈ wsL_law := wsL_law_r31_big _ (List.mem_of_getElem? (i := 12) rfl)
theorem bw478 : Cond.selects RX11 yX11_knowsBehind yX11_knowsBehind ∈ wsL_law := wsL_law_r31_big _ (List.mem_of_getElem? (i := 13) rfl)
theorem bw479 : Cond.code yX11_knowsBy cX11_knowsBy 6 (some .boolean) ∈ wsL_law := wsL_law_r38_big _ (List.mem_of_getElem? (i := 15) rfl)
theorem bw480 : Cond.instanceMethod yX11_knowsBy ∈ wsL_law := wsL_law_r38_big _ (List.mem_of_getElem? (i := 13) rfl)
theorem bw481 : Cond.selects RX11 yX11_knowsBy yX11_knowsBy ∈ wsL_law := wsL_law_r38_big _ (List.mem_of_getElem? (i := 14) rfl)
theorem bw482 : Cond.code yX11_last cX11_last 8 (some .int) ∈ wsL_law := wsL_law_r32_big _ (List.mem_of_getElem? (i := 4) rfl)
theorem bw483 : Cond.code yX11_lastTold cX11_lastTold 1 (some .int) ∈ wsL_law := wsL_law_r18_big _ (List.mem_of_getElem? (i := 11) rfl)
theorem bw484 : Cond.instanceMethod yX11_lastTold ∈ wsL_law := wsL_law_r18_big _ (List.mem_of_getElem? (i := 9) rfl)
theorem bw485 : Cond.selects RX11 yX11_lastTold yX11_lastTold ∈ wsL_law := wsL_law_r18_big _ (List.mem_of_getElem? (i := 10) rfl)
theorem bw486 : Cond.code yX11_lay cX11_lay 1 (some .int) ∈ wsL_law := wsL_law_r19_big _ (List.mem_of_getElem? (i := 4) rfl)
theorem bw487 : Cond.code yX11_letsIn cX11_letsIn 5 (some .boolean) ∈ wsL_law := wsL_law_r28_big _ (List.mem_of_getElem? (i := 7) rfl)
theorem bw488 : Cond.instanceMethod yX11_letsIn ∈ wsL_law := wsL_law_r28_big _ (List.mem_of_getElem? (i := 5) rfl)
theorem bw489 : Cond.selects RX11 yX11_letsIn yX11_letsIn ∈ wsL_law := wsL_law_r28_big _ (List.mem_of_getElem? (i := 6) rfl)
theorem bw490 : Cond.code yX11_letsOut cX11_letsOut 3 (some .boolean) ∈ wsL_law := wsL_law_r27_big _ (List.mem_of_getElem? (i := 19) rfl)
theorem bw491 : Cond.instanceMethod yX11_letsOut ∈ wsL_law := wsL_law_r27_big _ (List.mem_of_getElem? (i := 17) rfl)
theorem bw492 : Cond.selects RX11 yX11_letsOut yX11_letsOut ∈ wsL_law := wsL_law_r27_big _ (List.mem_of_getElem? (i := 18) rfl)
theorem bw493 : Cond.code yX11_letterAt cX11_letterAt 2 (some .int) ∈ wsL_law := wsL_law_r17_big _ (List.mem_of_getElem? (i := 12) rfl)
theorem bw494 : Cond.instanceMethod yX11_letterAt ∈ wsL_law := wsL_law_r17_big _ (List.mem_of_getElem? (i := 10) rfl)
theorem bw495 : Cond.selects RX11 yX11_letterAt yX11_letterAt ∈ wsL_law := wsL_law_r17_big _ (List.mem_of_getElem? (i := 11) rfl)
theorem bw496 : Cond.code yX11_news cX11_news 3 (some .int) ∈ wsL_law := wsL_law_r22_big _ (List.mem_of_getElem? (i := 3) rfl)
theorem bw497 : Cond.code yX11_open cX11_open 4 (some .int) ∈ wsL_law := wsL_law_r28_big _ (List.mem_of_getElem? (i := 20) rfl)
theorem bw498 : Cond.code yX11_openings cX11_openings 8 (some .int) ∈ wsL_law := wsL_law_r35_big _ (List.mem_of_getElem? (i := 17) rfl)
theorem bw499 : Cond.code yX11_quarrel cX11_quarrel 7 (some .int) ∈ wsL_law := wsL_law_r38_big _ (List.mem_of_getElem? (i := 7) rfl)
theorem bw500 : Cond.code yX11_readGridOf cX11_readGridOf 1 (some .boolean) ∈ wsL_law := wsL_law_r17_big _ (List.mem_of_getElem? (i := 16) rfl)
theorem bw501 : Cond.instanceMethod yX11_readGridOf ∈ wsL_law := wsL_law_r17_big _ (List.mem_of_getElem? (i := 14) rfl)
theorem bw502 : Cond.selects RX11 yX11_readGridOf yX11_readGridOf ∈ wsL_law := wsL_law_r17_big _ (List.mem_of_getElem? (i := 15) rfl)
theorem bw503 : Cond.code yX11_readHouseOf cX11_readHouseOf 1 (some .boolean) ∈ wsL_law := wsL_law_r18_big _ (List.mem_of_getElem? (i := 7) rfl)
theorem bw504 : Cond.instanceMethod yX11_readHouseOf ∈ wsL_law := wsL_law_r18_big _ (List.mem_of_getElem? (i := 5) rfl)
theorem bw505 : Cond.selects RX11 yX11_readHouseOf yX11_readHouseOf ∈ wsL_law := wsL_law_r18_big _ (List.mem_of_getElem? (i := 6) rfl)
theorem bw506 : Cond.code yX11_readItem cX11_readItem 2 (some .boolean) ∈ wsL_law := wsL_law_r17_big _ (List.mem_of_getElem? (i := 8) rfl)
theorem bw507 : Cond.instanceMethod yX11_readItem ∈ wsL_law := wsL_law_r17_big _ (List.mem_of_getElem? (i := 6) rfl)
theorem bw508 : Cond.selects RX11 yX11_readItem yX11_readItem ∈ wsL_law := wsL_law_r17_big _ (List.mem_of_getElem? (i := 7) rfl)
theorem bw509 : Cond.code yX11_readNewsOf cX11_readNewsOf 1 (some .boolean) ∈ wsL_law := wsL_law_r18_big _ (List.mem_of_getElem? (i := 15) rfl)
theorem bw510 : Cond.instanceMethod yX11_readNewsOf ∈ wsL_law := wsL_law_r18_big _ (List.mem_of_getElem? (i := 13) rfl)
theorem bw511 : Cond.selects RX11 yX11_readNewsOf yX11_readNewsOf ∈ wsL_law := wsL_law_r18_big _ (List.mem_of_getElem? (i := 14) rfl)
theorem bw512 : Cond.code yX11_readNumbers cX11_readNumbers 3 (some .boolean) ∈ wsL_law := wsL_law_r17_big _ (List.mem_of_getElem? (i := 20) rfl)
theorem bw513 : Cond.instanceMethod yX11_readNumbers ∈ wsL_law := wsL_law_r17_big _ (List.mem_of_getElem? (i := 18) rfl)
theorem bw514 : Cond.selects RX11 yX11_readNumbers yX11_readNumbers ∈ wsL_law := wsL_law_r17_big _ (List.mem_of_getElem? (i := 19) rfl)
theorem bw515 : Cond.code yX11_readWindOf cX11_readWindOf 1 (some .boolean) ∈ wsL_law := wsL_law_r18_big _ (List.mem_of_getElem? (i := 19) rfl)
theorem bw516 : Cond.instanceMethod yX11_readWindOf ∈ wsL_law := wsL_law_r18_big _ (List.mem_of_getElem? (i := 17) rfl)
theorem bw517 : Cond.selects RX11 yX11_readWindOf yX11_readWindOf ∈ wsL_law := wsL_law_r18_big _ (List.mem_of_getElem? (i := 18) rfl)
theorem bw518 : Cond.code yX11_remembers cX11_remembers 2 none ∈ wsL_law := wsL_law_r27_big _ (List.mem_of_getElem? (i := 7) rfl)
theorem bw519 : Cond.instanceMethod yX11_remembers ∈ wsL_law := wsL_law_r27_big _ (List.mem_of_getElem? (i := 5) rfl)
theorem bw520 : Cond.selects RX11 yX11_remembers yX11_remembers ∈ wsL_law := wsL_law_r27_big _ (List.mem_of_getElem? (i := 6) rfl)
theorem bw521 : Cond.code yX11_see cX11_see 5 (some .int) ∈ wsL_law := wsL_law_r39_big _ (List.mem_of_getElem? (i := 7) rfl)
theorem bw522 : Cond.code yX11_settles cX11_settles 2 none ∈ wsL_law := wsL_law_r15_big _ (List.mem_of_getElem? (i := 11) rfl)
theorem bw523 : Cond.instanceMethod yX11_settles ∈ wsL_law := wsL_law_r15_big _ (List.mem_of_getElem? (i := 9) rfl)
theorem bw524 : Cond.selects RX11 yX11_settles yX11_settles ∈ wsL_law := wsL_law_r15_big _ (List.mem_of_getElem? (i := 10) rfl)
theorem bw525 : Cond.code yX11_step cX11_step 2 (some .int) ∈ wsL_law := wsL_law_r27_big _ (List.mem_of_getElem? (i := 3) rfl)
theorem bw526 : Cond.code yX11_tell cX11_tell 3 (some .int) ∈ wsL_law := wsL_law_r29_big _ (List.mem_of_getElem? (i := 5) rfl)
theorem bw527 : Cond.code yX11_tellsHouse cX11_tellsHouse 4 none ∈ wsL_law := wsL_law_r15_big _ (List.mem_of_getElem? (i := 3) rfl)
theorem bw528 : Cond.instanceMethod yX11_tellsHouse ∈ wsL_law := wsL_law_r15_big _ (List.mem_of_getElem? (i := 1) rfl)
theorem bw529 : Cond.selects RX11 yX11_tellsHouse yX11_tellsHouse ∈ wsL_law := wsL_law_r15_big _ (List.mem_of_getElem? (i := 2) rfl)
theorem bw530 : Cond.code yX11_tellsNews cX11_tellsNews 4 none ∈ wsL_law := wsL_law_r15_big _ (List.mem_of_getElem? (i := 7) rfl)
theorem bw531 : Cond.instanceMethod yX11_tellsNews ∈ wsL_law := wsL_law_r15_big _ (List.mem_of_getElem? (i := 5) rfl)
theorem bw532 : Cond.selects RX11 yX11_tellsNews yX11_tellsNews ∈ wsL_law := wsL_law_r15_big _ (List.mem_of_getElem? (i := 6) rfl)
theorem bw533 : Cond.code yX11_undo cX11_undo 1 (some .int) ∈ wsL_law := wsL_law_r29_big _ (List.mem_of_getElem? (i := 21) rfl)
theorem bw534 : Cond.code yX11_when cX11_when 3 (some .int) ∈ wsL_law := wsL_law_r31_big _ (List.mem_of_getElem? (i := 6) rfl)
theorem bw535 : Cond.code yX11_wind cX11_wind 2 (some .int) ∈ wsL_law := wsL_law_r23_big _ (List.mem_of_getElem? (i := 10) rfl)
theorem bw536 : Cond.code yX11_windOf cX11_windOf 2 (some .int) ∈ wsL_law := wsL_law_r23_big _ (List.mem_of_getElem? (i := 14) rfl)
theorem bw537 : Cond.instanceMethod yX11_windOf ∈ wsL_law := wsL_law_r23_big _ (List.mem_of_getElem? (i := 12) rfl)
theorem bw538 : Cond.selects RX11 yX11_windOf yX11_windOf ∈ wsL_law := wsL_law_r23_big _ (List.mem_of_getElem? (i := 13) rfl)
theorem bw539 : Cond.code yX11_wipe cX11_wipe 2 (some .int) ∈ wsL_law := wsL_law_r16_big _ (List.mem_of_getElem? (i := 19) rfl)
theorem bw540 : Cond.code yX11_write cX11_write 2 (some .int) ∈ wsL_law := wsL_law_r16_big _ (List.mem_of_getElem? (i := 7) rfl)
theorem bw541 : Cond.code yX11_year cX11_year 9 (some .int) ∈ wsL_law := wsL_law_r44_big _ (List.mem_of_getElem? (i := 2) rfl)
theorem bw542 : Cond.initialized RX1 ∈ wsL_law := wsL_law_r2_big _ (List.mem_of_getElem? (i := 12) rfl)
theorem bw543 : Cond.code yX1_along cX1_along 9 (some .int) ∈ wsL_law := wsL_law_r26_big _ (List.mem_of_getElem? (i := 8) rfl)
theorem bw544 : Cond.instanceMethod yX1_along ∈ wsL_law := wsL_law_r26_big _ (List.mem_of_getElem? (i := 6) rfl)
theorem bw545 : Cond.selects RX1 yX1_along yX1_along ∈ wsL_law := wsL_law_r26_big _ (List.mem_of_getElem? (i := 7) rfl)
theorem bw546 : Cond.code yX1_hears cX1_hears 3 (some .boolean) ∈ wsL_law := wsL_law_r30_big _ (List.mem_of_getElem? (i := 11) rfl)
theorem bw547 : Cond.instanceMethod yX1_hears ∈ wsL_law := wsL_law_r30_big _ (List.mem_of_getElem? (i := 9) rfl)
theorem bw548 : Cond.selects RX1 yX1_hears yX1_hears ∈ wsL_law := wsL_law_r30_big _ (List.mem_of_getElem? (i := 10) rfl)
theorem bw549 : Cond.code yX1_isAnother cX1_isAnother 3 (some .boolean) ∈ wsL_law := wsL_law_r34_big _ (List.mem_of_getElem? (i := 23) rfl)
theorem bw550 : Cond.instanceMethod yX1_isAnother ∈ wsL_law := wsL_law_r34_big _ (List.mem_of_getElem? (i := 21) rfl)
theorem bw551 : Cond.selects RX1 yX1_isAnother yX1_isAnother ∈ wsL_law := wsL_law_r34_big _ (List.mem_of_getElem? (i := 22) rfl)
theorem bw552 : Cond.code yX1_letsInFromGossips cX1_letsInFromGossips 3 (some .boolean) ∈ wsL_law := wsL_law_r26_big _ (List.mem_of_getElem? (i := 0) rfl)
theorem bw553 : Cond.instanceMethod yX1_letsInFromGossips ∈ wsL_law := wsL_law_r25_big _ (List.mem_of_getElem? (i := 22) rfl)
theorem bw554 : Cond.selects RX1 yX1_letsInFromGossips yX1_letsInFromGossips ∈ wsL_law := wsL_law_r25_big _ (List.mem_of_getElem? (i := 23) rfl)
theorem bw555 : Cond.code yX1_letsInFromTalkers cX1_letsInFromTalkers 3 (some .boolean) ∈ wsL_law := wsL_law_r25_big _ (List.mem_of_getElem? (i := 20) rfl)
theorem bw556 : Cond.instanceMethod yX1_letsInFromTalkers ∈ wsL_law := wsL_law_r25_big _ (List.mem_of_getElem? (i := 18) rfl)
theorem bw557 : Cond.selects RX1 yX1_letsInFromTalkers yX1_letsInFromTalkers ∈ wsL_law := wsL_law_r25_big _ (List.mem_of_getElem? (i := 19) rfl)
theorem bw558 : Cond.code yX1_onward cX1_onward 6 (some .int) ∈ wsL_law := wsL_law_r26_big _ (List.mem_of_getElem? (i := 15) rfl)
theorem bw559 : Cond.instanceMethod yX1_onward ∈ wsL_law := wsL_law_r26_big _ (List.mem_of_getElem? (i := 13) rfl)
theorem bw560 : Cond.selects RX1 yX1_onward yX1_onward ∈ wsL_law := wsL_law_r26_big _ (List.mem_of_getElem? (i := 14) rfl)
theorem bw561 : Cond.code yX1_pick cX1_pick 6 none ∈ wsL_law := wsL_law_r24_big _ (List.mem_of_getElem? (i := 18) rfl)
theorem bw562 : Cond.instanceMethod yX1_pick ∈ wsL_law := wsL_law_r24_big _ (List.mem_of_getElem? (i := 16) rfl)
theorem bw563 : Cond.selects RX1 yX1_pick yX1_pick ∈ wsL_law := wsL_law_r24_big _ (List.mem_of_getElem? (i := 17) rfl)
theorem bw564 : Cond.code yX1_reopen cX1_reopen 3 none ∈ wsL_law := wsL_law_r25_big _ (List.mem_of_getElem? (i := 16) rfl)
theorem bw565 : Cond.instanceMethod yX1_reopen ∈ wsL_law := wsL_law_r25_big _ (List.mem_of_getElem? (i := 14) rfl)
theorem bw566 : Cond.selects RX1 yX1_reopen yX1_reopen ∈ wsL_law := wsL_law_r25_big _ (List.mem_of_getElem? (i := 15) rfl)
theorem bw567 : Cond.code yX1_sashOf cX1_sashOf 2 (some .int) ∈ wsL_law := wsL_law_r38_big _ (List.mem_of_getElem? (i := 2) rfl)
theorem bw568 : Cond.instanceMethod yX1_sashOf ∈ wsL_law := wsL_law_r38_big _ (List.mem_of_getElem? (i := 0) rfl)
theorem bw569 : Cond.selects RX1 yX1_sashOf yX1_sashOf ∈ wsL_law := wsL_law_r38_big _ (List.mem_of_getElem? (i := 1) rfl)
theorem bw570 : Cond.code yX1_stuff cX1_stuff 3 none ∈ wsL_law := wsL_law_r32_big _ (List.mem_of_getElem? (i := 22) rfl)
theorem bw571 : Cond.instanceMethod yX1_stuff ∈ wsL_law := wsL_law_r32_big _ (List.mem_of_getElem? (i := 20) rfl)
theorem bw572 : Cond.selects RX1 yX1_stuff yX1_stuff ∈ wsL_law := wsL_law_r32_big _ (List.mem_of_getElem? (i := 21) rfl)
theorem bw573 : Cond.code yX1_whoKnows cX1_whoKnows 1 (some .int) ∈ wsL_law := wsL_law_r26_big _ (List.mem_of_getElem? (i := 4) rfl)
theorem bw574 : Cond.instanceMethod yX1_whoKnows ∈ wsL_law := wsL_law_r26_big _ (List.mem_of_getElem? (i := 2) rfl)
theorem bw575 : Cond.selects RX1 yX1_whoKnows yX1_whoKnows ∈ wsL_law := wsL_law_r26_big _ (List.mem_of_getElem? (i := 3) rfl)
theorem bw576 : Cond.initialized RX2 ∈ wsL_law := wsL_law_r2_big _ (List.mem_of_getElem? (i := 20) rfl)
theorem bw577 : Cond.code yX2_answer cX2_answer 2 (some .int) ∈ wsL_law := wsL_law_r35_big _ (List.mem_of_getElem? (i := 13) rfl)
theorem bw578 : Cond.instanceMethod yX2_answer ∈ wsL_law := wsL_law_r35_big _ (List.mem_of_getElem? (i := 11) rfl)
theorem bw579 : Cond.selects RX2 yX2_answer yX2_answer ∈ wsL_law := wsL_law_r35_big _ (List.mem_of_getElem? (i := 12) rfl)
theorem bw580 : Cond.code yX2_findByTwo cX2_findByTwo 3 none ∈ wsL_law := wsL_law_r35_big _ (List.mem_of_getElem? (i := 5) rfl)
theorem bw581 : Cond.instanceMethod yX2_findByTwo ∈ wsL_law := wsL_law_r35_big _ (List.mem_of_getElem? (i := 3) rfl)
theorem bw582 : Cond.selects RX2 yX2_findByTwo yX2_findByTwo ∈ wsL_law := wsL_law_r35_big _ (List.mem_of_getElem? (i := 4) rfl)
theorem bw583 : Cond.code yX2_fittingWidth cX2_fittingWidth 4 (some .int) ∈ wsL_law := wsL_law_r34_big _ (List.mem_of_getElem? (i := 19) rfl)
theorem bw584 : Cond.instanceMethod yX2_fittingWidth ∈ wsL_law := wsL_law_r34_big _ (List.mem_of_getElem? (i := 17) rfl)
theorem bw585 : Cond.selects RX2 yX2_fittingWidth yX2_fittingWidth ∈ wsL_law := wsL_law_r34_big _ (List.mem_of_getElem? (i := 18) rfl)
theorem bw586 : Cond.code yX2_found cX2_found 4 none ∈ wsL_law := wsL_law_r33_big _ (List.mem_of_getElem? (i := 23) rfl)
theorem bw587 : Cond.instanceMethod yX2_found ∈ wsL_law := wsL_law_r33_big _ (List.mem_of_getElem? (i := 21) rfl)
theorem bw588 : Cond.selects RX2 yX2_found yX2_found ∈ wsL_law := wsL_law_r33_big _ (List.mem_of_getElem? (i := 22) rfl)
theorem bw589 : Cond.code yX2_isFoundByNone cX2_isFoundByNone 1 (some .boolean) ∈ wsL_law := wsL_law_r34_big _ (List.mem_of_getElem? (i := 4) rfl)
theorem bw590 : Cond.instanceMethod yX2_isFoundByNone ∈ wsL_law := wsL_law_r34_big _ (List.mem_of_getElem? (i := 2) rfl)
theorem bw591 : Cond.selects RX2 yX2_isFoundByNone yX2_isFoundByNone ∈ wsL_law := wsL_law_r34_big _ (List.mem_of_getElem? (i := 3) rfl)
theorem bw592 : Cond.code yX2_isFoundByOne cX2_isFoundByOne 3 (some .boolean) ∈ wsL_law := wsL_law_r34_big _ (List.mem_of_getElem? (i := 14) rfl)
theorem bw593 : Cond.instanceMethod yX2_isFoundByOne ∈ wsL_law := wsL_law_r34_big _ (List.mem_of_getElem? (i := 12) rfl)
theorem bw594 : Cond.selects RX2 yX2_isFoundByOne yX2_isFoundByOne ∈ wsL_law := wsL_law_r34_big _ (List.mem_of_getElem? (i := 13) rfl)
theorem bw595 : Cond.code yX2_isFoundWith cX2_isFoundWith 5 (some .boolean) ∈ wsL_law := wsL_law_r35_big _ (List.mem_of_getElem? (i := 9) rfl)
theorem bw596 : Cond.instanceMethod yX2_isFoundWith ∈ wsL_law := wsL_law_r35_big _ (List.mem_of_getElem? (i := 7) rfl)
theorem bw597 : Cond.selects RX2 yX2_isFoundWith yX2_isFoundWith ∈ wsL_law := wsL_law_r35_big _ (List.mem_of_getElem? (i := 8) rfl)
theorem bw598 : Cond.code yX2_isSo cX2_isSo 2 (some .boolean) ∈ wsL_law := wsL_law_r34_big _ (List.mem_of_getElem? (i := 10) rfl)
theorem bw599 : Cond.instanceMethod yX2_isSo ∈ wsL_law := wsL_law_r34_big _ (List.mem_of_getElem? (i := 8) rfl)
theorem bw600 : Cond.selects RX2 yX2_isSo yX2_isSo ∈ wsL_law := wsL_law_r34_big _ (List.mem_of_getElem? (i := 9) rfl)
theorem bw601 : Cond.code yX2_pose cX2_pose 5 none ∈ wsL_law := wsL_law_r33_big _ (List.mem_of_getElem? (i := 19) rfl)
theorem bw602 : Cond.instanceMethod yX2_pose ∈ wsL_law := wsL_law_r33_big _ (List.mem_of_getElem? (i := 17) rfl)
theorem bw603 : Cond.selects RX2 yX2_pose yX2_pose ∈ wsL_law := wsL_law_r33_big _ (List.mem_of_getElem? (i := 18) rfl)
theorem bw604 : Cond.initialized RX3 ∈ wsL_law := wsL_law_r2_big _ (List.mem_of_getElem? (i := 16) rfl)
theorem bw605 : Cond.code yX3_bestToOpen cX3_bestToOpen 5 (some .int) ∈ wsL_law := wsL_law_r37_big _ (List.mem_of_getElem? (i := 9) rfl)
theorem bw606 : Cond.instanceMethod yX3_bestToOpen ∈ wsL_law := wsL_law_r37_big _ (List.mem_of_getElem? (i := 7) rfl)
theorem bw607 : Cond.selects RX3 yX3_bestToOpen yX3_bestToOpen ∈ wsL_law := wsL_law_r37_big _ (List.mem_of_getElem? (i := 8) rfl)
theorem bw608 : Cond.code yX3_burden cX3_burden 5 (some .int) ∈ wsL_law := wsL_law_r36_big _ (List.mem_of_getElem? (i := 15) rfl)
theorem bw609 : Cond.instanceMethod yX3_burden ∈ wsL_law := wsL_law_r36_big _ (List.mem_of_getElem? (i := 13) rfl)
theorem bw610 : Cond.selects RX3 yX3_burden yX3_burden ∈ wsL_law := wsL_law_r36_big _ (List.mem_of_getElem? (i := 14) rfl)
theorem bw611 : Cond.code yX3_fewestStuffed cX3_fewestStuffed 7 (some .int) ∈ wsL_law := wsL_law_r32_big _ (List.mem_of_getElem? (i := 12) rfl)
theorem bw612 : Cond.instanceMethod yX3_fewestStuffed ∈ wsL_law := wsL_law_r32_big _ (List.mem_of_getElem? (i := 10) rfl)
theorem bw613 : Cond.selects RX3 yX3_fewestStuffed yX3_fewestStuffed ∈ wsL_law := wsL_law_r32_big _ (List.mem_of_getElem? (i := 11) rfl)
theorem bw614 : Cond.code yX3_firstHeard cX3_firstHeard 5 (some .int) ∈ wsL_law := wsL_law_r31_big _ (List.mem_of_getElem? (i := 0) rfl)
theorem bw615 : Cond.instanceMethod yX3_firstHeard ∈ wsL_law := wsL_law_r30_big _ (List.mem_of_getElem? (i := 22) rfl)
theorem bw616 : Cond.selects RX3 yX3_firstHeard yX3_firstHeard ∈ wsL_law := wsL_law_r30_big _ (List.mem_of_getElem? (i := 23) rfl)
theorem bw617 : Cond.code yX3_hearsInSpite cX3_hearsInSpite 8 (some .boolean) ∈ wsL_law := wsL_law_r37_big _ (List.mem_of_getElem? (i := 13) rfl)
theorem bw618 : Cond.instanceMethod yX3_hearsInSpite ∈ wsL_law := wsL_law_r37_big _ (List.mem_of_getElem? (i := 11) rfl)
theorem bw619 : Cond.selects RX3 yX3_hearsInSpite yX3_hearsInSpite ∈ wsL_law := wsL_law_r37_big _ (List.mem_of_getElem? (i := 12) rfl)
theorem bw620 : Cond.code yX3_knownBehind cX3_knownBehind 5 (some .int) ∈ wsL_law := wsL_law_r30_big _ (List.mem_of_getElem? (i := 5) rfl)
theorem bw621 : Cond.instanceMethod yX3_knownBehind ∈ wsL_law := wsL_law_r30_big _ (List.mem_of_getElem? (i := 3) rfl)
theorem bw622 : Cond.selects RX3 yX3_knownBehind yX3_knownBehind ∈ wsL_law := wsL_law_r30_big _ (List.mem_of_getElem? (i := 4) rfl)
theorem bw623 : Cond.code yX3_latestHouse cX3_latestHouse 6 (some .int) ∈ wsL_law := wsL_law_r31_big _ (List.mem_of_getElem? (i := 22) rfl)
theorem bw624 : Cond.instanceMethod yX3_latestHouse ∈ wsL_law := wsL_law_r31_big _ (List.mem_of_getElem? (i := 20) rfl)
theorem bw625 : Cond.selects RX3 yX3_latestHouse yX3_latestHouse ∈ wsL_law := wsL_law_r31_big _ (List.mem_of_getElem? (i := 21) rfl)
theorem bw626 : Cond.code yX3_widestBorne cX3_widestBorne 4 (some .int) ∈ wsL_law := wsL_law_r36_big _ (List.mem_of_getElem? (i := 11) rfl)
theorem bw627 : Cond.instanceMethod yX3_widestBorne ∈ wsL_law := wsL_law_r36_big _ (List.mem_of_getElem? (i := 9) rfl)
theorem bw628 : Cond.selects RX3 yX3_widestBorne yX3_widestBorne ∈ wsL_law := wsL_law_r36_big _ (List.mem_of_getElem? (i := 10) rfl)
theorem bw629 : Cond.initialized RX4 ∈ wsL_law := wsL_law_r1_big _ (List.mem_of_getElem? (i := 22) rfl)
theorem bw630 : Cond.code yX4_allHouses cX4_allHouses 1 (some .int) ∈ wsL_law := wsL_law_r32_big _ (List.mem_of_getElem? (i := 17) rfl)
theorem bw631 : Cond.instanceMethod yX4_allHouses ∈ wsL_law := wsL_law_r32_big _ (List.mem_of_getElem? (i := 15) rfl)
theorem bw632 : Cond.selects RX4 yX4_allHouses yX4_allHouses ∈ wsL_law := wsL_law_r32_big _ (List.mem_of_getElem? (i := 16) rfl)
theorem bw633 : Cond.code yX4_beginningOf cX4_beginningOf 2 (some .int) ∈ wsL_law := wsL_law_r13_big _ (List.mem_of_getElem? (i := 8) rfl)
theorem bw634 : Cond.instanceMethod yX4_beginningOf ∈ wsL_law := wsL_law_r13_big _ (List.mem_of_getElem? (i := 6) rfl)
theorem bw635 : Cond.selects RX4 yX4_beginningOf yX4_beginningOf ∈ wsL_law := wsL_law_r13_big _ (List.mem_of_getElem? (i := 7) rfl)
theorem bw636 : Cond.code yX4_clear cX4_clear 1 none ∈ wsL_law := wsL_law_r10_big _ (List.mem_of_getElem? (i := 2) rfl)
theorem bw637 : Cond.instanceMethod yX4_clear ∈ wsL_law := wsL_law_r10_big _ (List.mem_of_getElem? (i := 0) rfl)
theorem bw638 : Cond.selects RX4 yX4_clear yX4_clear ∈ wsL_law := wsL_law_r10_big _ (List.mem_of_getElem? (i := 1) rfl)
theorem bw639 : Cond.code yX4_columns cX4_columns 1 (some .int) ∈ wsL_law := wsL_law_r25_big _ (List.mem_of_getElem? (i := 0) rfl)
theorem bw640 : Cond.instanceMethod yX4_columns ∈ wsL_law := wsL_law_r24_big _ (List.mem_of_getElem? (i := 22) rfl)
theorem bw641 : Cond.selects RX4 yX4_columns yX4_columns ∈ wsL_law := wsL_law_r24_big _ (List.mem_of_getElem? (i := 23) rfl)
theorem bw642 : Cond.code yX4_firstColumn cX4_firstColumn 1 (some .int) ∈ wsL_law := wsL_law_r25_big _ (List.mem_of_getElem? (i := 4) rfl)
theorem bw643 : Cond.instanceMethod yX4_firstColumn ∈ wsL_law := wsL_law_r25_big _ (List.mem_of_getElem? (i := 2) rfl)
theorem bw644 : Cond.selects RX4 yX4_firstColumn yX4_firstColumn ∈ wsL_law := wsL_law_r25_big _ (List.mem_of_getElem? (i := 3) rfl)
theorem bw645 : Cond.code yX4_hasHouse cX4_hasHouse 2 (some .boolean) ∈ wsL_law := wsL_law_r11_big _ (List.mem_of_getElem? (i := 21) rfl)
theorem bw646 : Cond.instanceMethod yX4_hasHouse ∈ wsL_law := wsL_law_r11_big _ (List.mem_of_getElem? (i := 19) rfl)
theorem bw647 : Cond.selects RX4 yX4_hasHouse yX4_hasHouse ∈ wsL_law := wsL_law_r11_big _ (List.mem_of_getElem? (i := 20) rfl)
theorem bw648 : Cond.code yX4_hasHouses cX4_hasHouses 2 (some .boolean) ∈ wsL_law := wsL_law_r33_big _ (List.mem_of_getElem? (i := 14) rfl)
theorem bw649 : Cond.instanceMethod yX4_hasHouses ∈ wsL_law := wsL_law_r33_big _ (List.mem_of_getElem? (i := 12) rfl)
theorem bw650 : Cond.selects RX4 yX4_hasHouses yX4_hasHouses ∈ wsL_law := wsL_law_r33_big _ (List.mem_of_getElem? (i := 13) rfl)
theorem bw651 : Cond.code yX4_hasNews cX4_hasNews 2 (some .boolean) ∈ wsL_law := wsL_law_r13_big _ (List.mem_of_getElem? (i := 4) rfl)
theorem bw652 : Cond.instanceMethod yX4_hasNews ∈ wsL_law := wsL_law_r13_big _ (List.mem_of_getElem? (i := 2) rfl)
theorem bw653 : Cond.selects RX4 yX4_hasNews yX4_hasNews ∈ wsL_law := wsL_law_r13_big _ (List.mem_of_getElem? (i := 3) rfl)
theorem bw654 : Cond.code yX4_houses cX4_houses 1 (some .int) ∈ wsL_law := wsL_law_r12_big _ (List.mem_of_getElem? (i := 1) rfl)
theorem bw655 : Cond.instanceMethod yX4_houses ∈ wsL_law := wsL_law_r11_big _ (List.mem_of_getElem? (i := 23) rfl)
theorem bw656 : Cond.selects RX4 yX4_houses yX4_houses ∈ wsL_law := wsL_law_r12_big _ (List.mem_of_getElem? (i := 0) rfl)
theorem bw657 : Cond.code yX4_kindOf cX4_kindOf 2 (some .int) ∈ wsL_law := wsL_law_r19_big _ (List.mem_of_getElem? (i := 14) rfl)
theorem bw658 : Cond.instanceMethod yX4_kindOf ∈ wsL_law := wsL_law_r19_big _ (List.mem_of_getElem? (i := 12) rfl)
theorem bw659 : Cond.selects RX4 yX4_kindOf yX4_kindOf ∈ wsL_law := wsL_law_r19_big _ (List.mem_of_getElem? (i := 13) rfl)
theorem bw660 : Cond.code yX4_lastColumn cX4_lastColumn 1 (some .int) ∈ wsL_law := wsL_law_r25_big _ (List.mem_of_getElem? (i := 8) rfl)
theorem bw661 : Cond.instanceMethod yX4_lastColumn ∈ wsL_law := wsL_law_r25_big _ (List.mem_of_getElem? (i := 6) rfl)
theorem bw662 : Cond.selects RX4 yX4_lastColumn yX4_lastColumn ∈ wsL_law := wsL_law_r25_big _ (List.mem_of_getElem? (i := 7) rfl)
theorem bw663 : Cond.code yX4_newsKindOf cX4_newsKindOf 2 (some .int) ∈ wsL_law := wsL_law_r21_big _ (List.mem_of_getElem? (i := 10) rfl)
theorem bw664 : Cond.instanceMethod yX4_newsKindOf ∈ wsL_law := wsL_law_r21_big _ (List.mem_of_getElem? (i := 8) rfl)
theorem bw665 : Cond.selects RX4 yX4_newsKindOf yX4_newsKindOf ∈ wsL_law := wsL_law_r21_big _ (List.mem_of_getElem? (i := 9) rfl)
theorem bw666 : Cond.code yX4_newsTold cX4_newsTold 1 (some .int) ∈ wsL_law := wsL_law_r12_big _ (List.mem_of_getElem? (i := 16) rfl)
theorem bw667 : Cond.instanceMethod yX4_newsTold ∈ wsL_law := wsL_law_r12_big _ (List.mem_of_getElem? (i := 14) rfl)
theorem bw668 : Cond.selects RX4 yX4_newsTold yX4_newsTold ∈ wsL_law := wsL_law_r12_big _ (List.mem_of_getElem? (i := 15) rfl)
theorem bw669 : Cond.code yX4_rows cX4_rows 1 (some .int) ∈ wsL_law := wsL_law_r45_big _ (List.mem_of_getElem? (i := 15) rfl)
theorem bw670 : Cond.instanceMethod yX4_rows ∈ wsL_law := wsL_law_r45_big _ (List.mem_of_getElem? (i := 13) rfl)
theorem bw671 : Cond.selects RX4 yX4_rows yX4_rows ∈ wsL_law := wsL_law_r45_big _ (List.mem_of_getElem? (i := 14) rfl)
theorem bw672 : Cond.code yX4_sashOf cX4_sashOf 2 (some .int) ∈ wsL_law := wsL_law_r13_big _ (List.mem_of_getElem? (i := 0) rfl)
theorem bw673 : Cond.instanceMethod yX4_sashOf ∈ wsL_law := wsL_law_r12_big _ (List.mem_of_getElem? (i := 22) rfl)
theorem bw674 : Cond.selects RX4 yX4_sashOf yX4_sashOf ∈ wsL_law := wsL_law_r12_big _ (List.mem_of_getElem? (i := 23) rfl)
theorem bw675 : Cond.code yX4_take cX4_take 7 (some .boolean) ∈ wsL_law := wsL_law_r11_big _ (List.mem_of_getElem? (i := 13) rfl)
theorem bw676 : Cond.instanceMethod yX4_take ∈ wsL_law := wsL_law_r11_big _ (List.mem_of_getElem? (i := 11) rfl)
theorem bw677 : Cond.selects RX4 yX4_take yX4_take ∈ wsL_law := wsL_law_r11_big _ (List.mem_of_getElem? (i := 12) rfl)
theorem bw678 : Cond.code yX4_takeGrid cX4_takeGrid 4 (some .boolean) ∈ wsL_law := wsL_law_r10_big _ (List.mem_of_getElem? (i := 8) rfl)
theorem bw679 : Cond.instanceMethod yX4_takeGrid ∈ wsL_law := wsL_law_r10_big _ (List.mem_of_getElem? (i := 6) rfl)
theorem bw680 : Cond.selects RX4 yX4_takeGrid yX4_takeGrid ∈ wsL_law := wsL_law_r10_big _ (List.mem_of_getElem? (i := 7) rfl)
theorem bw681 : Cond.code yX4_takeHouse cX4_takeHouse 4 (some .boolean) ∈ wsL_law := wsL_law_r11_big _ (List.mem_of_getElem? (i := 17) rfl)
theorem bw682 : Cond.instanceMethod yX4_takeHouse ∈ wsL_law := wsL_law_r11_big _ (List.mem_of_getElem? (i := 15) rfl)
theorem bw683 : Cond.selects RX4 yX4_takeHouse yX4_takeHouse ∈ wsL_law := wsL_law_r11_big _ (List.mem_of_getElem? (i := 16) rfl)
theorem bw684 : Cond.code yX4_takeNews cX4_takeNews 4 (some .boolean) ∈ wsL_law := wsL_law_r12_big _ (List.mem_of_getElem? (i := 8) rfl)
theorem bw685 : Cond.instanceMethod yX4_takeNews ∈ wsL_law := wsL_law_r12_big _ (List.mem_of_getElem? (i := 6) rfl)
theorem bw686 : Cond.selects RX4 yX4_takeNews yX4_takeNews ∈ wsL_law := wsL_law_r12_big _ (List.mem_of_getElem? (i := 7) rfl)
theorem bw687 : Cond.code yX4_takeWind cX4_takeWind 2 (some .boolean) ∈ wsL_law := wsL_law_r12_big _ (List.mem_of_getElem? (i := 12) rfl)
theorem bw688 : Cond.instanceMethod yX4_takeWind ∈ wsL_law := wsL_law_r12_big _ (List.mem_of_getElem? (i := 10) rfl)
theorem bw689 : Cond.selects RX4 yX4_takeWind yX4_takeWind ∈ wsL_law := wsL_law_r12_big _ (List.mem_of_getElem? (i := 11) rfl)
theorem bw690 : Cond.code yX4_weightOf cX4_weightOf 2 (some .int) ∈ wsL_law := wsL_law_r21_big _ (List.mem_of_getElem? (i := 14) rfl)
theorem bw691 : Cond.instanceMethod yX4_weightOf ∈ wsL_law := wsL_law_r21_big _ (List.mem_of_getElem? (i := 12) rfl)
theorem bw692 : Cond.selects RX4 yX4_weightOf yX4_weightOf ∈ wsL_law := wsL_law_r21_big _ (List.mem_of_getElem? (i := 13) rfl)
theorem bw693 : Cond.code yX4_windOf cX4_windOf 3 (some .int) ∈ wsL_law := wsL_law_r22_big _ (List.mem_of_getElem? (i := 22) rfl)
theorem bw694 : Cond.instanceMethod yX4_windOf ∈ wsL_law := wsL_law_r22_big _ (List.mem_of_getElem? (i := 20) rfl)
theorem bw695 : Cond.selects RX4 yX4_windOf yX4_windOf ∈ wsL_law := wsL_law_r22_big _ (List.mem_of_getElem? (i := 21) rfl)
theorem bw696 : Cond.code yX4_windsInTurn cX4_windsInTurn 1 (some .int) ∈ wsL_law := wsL_law_r23_big _ (List.mem_of_getElem? (i := 2) rfl)
theorem bw697 : Cond.instanceMethod yX4_windsInTurn ∈ wsL_law := wsL_law_r23_big _ (List.mem_of_getElem? (i := 0) rfl)
theorem bw698 : Cond.selects RX4 yX4_windsInTurn yX4_windsInTurn ∈ wsL_law := wsL_law_r23_big _ (List.mem_of_getElem? (i := 1) rfl)
theorem bw699 : Cond.initialized RX5 ∈ wsL_law := wsL_law_r2_big _ (List.mem_of_getElem? (i := 7) rfl)
theorem bw700 : Cond.code yX5_clear cX5_clear 1 none ∈ wsL_law := wsL_law_r13_big _ (List.mem_of_getElem? (i := 12) rfl)
theorem bw701 : Cond.instanceMethod yX5_clear ∈ wsL_law := wsL_law_r13_big _ (List.mem_of_getElem? (i := 10) rfl)
theorem bw702 : Cond.selects RX5 yX5_clear yX5_clear ∈ wsL_law := wsL_law_r13_big _ (List.mem_of_getElem? (i := 11) rfl)
theorem bw703 : Cond.code yX5_isFull cX5_isFull 1 (some .boolean) ∈ wsL_law := wsL_law_r24_big _ (List.mem_of_getElem? (i := 14) rfl)
theorem bw704 : Cond.instanceMethod yX5_isFull ∈ wsL_law := wsL_law_r24_big _ (List.mem_of_getElem? (i := 12) rfl)
theorem bw705 : Cond.selects RX5 yX5_isFull yX5_isFull ∈ wsL_law := wsL_law_r24_big _ (List.mem_of_getElem? (i := 13) rfl)
theorem bw706 : Cond.code yX5_placeOf cX5_placeOf 3 (some (.object "NewsDraughts$Standing")) ∈ wsL_law := wsL_law_r24_big _ (List.mem_of_getElem? (i := 2) rfl)
theorem bw707 : Cond.instanceMethod yX5_placeOf ∈ wsL_law := wsL_law_r24_big _ (List.mem_of_getElem? (i := 0) rfl)
theorem bw708 : Cond.selects RX5 yX5_placeOf yX5_placeOf ∈ wsL_law := wsL_law_r24_big _ (List.mem_of_getElem? (i := 1) rfl)
theorem bw709 : Cond.code yX5_popInto cX5_popInto 3 (some .boolean) ∈ wsL_law := wsL_law_r29_big _ (List.mem_of_getElem? (i := 13) rfl)
theorem bw710 : Cond.instanceMethod yX5_popInto ∈ wsL_law := wsL_law_r29_big _ (List.mem_of_getElem? (i := 11) rfl)
theorem bw711 : Cond.selects RX5 yX5_popInto yX5_popInto ∈ wsL_law := wsL_law_r29_big _ (List.mem_of_getElem? (i := 12) rfl)
theorem bw712 : Cond.code yX5_push cX5_push 3 none ∈ wsL_law := wsL_law_r23_big _ (List.mem_of_getElem? (i := 22) rfl)
theorem bw713 : Cond.instanceMethod yX5_push ∈ wsL_law := wsL_law_r23_big _ (List.mem_of_getElem? (i := 20) rfl)
theorem bw714 : Cond.selects RX5 yX5_push yX5_push ∈ wsL_law := wsL_law_r23_big _ (List.mem_of_getElem? (i := 21) rfl)
theorem bw715 : Cond.code yX5_size cX5_size 1 (some .int) ∈ wsL_law := wsL_law_r29_big _ (List.mem_of_getElem? (i := 17) rfl)
theorem bw716 : Cond.instanceMethod yX5_size ∈ wsL_law := wsL_law_r29_big _ (List.mem_of_getElem? (i := 15) rfl)
theorem bw717 : Cond.selects RX5 yX5_size yX5_size ∈ wsL_law := wsL_law_r29_big _ (List.mem_of_getElem? (i := 16) rfl)
theorem bw718 : Cond.initialized RX6 ∈ wsL_law := wsL_law_r1_big _ (List.mem_of_getElem? (i := 18) rfl)
theorem bw719 : Cond.code yX6_isFigure cX6_isFigure 1 (some .boolean) ∈ wsL_law := wsL_law_r11_big _ (List.mem_of_getElem? (i := 9) rfl)
theorem bw720 : Cond.static yX6_isFigure ∈ wsL_law := wsL_law_r11_big _ (List.mem_of_getElem? (i := 8) rfl)
theorem bw721 : Cond.code yX6_readInto cX6_readInto 5 (some .int) ∈ wsL_law := wsL_law_r9_big _ (List.mem_of_getElem? (i := 22) rfl)
theorem bw722 : Cond.instanceMethod yX6_readInto ∈ wsL_law := wsL_law_r9_big _ (List.mem_of_getElem? (i := 20) rfl)
theorem bw723 : Cond.selects RX6 yX6_readInto yX6_readInto ∈ wsL_law := wsL_law_r9_big _ (List.mem_of_getElem? (i := 21) rfl)
theorem bw724 : Cond.code yX6_readNumber cX6_readNumber 3 (some .int) ∈ wsL_law := wsL_law_r11_big _ (List.mem_of_getElem? (i := 0) rfl)
theorem bw725 : Cond.instanceMethod yX6_readNumber ∈ wsL_law := wsL_law_r10_big _ (List.mem_of_getElem? (i := 22) rfl)
theorem bw726 : Cond.selects RX6 yX6_readNumber yX6_readNumber ∈ wsL_law := wsL_law_r10_big _ (List.mem_of_getElem? (i := 23) rfl)
theorem bw727 : Cond.code yX6_readNumbers cX6_readNumbers 4 (some .int) ∈ wsL_law := wsL_law_r10_big _ (List.mem_of_getElem? (i := 20) rfl)
theorem bw728 : Cond.instanceMethod yX6_readNumbers ∈ wsL_law := wsL_law_r10_big _ (List.mem_of_getElem? (i := 18) rfl)
theorem bw729 : Cond.selects RX6 yX6_readNumbers yX6_readNumbers ∈ wsL_law := wsL_law_r10_big _ (List.mem_of_getElem? (i := 19) rfl)
theorem bw730 : Cond.initialized RX7 ∈ wsL_law := wsL_law_r1_big _ (List.mem_of_getElem? (i := 14) rfl)
theorem bw731 : Cond.code yX7_add cX7_add 2 (some .boolean) ∈ wsL_law := wsL_law_r9_big _ (List.mem_of_getElem? (i := 12) rfl)
theorem bw732 : Cond.instanceMethod yX7_add ∈ wsL_law := wsL_law_r9_big _ (List.mem_of_getElem? (i := 10) rfl)
theorem bw733 : Cond.selects RX7 yX7_add yX7_add ∈ wsL_law := wsL_law_r9_big _ (List.mem_of_getElem? (i := 11) rfl)
theorem bw734 : Cond.code yX7_clear cX7_clear 1 none ∈ wsL_law := wsL_law_r13_big _ (List.mem_of_getElem? (i := 20) rfl)
theorem bw735 : Cond.instanceMethod yX7_clear ∈ wsL_law := wsL_law_r13_big _ (List.mem_of_getElem? (i := 18) rfl)
theorem bw736 : Cond.selects RX7 yX7_clear yX7_clear ∈ wsL_law := wsL_law_r13_big _ (List.mem_of_getElem? (i := 19) rfl)
theorem bw737 : Cond.code yX7_length cX7_length 1 (some .int) ∈ wsL_law := wsL_law_r10_big _ (List.mem_of_getElem? (i := 16) rfl)
theorem bw738 : Cond.instanceMethod yX7_length ∈ wsL_law := wsL_law_r10_big _ (List.mem_of_getElem? (i := 14) rfl)
theorem bw739 : Cond.selects RX7 yX7_length yX7_length ∈ wsL_law := wsL_law_r10_big _ (List.mem_of_getElem? (i := 15) rfl)
theorem bw740 : Cond.code yX7_letterAt cX7_letterAt 2 (some .int) ∈ wsL_law := wsL_law_r11_big _ (List.mem_of_getElem? (i := 4) rfl)
theorem bw741 : Cond.instanceMethod yX7_letterAt ∈ wsL_law := wsL_law_r11_big _ (List.mem_of_getElem? (i := 2) rfl)
theorem bw742 : Cond.selects RX7 yX7_letterAt yX7_letterAt ∈ wsL_law := wsL_law_r11_big _ (List.mem_of_getElem? (i := 3) rfl)
theorem bw743 : Cond.initialized RX8 ∈ wsL_law := wsL_law_r3_big _ (List.mem_of_getElem? (i := 4) rfl)
theorem bw744 : Cond.code yX8_add cX8_add 5 (some .boolean) ∈ wsL_law := wsL_law_r38_big _ (List.mem_of_getElem? (i := 23) rfl)
theorem bw745 : Cond.instanceMethod yX8_add ∈ wsL_law := wsL_law_r38_big _ (List.mem_of_getElem? (i := 21) rfl)
theorem bw746 : Cond.selects RX8 yX8_add yX8_add ∈ wsL_law := wsL_law_r38_big _ (List.mem_of_getElem? (i := 22) rfl)
theorem bw747 : Cond.code yX8_allSoBy cX8_allSoBy 4 (some .boolean) ∈ wsL_law := wsL_law_r41_big _ (List.mem_of_getElem? (i := 10) rfl)
theorem bw748 : Cond.instanceMethod yX8_allSoBy ∈ wsL_law := wsL_law_r41_big _ (List.mem_of_getElem? (i := 8) rfl)
theorem bw749 : Cond.selects RX8 yX8_allSoBy yX8_allSoBy ∈ wsL_law := wsL_law_r41_big _ (List.mem_of_getElem? (i := 9) rfl)
theorem bw750 : Cond.code yX8_allSoFrom cX8_allSoFrom 4 (some .boolean) ∈ wsL_law := wsL_law_r40_big _ (List.mem_of_getElem? (i := 4) rfl)
theorem bw751 : Cond.instanceMethod yX8_allSoFrom ∈ wsL_law := wsL_law_r40_big _ (List.mem_of_getElem? (i := 2) rfl)
theorem bw752 : Cond.selects RX8 yX8_allSoFrom yX8_allSoFrom ∈ wsL_law := wsL_law_r40_big _ (List.mem_of_getElem? (i := 3) rfl)
theorem bw753 : Cond.code yX8_beginnings cX8_beginnings 4 (some .int) ∈ wsL_law := wsL_law_r39_big _ (List.mem_of_getElem? (i := 23) rfl)
theorem bw754 : Cond.instanceMethod yX8_beginnings ∈ wsL_law := wsL_law_r39_big _ (List.mem_of_getElem? (i := 21) rfl)
theorem bw755 : Cond.selects RX8 yX8_beginnings yX8_beginnings ∈ wsL_law := wsL_law_r39_big _ (List.mem_of_getElem? (i := 22) rfl)
theorem bw756 : Cond.code yX8_clear cX8_clear 1 none ∈ wsL_law := wsL_law_r13_big _ (List.mem_of_getElem? (i := 16) rfl)
theorem bw757 : Cond.instanceMethod yX8_clear ∈ wsL_law := wsL_law_r13_big _ (List.mem_of_getElem? (i := 14) rfl)
theorem bw758 : Cond.selects RX8 yX8_clear yX8_clear ∈ wsL_law := wsL_law_r13_big _ (List.mem_of_getElem? (i := 15) rfl)
theorem bw759 : Cond.code yX8_isSo cX8_isSo 3 (some .boolean) ∈ wsL_law := wsL_law_r40_big _ (List.mem_of_getElem? (i := 10) rfl)
theorem bw760 : Cond.instanceMethod yX8_isSo ∈ wsL_law := wsL_law_r40_big _ (List.mem_of_getElem? (i := 8) rfl)
theorem bw761 : Cond.selects RX8 yX8_isSo yX8_isSo ∈ wsL_law := wsL_law_r40_big _ (List.mem_of_getElem? (i := 9) rfl)
theorem bw762 : Cond.code yX8_nextWinds cX8_nextWinds 3 (some .int) ∈ wsL_law := wsL_law_r41_big _ (List.mem_of_getElem? (i := 6) rfl)
theorem bw763 : Cond.instanceMethod yX8_nextWinds ∈ wsL_law := wsL_law_r41_big _ (List.mem_of_getElem? (i := 4) rfl)
theorem bw764 : Cond.selects RX8 yX8_nextWinds yX8_nextWinds ∈ wsL_law := wsL_law_r41_big _ (List.mem_of_getElem? (i := 5) rfl)
theorem bw765 : Cond.code yX8_size cX8_size 1 (some .int) ∈ wsL_law := wsL_law_r39_big _ (List.mem_of_getElem? (i := 3) rfl)
theorem bw766 : Cond.instanceMethod yX8_size ∈ wsL_law := wsL_law_r39_big _ (List.mem_of_getElem? (i := 1) rfl)
theorem bw767 : Cond.selects RX8 yX8_size yX8_size ∈ wsL_law := wsL_law_r39_big _ (List.mem_of_getElem? (i := 2) rfl)
theorem bw768 : Cond.initialized RX9 ∈ wsL_law := wsL_law_r2_big _ (List.mem_of_getElem? (i := 3) rfl)
theorem bw769 : Cond.code yX9_begin cX9_begin 3 none ∈ wsL_law := wsL_law_r12_big _ (List.mem_of_getElem? (i := 20) rfl)
theorem bw770 : Cond.instanceMethod yX9_begin ∈ wsL_law := wsL_law_r12_big _ (List.mem_of_getElem? (i := 18) rfl)
theorem bw771 : Cond.selects RX9 yX9_begin yX9_begin ∈ wsL_law := wsL_law_r12_big _ (List.mem_of_getElem? (i := 19) rfl)
theorem bw772 : Cond.code yX9_copyOf cX9_copyOf 2 none ∈ wsL_law := wsL_law_r24_big _ (List.mem_of_getElem? (i := 7) rfl)
theorem bw773 : Cond.instanceMethod yX9_copyOf ∈ wsL_law := wsL_law_r24_big _ (List.mem_of_getElem? (i := 5) rfl)
theorem bw774 : Cond.selects RX9 yX9_copyOf yX9_copyOf ∈ wsL_law := wsL_law_r24_big _ (List.mem_of_getElem? (i := 6) rfl)
theorem bw775 : Cond.code yX9_goOn cX9_goOn 2 none ∈ wsL_law := wsL_law_r26_big _ (List.mem_of_getElem? (i := 23) rfl)
theorem bw776 : Cond.instanceMethod yX9_goOn ∈ wsL_law := wsL_law_r26_big _ (List.mem_of_getElem? (i := 21) rfl)
theorem bw777 : Cond.selects RX9 yX9_goOn yX9_goOn ∈ wsL_law := wsL_law_r26_big _ (List.mem_of_getElem? (i := 22) rfl)
theorem bw778 : Cond.code yX9_knownIn cX9_knownIn 4 (some .int) ∈ wsL_law := wsL_law_r19_big _ (List.mem_of_getElem? (i := 22) rfl)
theorem bw779 : Cond.instanceMethod yX9_knownIn ∈ wsL_law := wsL_law_r19_big _ (List.mem_of_getElem? (i := 20) rfl)
theorem bw780 : Cond.selects RX9 yX9_knownIn yX9_knownIn ∈ wsL_law := wsL_law_r19_big _ (List.mem_of_getElem? (i := 21) rfl)
theorem bw781 : Cond.code yX9_sashOf cX9_sashOf 2 (some .int) ∈ wsL_law := wsL_law_r19_big _ (List.mem_of_getElem? (i := 18) rfl)
theorem bw782 : Cond.instanceMethod yX9_sashOf ∈ wsL_law := wsL_law_r19_big _ (List.mem_of_getElem? (i := 16) rfl)
theorem bw783 : Cond.selects RX9 yX9_sashOf yX9_sashOf ∈ wsL_law := wsL_law_r19_big _ (List.mem_of_getElem? (i := 17) rfl)
theorem bw784 : Cond.code yX9_setSash cX9_setSash 3 none ∈ wsL_law := wsL_law_r28_big _ (List.mem_of_getElem? (i := 16) rfl)
theorem bw785 : Cond.instanceMethod yX9_setSash ∈ wsL_law := wsL_law_r28_big _ (List.mem_of_getElem? (i := 14) rfl)
theorem bw786 : Cond.selects RX9 yX9_setSash yX9_setSash ∈ wsL_law := wsL_law_r28_big _ (List.mem_of_getElem? (i := 15) rfl)
theorem bw787 : Cond.code yX9_setWhoKnows cX9_setWhoKnows 3 none ∈ wsL_law := wsL_law_r26_big _ (List.mem_of_getElem? (i := 19) rfl)
theorem bw788 : Cond.instanceMethod yX9_setWhoKnows ∈ wsL_law := wsL_law_r26_big _ (List.mem_of_getElem? (i := 17) rfl)
theorem bw789 : Cond.selects RX9 yX9_setWhoKnows yX9_setWhoKnows ∈ wsL_law := wsL_law_r26_big _ (List.mem_of_getElem? (i := 18) rfl)
theorem bw790 : Cond.code yX9_stepsGone cX9_stepsGone 1 (some .int) ∈ wsL_law := wsL_law_r22_big _ (List.mem_of_getElem? (i := 18) rfl)
theorem bw791 : Cond.instanceMethod yX9_stepsGone ∈ wsL_law := wsL_law_r22_big _ (List.mem_of_getElem? (i := 16) rfl)
theorem bw792 : Cond.selects RX9 yX9_stepsGone yX9_stepsGone ∈ wsL_law := wsL_law_r22_big _ (List.mem_of_getElem? (i := 17) rfl)
theorem bw793 : Cond.code yX9_whoKnows cX9_whoKnows 2 (some .int) ∈ wsL_law := wsL_law_r20_big _ (List.mem_of_getElem? (i := 2) rfl)
theorem bw794 : Cond.instanceMethod yX9_whoKnows ∈ wsL_law := wsL_law_r20_big _ (List.mem_of_getElem? (i := 0) rfl)
theorem bw795 : Cond.selects RX9 yX9_whoKnows yX9_whoKnows ∈ wsL_law := wsL_law_r20_big _ (List.mem_of_getElem? (i := 1) rfl)
theorem bw796 : Cond.code yX9_whoKnowsAny cX9_whoKnowsAny 3 (some .int) ∈ wsL_law := wsL_law_r45_big _ (List.mem_of_getElem? (i := 20) rfl)
theorem bw797 : Cond.instanceMethod yX9_whoKnowsAny ∈ wsL_law := wsL_law_r45_big _ (List.mem_of_getElem? (i := 18) rfl)
theorem bw798 : Cond.selects RX9 yX9_whoKnowsAny yX9_whoKnowsAny ∈ wsL_law := wsL_law_r45_big _ (List.mem_of_getElem? (i := 19) rfl)
theorem bw799 : Cond.methodLink RL 9 yX10_init ∈ wsL_law := wsL_law_r1_big _ (List.mem_of_getElem? (i := 6) rfl)
theorem bw800 : Cond.methodLink RL 12 yX11_init ∈ wsL_law := wsL_law_r13_big _ (List.mem_of_getElem? (i := 21) rfl)
theorem bw801 : Cond.methodLink RL 13 yX10_write ∈ wsL_law := wsL_law_r15_big _ (List.mem_of_getElem? (i := 23) rfl)
theorem bw802 : Cond.methodLink RL 17 yX11_write ∈ wsL_law := wsL_law_r16_big _ (List.mem_of_getElem? (i := 4) rfl)
theorem bw803 : Cond.methodLink RL 18 yX10_wipe ∈ wsL_law := wsL_law_r16_big _ (List.mem_of_getElem? (i := 12) rfl)
theorem bw804 : Cond.methodLink RL 22 yX11_wipe ∈ wsL_law := wsL_law_r16_big _ (List.mem_of_getElem? (i := 16) rfl)
theorem bw805 : Cond.methodLink RL 23 yX10_fault ∈ wsL_law := wsL_law_r16_big _ (List.mem_of_getElem? (i := 20) rfl)
theorem bw806 : Cond.methodLink RL 26 yX11_fault ∈ wsL_law := wsL_law_r17_big _ (List.mem_of_getElem? (i := 0) rfl)
theorem bw807 : Cond.methodLink RL 27 yX10_lay ∈ wsL_law := wsL_law_r18_big _ (List.mem_of_getElem? (i := 20) rfl)
theorem bw808 : Cond.methodLink RL 30 yX11_lay ∈ wsL_law := wsL_law_r19_big _ (List.mem_of_getElem? (i := 1) rfl)
theorem bw809 : Cond.methodLink RL 31 yX10_house ∈ wsL_law := wsL_law_r19_big _ (List.mem_of_getElem? (i := 6) rfl)
theorem bw810 : Cond.methodLink RL 35 yX11_house ∈ wsL_law := wsL_law_r20_big _ (List.mem_of_getElem? (i := 6) rfl)
theorem bw811 : Cond.methodLink RL 36 yX10_news ∈ wsL_law := wsL_law_r21_big _ (List.mem_of_getElem? (i := 2) rfl)
theorem bw812 : Cond.methodLink RL 39 yX11_news ∈ wsL_law := wsL_law_r22_big _ (List.mem_of_getElem? (i := 0) rfl)
theorem bw813 : Cond.methodLink RL 40 yX10_wind ∈ wsL_law := wsL_law_r22_big _ (List.mem_of_getElem? (i := 11) rfl)
theorem bw814 : Cond.methodLink RL 43 yX11_wind ∈ wsL_law := wsL_law_r23_big _ (List.mem_of_getElem? (i := 7) rfl)
theorem bw815 : Cond.methodLink RL 44 yX10_step ∈ wsL_law := wsL_law_r23_big _ (List.mem_of_getElem? (i := 15) rfl)
theorem bw816 : Cond.methodLink RL 47 yX11_step ∈ wsL_law := wsL_law_r27_big _ (List.mem_of_getElem? (i := 0) rfl)
theorem bw817 : Cond.methodLink RL 48 yX10_open ∈ wsL_law := wsL_law_r28_big _ (List.mem_of_getElem? (i := 8) rfl)
theorem bw818 : Cond.methodLink RL 51 yX11_open ∈ wsL_law := wsL_law_r28_big _ (List.mem_of_getElem? (i := 17) rfl)
theorem bw819 : Cond.methodLink RL 52 yX10_tell ∈ wsL_law := wsL_law_r28_big _ (List.mem_of_getElem? (i := 21) rfl)
theorem bw820 : Cond.methodLink RL 55 yX11_tell ∈ wsL_law := wsL_law_r29_big _ (List.mem_of_getElem? (i := 2) rfl)
theorem bw821 : Cond.methodLink RL 56 yX10_undo ∈ wsL_law := wsL_law_r29_big _ (List.mem_of_getElem? (i := 6) rfl)
theorem bw822 : Cond.methodLink RL 59 yX11_undo ∈ wsL_law := wsL_law_r29_big _ (List.mem_of_getElem? (i := 18) rfl)
theorem bw823 : Cond.methodLink RL 60 yX10_behind ∈ wsL_law := wsL_law_r29_big _ (List.mem_of_getElem? (i := 22) rfl)
theorem bw824 : Cond.methodLink RL 63 yX11_behind ∈ wsL_law := wsL_law_r30_big _ (List.mem_of_getElem? (i := 13) rfl)
theorem bw825 : Cond.methodLink RL 64 yX10_when ∈ wsL_law := wsL_law_r30_big _ (List.mem_of_getElem? (i := 17) rfl)
theorem bw826 : Cond.methodLink RL 67 yX11_when ∈ wsL_law := wsL_law_r31_big _ (List.mem_of_getElem? (i := 3) rfl)
theorem bw827 : Cond.methodLink RL 68 yX10_last ∈ wsL_law := wsL_law_r31_big _ (List.mem_of_getElem? (i := 15) rfl)
theorem bw828 : Cond.methodLink RL 71 yX11_last ∈ wsL_law := wsL_law_r32_big _ (List.mem_of_getElem? (i := 1) rfl)
theorem bw829 : Cond.methodLink RL 72 yX10_cut ∈ wsL_law := wsL_law_r32_big _ (List.mem_of_getElem? (i := 5) rfl)
theorem bw830 : Cond.methodLink RL 76 yX11_cut ∈ wsL_law := wsL_law_r32_big _ (List.mem_of_getElem? (i := 23) rfl)
theorem bw831 : Cond.methodLink RL 77 yX10_openings ∈ wsL_law := wsL_law_r33_big _ (List.mem_of_getElem? (i := 7) rfl)
theorem bw832 : Cond.methodLink RL 81 yX11_openings ∈ wsL_law := wsL_law_r35_big _ (List.mem_of_getElem? (i := 14) rfl)
theorem bw833 : Cond.methodLink RL 82 yX10_bears ∈ wsL_law := wsL_law_r36_big _ (List.mem_of_getElem? (i := 4) rfl)
theorem bw834 : Cond.methodLink RL 85 yX11_bears ∈ wsL_law := wsL_law_r36_big _ (List.mem_of_getElem? (i := 18) rfl)
theorem bw835 : Cond.methodLink RL 86 yX10_quarrel ∈ wsL_law := wsL_law_r37_big _ (List.mem_of_getElem? (i := 2) rfl)
theorem bw836 : Cond.methodLink RL 90 yX11_quarrel ∈ wsL_law := wsL_law_r38_big _ (List.mem_of_getElem? (i := 4) rfl)
theorem bw837 : Cond.methodLink RL 91 yX10_see ∈ wsL_law := wsL_law_r38_big _ (List.mem_of_getElem? (i := 16) rfl)
theorem bw838 : Cond.methodLink RL 95 yX11_see ∈ wsL_law := wsL_law_r39_big _ (List.mem_of_getElem? (i := 4) rfl)
theorem bw839 : Cond.methodLink RL 96 yX10_forget ∈ wsL_law := wsL_law_r39_big _ (List.mem_of_getElem? (i := 8) rfl)
theorem bw840 : Cond.methodLink RL 99 yX11_forget ∈ wsL_law := wsL_law_r39_big _ (List.mem_of_getElem? (i := 12) rfl)
theorem bw841 : Cond.methodLink RL 100 yX10_began ∈ wsL_law := wsL_law_r39_big _ (List.mem_of_getElem? (i := 16) rfl)
theorem bw842 : Cond.methodLink RL 103 yX11_began ∈ wsL_law := wsL_law_r40_big _ (List.mem_of_getElem? (i := 11) rfl)
theorem bw843 : Cond.methodLink RL 104 yX10_blew ∈ wsL_law := wsL_law_r40_big _ (List.mem_of_getElem? (i := 23) rfl)
theorem bw844 : Cond.methodLink RL 107 yX11_blew ∈ wsL_law := wsL_law_r41_big _ (List.mem_of_getElem? (i := 13) rfl)
theorem bw845 : Cond.methodLink RL 108 yX10_gusts ∈ wsL_law := wsL_law_r41_big _ (List.mem_of_getElem? (i := 17) rfl)
theorem bw846 : Cond.methodLink RL 111 yX11_gusts ∈ wsL_law := wsL_law_r42_big _ (List.mem_of_getElem? (i := 11) rfl)
theorem bw847 : Cond.methodLink RL 112 yX10_year ∈ wsL_law := wsL_law_r42_big _ (List.mem_of_getElem? (i := 15) rfl)
theorem bw848 : Cond.methodLink RL 115 yX11_year ∈ wsL_law := wsL_law_r43_big _ (List.mem_of_getElem? (i := 23) rfl)
theorem bw849 : Cond.methodLink RL 116 yX10_keep ∈ wsL_law := wsL_law_r44_big _ (List.mem_of_getElem? (i := 15) rfl)
theorem bw850 : Cond.methodLink RL 119 yX11_keep ∈ wsL_law := wsL_law_r44_big _ (List.mem_of_getElem? (i := 20) rfl)
theorem bw851 : Cond.methodLink RL 120 yX10_back ∈ wsL_law := wsL_law_r45_big _ (List.mem_of_getElem? (i := 0) rfl)
theorem bw852 : Cond.methodLink RL 123 yX11_back ∈ wsL_law := wsL_law_r45_big _ (List.mem_of_getElem? (i := 4) rfl)
theorem bw853 : Cond.methodLink RL 124 yX10_count ∈ wsL_law := wsL_law_r45_big _ (List.mem_of_getElem? (i := 8) rfl)
theorem bw854 : Cond.methodLink RL 127 yX11_count ∈ wsL_law := wsL_law_r45_big _ (List.mem_of_getElem? (i := 21) rfl)
theorem nst_RX10_9 : (RX10, 9, yX7_init, RX10) ∈ nestL := List.mem_of_getElem? (i := 0) rfl
theorem nst_RX10_27 : (RX10, 27, yX4_init, RX10) ∈ nestL := List.mem_of_getElem? (i := 1) rfl
theorem nst_RX10_37 : (RX10, 37, yX9_init, RX10) ∈ nestL := List.mem_of_getElem? (i := 2) rfl
theorem nst_RX5_22 : (RX5, 22, yX9_init, RX10) ∈ nestL := List.mem_of_getElem? (i := 3) rfl
theorem nst_RX7_19 : (RX7, 19, yX10_put, RX10) ∈ nestL := List.mem_of_getElem? (i := 4) rfl
theorem nst_RX4_53 : (RX4, 53, yX10_fill, RX10) ∈ nestL := List.mem_of_getElem? (i := 5) rfl
theorem nst_RX4_76 : (RX4, 76, yX10_within, RX10) ∈ nestL := List.mem_of_getElem? (i := 6) rfl
theorem nst_RX4_79 : (RX4, 79, yX10_bit, RX10) ∈ nestL := List.mem_of_getElem? (i := 7) rfl
theorem nst_RX7_23 : (RX7, 23, yX10_at, RX10) ∈ nestL := List.mem_of_getElem? (i := 8) rfl
theorem nst_RX6_56 : (RX6, 56, yX10_within, RX10) ∈ nestL := List.mem_of_getElem? (i := 9) rfl
theorem nst_RX6_48 : (RX6, 48, yX10_put, RX10) ∈ nestL := List.mem_of_getElem? (i := 10) rfl
theorem nst_RX4_61 : (RX4, 61, yX10_at, RX10) ∈ nestL := List.mem_of_getElem? (i := 11) rfl
theorem nst_RX4_86 : (RX4, 86, yX10_isWidth, RX10) ∈ nestL := List.mem_of_getElem? (i := 12) rfl
theorem nst_RX4_89 : (RX4, 89, yX10_put, RX10) ∈ nestL := List.mem_of_getElem? (i := 13) rfl
theorem nst_RX9_28 : (RX9, 28, yX10_put, RX10) ∈ nestL := List.mem_of_getElem? (i := 14) rfl
theorem nst_RX9_39 : (RX9, 39, yX10_bit, RX10) ∈ nestL := List.mem_of_getElem? (i := 15) rfl
theorem nst_RX9_46 : (RX9, 46, yX10_at, RX10) ∈ nestL := List.mem_of_getElem? (i := 16) rfl
theorem nst_RX9_52 : (RX9, 52, yX10_holds, RX10) ∈ nestL := List.mem_of_getElem? (i := 17) rfl
theorem nst_RX9_42 : (RX9, 42, yX10_copy, RX10) ∈ nestL := List.mem_of_getElem? (i := 18) rfl
theorem nst_RX1_74 : (RX1, 74, yX10_bit, RX10) ∈ nestL := List.mem_of_getElem? (i := 19) rfl
theorem nst_RX1_80 : (RX1, 80, yX10_put, RX10) ∈ nestL := List.mem_of_getElem? (i := 20) rfl
theorem nst_RX1_98 : (RX1, 98, yX10_at, RX10) ∈ nestL := List.mem_of_getElem? (i := 21) rfl
theorem nst_RX1_102 : (RX1, 102, yX10_holds, RX10) ∈ nestL := List.mem_of_getElem? (i := 22) rfl
theorem nst_RX3_39 : (RX3, 39, yX10_bit, RX10) ∈ nestL := List.mem_of_getElem? (i := 23) rfl
theorem nst_RX3_46 : (RX3, 46, yX10_holds, RX10) ∈ nestL := List.mem_of_getElem? (i := 24) rfl
theorem nst_RX8_36 : (RX8, 36, yX10_put, RX10) ∈ nestL := List.mem_of_getElem? (i := 25) rfl
theorem nst_RX8_59 : (RX8, 59, yX10_at, RX10) ∈ nestL := List.mem_of_getElem? (i := 26) rfl
theorem nst_RX8_49 : (RX8, 49, yX10_bit, RX10) ∈ nestL := List.mem_of_getElem? (i := 27) rfl
theorem nst_RX8_81 : (RX8, 81, yX10_holds, RX10) ∈ nestL := List.mem_of_getElem? (i := 28) rfl
theorem nst_RX0_44 : (RX0, 44, yX10_holds, RX10) ∈ nestL := List.mem_of_getElem? (i := 29) rfl
theorem wk_J6_bitCount_0f7a4 : Wk yJ6_bitCount_0f7a4 cJ6_bitCount_0f7a4 1 (some .int) 1 := ⟨bw316, bw315, by decide +kernel⟩
theorem ws_J6_bitCount_0f7a4 : Cond.static yJ6_bitCount_0f7a4 ∈ wsL_law := bw317
theorem wk_J9_floorMod_7cf53 : Wk yJ9_floorMod_7cf53 cJ9_floorMod_7cf53 3 (some .int) 2 := ⟨bw319, bw318, by decide +kernel⟩
theorem ws_J9_floorMod_7cf53 : Cond.static yJ9_floorMod_7cf53 ∈ wsL_law := bw320
theorem wk_X0_draw : Wk yX0_draw cX0_draw 4 (some .int) 2 := ⟨bw322, bw321, by decide +kernel⟩
theorem ws_X0_draw : Cond.static yX0_draw ∈ wsL_law := bw323
theorem wk_X0_gustsThatReach : Wk yX0_gustsThatReach cX0_gustsThatReach 8 (some .int) 3 := ⟨bw324, bw321, by decide +kernel⟩
theorem wv_X0_gustsThatReach : Wv yX0_gustsThatReach := ⟨bw325, bw326⟩
theorem wk_X0_housesThatKnow : Wk yX0_housesThatKnow cX0_housesThatKnow 1 (some .int) 0 := ⟨bw327, bw321, by decide +kernel⟩
theorem wv_X0_housesThatKnow : Wv yX0_housesThatKnow := ⟨bw328, bw329⟩
theorem wk_X0_inLowestTerms : Wk yX0_inLowestTerms cX0_inLowestTerms 7 (some .int) 3 := ⟨bw330, bw321, by decide +kernel⟩
theorem wv_X0_inLowestTerms : Wv yX0_inLowestTerms := ⟨bw331, bw332⟩
theorem wk_X0_openByDraw : Wk yX0_openByDraw cX0_openByDraw 3 none 1 := ⟨bw333, bw321, by decide +kernel⟩
theorem wv_X0_openByDraw : Wv yX0_openByDraw := ⟨bw334, bw335⟩
theorem wk_X0_runYear : Wk yX0_runYear cX0_runYear 7 none 2 := ⟨bw336, bw321, by decide +kernel⟩
theorem wv_X0_runYear : Wv yX0_runYear := ⟨bw337, bw338⟩
theorem wk_X0_timesHeard : Wk yX0_timesHeard cX0_timesHeard 1 (some .int) 0 := ⟨bw339, bw321, by decide +kernel⟩
theorem wv_X0_timesHeard : Wv yX0_timesHeard := ⟨bw340, bw341⟩
theorem wk_X0_waysOf : Wk yX0_waysOf cX0_waysOf 1 (some .int) 1 := ⟨bw342, bw321, by decide +kernel⟩
theorem ws_X0_waysOf : Cond.static yX0_waysOf ∈ wsL_law := bw343
theorem wk_X10_at : Wk yX10_at cX10_at 2 (some .int) 2 := ⟨bw345, bw344, by decide +kernel⟩
theorem ws_X10_at : Cond.static yX10_at ∈ wsL_law := bw346
theorem wk_X10_back : Wk yX10_back cX10_back 1 (some .int) 0 := ⟨bw347, bw344, by decide +kernel⟩
theorem wk_X10_bears : Wk yX10_bears cX10_bears 3 (some .int) 2 := ⟨bw348, bw344, by decide +kernel⟩
theorem wk_X10_began : Wk yX10_began cX10_began 2 (some .int) 1 := ⟨bw349, bw344, by decide +kernel⟩
theorem wk_X10_behind : Wk yX10_behind cX10_behind 3 (some .int) 2 := ⟨bw350, bw344, by decide +kernel⟩
theorem wk_X10_bit : Wk yX10_bit cX10_bit 1 (some .int) 1 := ⟨bw351, bw344, by decide +kernel⟩
theorem ws_X10_bit : Cond.static yX10_bit ∈ wsL_law := bw352
theorem wk_X10_blew : Wk yX10_blew cX10_blew 1 (some .int) 0 := ⟨bw353, bw344, by decide +kernel⟩
theorem wk_X10_copy : Wk yX10_copy cX10_copy 3 none 2 := ⟨bw354, bw344, by decide +kernel⟩
theorem ws_X10_copy : Cond.static yX10_copy ∈ wsL_law := bw355
theorem wk_X10_count : Wk yX10_count cX10_count 2 (some .int) 1 := ⟨bw356, bw344, by decide +kernel⟩
theorem wk_X10_cut : Wk yX10_cut cX10_cut 5 (some .int) 3 := ⟨bw357, bw344, by decide +kernel⟩
theorem wk_X10_fault : Wk yX10_fault cX10_fault 1 (some .int) 0 := ⟨bw358, bw344, by decide +kernel⟩
theorem wk_X10_fill : Wk yX10_fill cX10_fill 3 none 2 := ⟨bw359, bw344, by decide +kernel⟩
theorem ws_X10_fill : Cond.static yX10_fill ∈ wsL_law := bw360
theorem wk_X10_forget : Wk yX10_forget cX10_forget 2 (some .int) 0 := ⟨bw361, bw344, by decide +kernel⟩
theorem wk_X10_gusts : Wk yX10_gusts cX10_gusts 5 (some .int) 4 := ⟨bw362, bw344, by decide +kernel⟩
theorem wk_X10_holds : Wk yX10_holds cX10_holds 2 (some .boolean) 2 := ⟨bw363, bw344, by decide +kernel⟩
theorem ws_X10_holds : Cond.static yX10_holds ∈ wsL_law := bw364
theorem wk_X10_house : Wk yX10_house cX10_house 3 (some .int) 2 := ⟨bw365, bw344, by decide +kernel⟩
theorem wk_X10_isWidth : Wk yX10_isWidth cX10_isWidth 1 (some .boolean) 1 := ⟨bw366, bw344, by decide +kernel⟩
theorem ws_X10_isWidth : Cond.static yX10_isWidth ∈ wsL_law := bw367
theorem wk_X10_keep : Wk yX10_keep cX10_keep 1 (some .int) 0 := ⟨bw368, bw344, by decide +kernel⟩
theorem wk_X10_last : Wk yX10_last cX10_last 4 (some .int) 2 := ⟨bw369, bw344, by decide +kernel⟩
theorem wk_X10_lay : Wk yX10_lay cX10_lay 1 (some .int) 0 := ⟨bw370, bw344, by decide +kernel⟩
theorem wk_X10_layText : Wk yX10_layText cX10_layText 1 (some .boolean) 0 := ⟨bw371, bw344, by decide +kernel⟩
theorem wv_X10_layText : Wv yX10_layText := ⟨bw372, bw373⟩
theorem wk_X10_news : Wk yX10_news cX10_news 3 (some .int) 2 := ⟨bw374, bw344, by decide +kernel⟩
theorem wk_X10_open : Wk yX10_open cX10_open 4 (some .int) 2 := ⟨bw375, bw344, by decide +kernel⟩
theorem wk_X10_openings : Wk yX10_openings cX10_openings 6 (some .int) 5 := ⟨bw376, bw344, by decide +kernel⟩
theorem wk_X10_put : Wk yX10_put cX10_put 3 none 3 := ⟨bw377, bw344, by decide +kernel⟩
theorem ws_X10_put : Cond.static yX10_put ∈ wsL_law := bw378
theorem wk_X10_quarrel : Wk yX10_quarrel cX10_quarrel 6 (some .int) 4 := ⟨bw379, bw344, by decide +kernel⟩
theorem wk_X10_see : Wk yX10_see cX10_see 5 (some .int) 4 := ⟨bw380, bw344, by decide +kernel⟩
theorem wk_X10_step : Wk yX10_step cX10_step 3 (some .int) 1 := ⟨bw381, bw344, by decide +kernel⟩
theorem wk_X10_tell : Wk yX10_tell cX10_tell 4 (some .int) 2 := ⟨bw382, bw344, by decide +kernel⟩
theorem wk_X10_undo : Wk yX10_undo cX10_undo 1 (some .int) 0 := ⟨bw383, bw344, by decide +kernel⟩
theorem wk_X10_when : Wk yX10_when cX10_when 3 (some .int) 2 := ⟨bw384, bw344, by decide +kernel⟩
theorem wk_X10_wind : Wk yX10_wind cX10_wind 2 (some .int) 1 := ⟨bw385, bw344, by decide +kernel⟩
theorem wk_X10_wipe : Wk yX10_wipe cX10_wipe 2 (some .int) 0 := ⟨bw386, bw344, by decide +kernel⟩
theorem wk_X10_within : Wk yX10_within cX10_within 3 (some .boolean) 3 := ⟨bw387, bw344, by decide +kernel⟩
theorem ws_X10_within : Cond.static yX10_within ∈ wsL_law := bw388
theorem wk_X10_write : Wk yX10_write cX10_write 2 (some .int) 1 := ⟨bw389, bw344, by decide +kernel⟩
theorem wk_X10_year : Wk yX10_year cX10_year 4 (some .int) 3 := ⟨bw390, bw344, by decide +kernel⟩
theorem wk_X11_allKnown : Wk yX11_allKnown cX11_allKnown 3 (some .int) 0 := ⟨bw392, bw391, by decide +kernel⟩
theorem wv_X11_allKnown : Wv yX11_allKnown := ⟨bw393, bw394⟩
theorem wk_X11_asItIs : Wk yX11_asItIs cX11_asItIs 1 none 0 := ⟨bw395, bw391, by decide +kernel⟩
theorem wv_X11_asItIs : Wv yX11_asItIs := ⟨bw396, bw397⟩
theorem wk_X11_asItIsOf : Wk yX11_asItIsOf cX11_asItIsOf 2 none 1 := ⟨bw398, bw391, by decide +kernel⟩
theorem wv_X11_asItIsOf : Wv yX11_asItIsOf := ⟨bw399, bw400⟩
theorem wk_X11_back : Wk yX11_back cX11_back 1 (some .int) 0 := ⟨bw401, bw391, by decide +kernel⟩
theorem wk_X11_bears : Wk yX11_bears cX11_bears 4 (some .int) 2 := ⟨bw402, bw391, by decide +kernel⟩
theorem wk_X11_began : Wk yX11_began cX11_began 4 (some .int) 1 := ⟨bw403, bw391, by decide +kernel⟩
theorem wk_X11_behind : Wk yX11_behind cX11_behind 3 (some .int) 2 := ⟨bw404, bw391, by decide +kernel⟩
theorem wk_X11_beside : Wk yX11_beside cX11_beside 5 (some .int) 2 := ⟨bw405, bw391, by decide +kernel⟩
theorem wv_X11_beside : Wv yX11_beside := ⟨bw406, bw407⟩
theorem wk_X11_bits : Wk yX11_bits cX11_bits 3 (some .int) 1 := ⟨bw408, bw391, by decide +kernel⟩
theorem ws_X11_bits : Cond.static yX11_bits ∈ wsL_law := bw409
theorem wk_X11_blew : Wk yX11_blew cX11_blew 3 (some .int) 0 := ⟨bw410, bw391, by decide +kernel⟩
theorem wk_X11_blowsFrom : Wk yX11_blowsFrom cX11_blowsFrom 6 none 4 := ⟨bw411, bw391, by decide +kernel⟩
theorem wv_X11_blowsFrom : Wv yX11_blowsFrom := ⟨bw412, bw413⟩
theorem wk_X11_clearTold : Wk yX11_clearTold cX11_clearTold 2 none 0 := ⟨bw414, bw391, by decide +kernel⟩
theorem wv_X11_clearTold : Wv yX11_clearTold := ⟨bw415, bw416⟩
theorem wk_X11_copies : Wk yX11_copies cX11_copies 6 none 5 := ⟨bw417, bw391, by decide +kernel⟩
theorem ws_X11_copies : Cond.static yX11_copies ∈ wsL_law := bw418
theorem wk_X11_count : Wk yX11_count cX11_count 2 (some .int) 1 := ⟨bw419, bw391, by decide +kernel⟩
theorem wk_X11_cut : Wk yX11_cut cX11_cut 6 (some .int) 3 := ⟨bw420, bw391, by decide +kernel⟩
theorem wk_X11_fault : Wk yX11_fault cX11_fault 2 (some .int) 0 := ⟨bw421, bw391, by decide +kernel⟩
theorem wv_X11_fault : Wv yX11_fault := ⟨bw422, bw423⟩
theorem wk_X11_findWay : Wk yX11_findWay cX11_findWay 10 (some .boolean) 5 := ⟨bw424, bw391, by decide +kernel⟩
theorem wv_X11_findWay : Wv yX11_findWay := ⟨bw425, bw426⟩
theorem wk_X11_forget : Wk yX11_forget cX11_forget 2 (some .int) 0 := ⟨bw427, bw391, by decide +kernel⟩
theorem wk_X11_goes : Wk yX11_goes cX11_goes 3 none 1 := ⟨bw428, bw391, by decide +kernel⟩
theorem wv_X11_goes : Wv yX11_goes := ⟨bw429, bw430⟩
theorem wk_X11_goesBy : Wk yX11_goesBy cX11_goesBy 6 none 1 := ⟨bw431, bw391, by decide +kernel⟩
theorem wv_X11_goesBy : Wv yX11_goesBy := ⟨bw432, bw433⟩
theorem wk_X11_gusts : Wk yX11_gusts cX11_gusts 10 (some .int) 4 := ⟨bw434, bw391, by decide +kernel⟩
theorem wk_X11_has : Wk yX11_has cX11_has 2 (some .boolean) 2 := ⟨bw435, bw391, by decide +kernel⟩
theorem ws_X11_has : Cond.static yX11_has ∈ wsL_law := bw436
theorem wk_X11_heavy : Wk yX11_heavy cX11_heavy 4 (some .int) 1 := ⟨bw437, bw391, by decide +kernel⟩
theorem wv_X11_heavy : Wv yX11_heavy := ⟨bw438, bw439⟩
theorem wk_X11_house : Wk yX11_house cX11_house 3 (some .int) 2 := ⟨bw440, bw391, by decide +kernel⟩
theorem wk_X11_in : Wk yX11_in cX11_in 3 (some .boolean) 3 := ⟨bw441, bw391, by decide +kernel⟩
theorem ws_X11_in : Cond.static yX11_in ∈ wsL_law := bw442
theorem wk_X11_isCutBy : Wk yX11_isCutBy cX11_isCutBy 5 (some .boolean) 3 := ⟨bw443, bw391, by decide +kernel⟩
theorem wv_X11_isCutBy : Wv yX11_isCutBy := ⟨bw444, bw445⟩
theorem wk_X11_isFigure : Wk yX11_isFigure cX11_isFigure 1 (some .boolean) 1 := ⟨bw446, bw391, by decide +kernel⟩
theorem ws_X11_isFigure : Cond.static yX11_isFigure ∈ wsL_law := bw447
theorem wk_X11_isHouse : Wk yX11_isHouse cX11_isHouse 2 (some .boolean) 1 := ⟨bw448, bw391, by decide +kernel⟩
theorem wv_X11_isHouse : Wv yX11_isHouse := ⟨bw449, bw450⟩
theorem wk_X11_isNews : Wk yX11_isNews cX11_isNews 2 (some .boolean) 1 := ⟨bw451, bw391, by decide +kernel⟩
theorem wv_X11_isNews : Wv yX11_isNews := ⟨bw452, bw453⟩
theorem wk_X11_isSo : Wk yX11_isSo cX11_isSo 5 (some .boolean) 2 := ⟨bw454, bw391, by decide +kernel⟩
theorem wv_X11_isSo : Wv yX11_isSo := ⟨bw455, bw456⟩
theorem wk_X11_isSoAll : Wk yX11_isSoAll cX11_isSoAll 5 (some .boolean) 2 := ⟨bw457, bw391, by decide +kernel⟩
theorem wv_X11_isSoAll : Wv yX11_isSoAll := ⟨bw458, bw459⟩
theorem wk_X11_isSoBy : Wk yX11_isSoBy cX11_isSoBy 5 (some .boolean) 4 := ⟨bw460, bw391, by decide +kernel⟩
theorem wv_X11_isSoBy : Wv yX11_isSoBy := ⟨bw461, bw462⟩
theorem wk_X11_isTold : Wk yX11_isTold cX11_isTold 4 (some .boolean) 3 := ⟨bw463, bw391, by decide +kernel⟩
theorem wv_X11_isTold : Wv yX11_isTold := ⟨bw464, bw465⟩
theorem wk_X11_isWon : Wk yX11_isWon cX11_isWon 7 (some .boolean) 4 := ⟨bw466, bw391, by decide +kernel⟩
theorem wv_X11_isWon : Wv yX11_isWon := ⟨bw467, bw468⟩
theorem wk_X11_keep : Wk yX11_keep cX11_keep 1 (some .int) 0 := ⟨bw469, bw391, by decide +kernel⟩
theorem wk_X11_knowers : Wk yX11_knowers cX11_knowers 3 (some .int) 0 := ⟨bw470, bw391, by decide +kernel⟩
theorem wv_X11_knowers : Wv yX11_knowers := ⟨bw471, bw472⟩
theorem wk_X11_known : Wk yX11_known cX11_known 4 (some .int) 1 := ⟨bw473, bw391, by decide +kernel⟩
theorem wv_X11_known : Wv yX11_known := ⟨bw474, bw475⟩
theorem wk_X11_knowsBehind : Wk yX11_knowsBehind cX11_knowsBehind 4 (some .int) 2 := ⟨bw476, bw391, by decide +kernel⟩
theorem wv_X11_knowsBehind : Wv yX11_knowsBehind := ⟨bw477, bw478⟩
theorem wk_X11_knowsBy : Wk yX11_knowsBy cX11_knowsBy 6 (some .boolean) 5 := ⟨bw479, bw391, by decide +kernel⟩
theorem wv_X11_knowsBy : Wv yX11_knowsBy := ⟨bw480, bw481⟩
theorem wk_X11_last : Wk yX11_last cX11_last 8 (some .int) 2 := ⟨bw482, bw391, by decide +kernel⟩
theorem wk_X11_lastTold : Wk yX11_lastTold cX11_lastTold 1 (some .int) 0 := ⟨bw483, bw391, by decide +kernel⟩
theorem wv_X11_lastTold : Wv yX11_lastTold := ⟨bw484, bw485⟩
theorem wk_X11_lay : Wk yX11_lay cX11_lay 1 (some .int) 0 := ⟨bw486, bw391, by decide +kernel⟩
theorem wk_X11_letsIn : Wk yX11_letsIn cX11_letsIn 5 (some .boolean) 3 := ⟨bw487, bw391, by decide +kernel⟩
theorem wv_X11_letsIn : Wv yX11_letsIn := ⟨bw488, bw489⟩
theorem wk_X11_letsOut : Wk yX11_letsOut cX11_letsOut 3 (some .boolean) 2 := ⟨bw490, bw391, by decide +kernel⟩
theorem wv_X11_letsOut : Wv yX11_letsOut := ⟨bw491, bw492⟩
theorem wk_X11_letterAt : Wk yX11_letterAt cX11_letterAt 2 (some .int) 1 := ⟨bw493, bw391, by decide +kernel⟩
theorem wv_X11_letterAt : Wv yX11_letterAt := ⟨bw494, bw495⟩
theorem wk_X11_news : Wk yX11_news cX11_news 3 (some .int) 2 := ⟨bw496, bw391, by decide +kernel⟩
theorem wk_X11_open : Wk yX11_open cX11_open 4 (some .int) 2 := ⟨bw497, bw391, by decide +kernel⟩
theorem wk_X11_openings : Wk yX11_openings cX11_openings 8 (some .int) 5 := ⟨bw498, bw391, by decide +kernel⟩
theorem wk_X11_quarrel : Wk yX11_quarrel cX11_quarrel 7 (some .int) 4 := ⟨bw499, bw391, by decide +kernel⟩
theorem wk_X11_readGridOf : Wk yX11_readGridOf cX11_readGridOf 1 (some .boolean) 0 := ⟨bw500, bw391, by decide +kernel⟩
theorem wv_X11_readGridOf : Wv yX11_readGridOf := ⟨bw501, bw502⟩
theorem wk_X11_readHouseOf : Wk yX11_readHouseOf cX11_readHouseOf 1 (some .boolean) 0 := ⟨bw503, bw391, by decide +kernel⟩
theorem wv_X11_readHouseOf : Wv yX11_readHouseOf := ⟨bw504, bw505⟩
theorem wk_X11_readItem : Wk yX11_readItem cX11_readItem 2 (some .boolean) 0 := ⟨bw506, bw391, by decide +kernel⟩
theorem wv_X11_readItem : Wv yX11_readItem := ⟨bw507, bw508⟩
theorem wk_X11_readNewsOf : Wk yX11_readNewsOf cX11_readNewsOf 1 (some .boolean) 0 := ⟨bw509, bw391, by decide +kernel⟩
theorem wv_X11_readNewsOf : Wv yX11_readNewsOf := ⟨bw510, bw511⟩
theorem wk_X11_readNumbers : Wk yX11_readNumbers cX11_readNumbers 3 (some .boolean) 1 := ⟨bw512, bw391, by decide +kernel⟩
theorem wv_X11_readNumbers : Wv yX11_readNumbers := ⟨bw513, bw514⟩
theorem wk_X11_readWindOf : Wk yX11_readWindOf cX11_readWindOf 1 (some .boolean) 0 := ⟨bw515, bw391, by decide +kernel⟩
theorem wv_X11_readWindOf : Wv yX11_readWindOf := ⟨bw516, bw517⟩
theorem wk_X11_remembers : Wk yX11_remembers cX11_remembers 2 none 0 := ⟨bw518, bw391, by decide +kernel⟩
theorem wv_X11_remembers : Wv yX11_remembers := ⟨bw519, bw520⟩
theorem wk_X11_see : Wk yX11_see cX11_see 5 (some .int) 4 := ⟨bw521, bw391, by decide +kernel⟩
theorem wk_X11_settles : Wk yX11_settles cX11_settles 2 none 0 := ⟨bw522, bw391, by decide +kernel⟩
theorem wv_X11_settles : Wv yX11_settles := ⟨bw523, bw524⟩
theorem wk_X11_step : Wk yX11_step cX11_step 2 (some .int) 1 := ⟨bw525, bw391, by decide +kernel⟩
theorem wk_X11_tell : Wk yX11_tell cX11_tell 3 (some .int) 2 := ⟨bw526, bw391, by decide +kernel⟩
theorem wk_X11_tellsHouse : Wk yX11_tellsHouse cX11_tellsHouse 4 none 3 := ⟨bw527, bw391, by decide +kernel⟩
theorem wv_X11_tellsHouse : Wv yX11_tellsHouse := ⟨bw528, bw529⟩
theorem wk_X11_tellsNews : Wk yX11_tellsNews cX11_tellsNews 4 none 3 := ⟨bw530, bw391, by decide +kernel⟩
theorem wv_X11_tellsNews : Wv yX11_tellsNews := ⟨bw531, bw532⟩
theorem wk_X11_undo : Wk yX11_undo cX11_undo 1 (some .int) 0 := ⟨bw533, bw391, by decide +kernel⟩
theorem wk_X11_when : Wk yX11_when cX11_when 3 (some .int) 2 := ⟨bw534, bw391, by decide +kernel⟩
theorem wk_X11_wind : Wk yX11_wind cX11_wind 2 (some .int) 1 := ⟨bw535, bw391, by decide +kernel⟩
theorem wk_X11_windOf : Wk yX11_windOf cX11_windOf 2 (some .int) 1 := ⟨bw536, bw391, by decide +kernel⟩
theorem wv_X11_windOf : Wv yX11_windOf := ⟨bw537, bw538⟩
theorem wk_X11_wipe : Wk yX11_wipe cX11_wipe 2 (some .int) 0 := ⟨bw539, bw391, by decide +kernel⟩
theorem wk_X11_write : Wk yX11_write cX11_write 2 (some .int) 1 := ⟨bw540, bw391, by decide +kernel⟩
theorem wk_X11_year : Wk yX11_year cX11_year 9 (some .int) 3 := ⟨bw541, bw391, by decide +kernel⟩
theorem wk_X1_along : Wk yX1_along cX1_along 9 (some .int) 3 := ⟨bw543, bw542, by decide +kernel⟩
theorem wv_X1_along : Wv yX1_along := ⟨bw544, bw545⟩
theorem wk_X1_hears : Wk yX1_hears cX1_hears 3 (some .boolean) 2 := ⟨bw546, bw542, by decide +kernel⟩
theorem wv_X1_hears : Wv yX1_hears := ⟨bw547, bw548⟩
theorem wk_X1_isAnother : Wk yX1_isAnother cX1_isAnother 3 (some .boolean) 2 := ⟨bw549, bw542, by decide +kernel⟩
theorem wv_X1_isAnother : Wv yX1_isAnother := ⟨bw550, bw551⟩
theorem wk_X1_letsInFromGossips : Wk yX1_letsInFromGossips cX1_letsInFromGossips 3 (some .boolean) 2 := ⟨bw552, bw542, by decide +kernel⟩
theorem wv_X1_letsInFromGossips : Wv yX1_letsInFromGossips := ⟨bw553, bw554⟩
theorem wk_X1_letsInFromTalkers : Wk yX1_letsInFromTalkers cX1_letsInFromTalkers 3 (some .boolean) 2 := ⟨bw555, bw542, by decide +kernel⟩
theorem wv_X1_letsInFromTalkers : Wv yX1_letsInFromTalkers := ⟨bw556, bw557⟩
theorem wk_X1_onward : Wk yX1_onward cX1_onward 6 (some .int) 2 := ⟨bw558, bw542, by decide +kernel⟩
theorem wv_X1_onward : Wv yX1_onward := ⟨bw559, bw560⟩
theorem wk_X1_pick : Wk yX1_pick cX1_pick 6 none 1 := ⟨bw561, bw542, by decide +kernel⟩
theorem wv_X1_pick : Wv yX1_pick := ⟨bw562, bw563⟩
theorem wk_X1_reopen : Wk yX1_reopen cX1_reopen 3 none 2 := ⟨bw564, bw542, by decide +kernel⟩
theorem wv_X1_reopen : Wv yX1_reopen := ⟨bw565, bw566⟩
theorem wk_X1_sashOf : Wk yX1_sashOf cX1_sashOf 2 (some .int) 1 := ⟨bw567, bw542, by decide +kernel⟩
theorem wv_X1_sashOf : Wv yX1_sashOf := ⟨bw568, bw569⟩
theorem wk_X1_stuff : Wk yX1_stuff cX1_stuff 3 none 1 := ⟨bw570, bw542, by decide +kernel⟩
theorem wv_X1_stuff : Wv yX1_stuff := ⟨bw571, bw572⟩
theorem wk_X1_whoKnows : Wk yX1_whoKnows cX1_whoKnows 1 (some .int) 0 := ⟨bw573, bw542, by decide +kernel⟩
theorem wv_X1_whoKnows : Wv yX1_whoKnows := ⟨bw574, bw575⟩
theorem wk_X2_answer : Wk yX2_answer cX2_answer 2 (some .int) 1 := ⟨bw577, bw576, by decide +kernel⟩
theorem wv_X2_answer : Wv yX2_answer := ⟨bw578, bw579⟩
theorem wk_X2_findByTwo : Wk yX2_findByTwo cX2_findByTwo 3 none 0 := ⟨bw580, bw576, by decide +kernel⟩
theorem wv_X2_findByTwo : Wv yX2_findByTwo := ⟨bw581, bw582⟩
theorem wk_X2_fittingWidth : Wk yX2_fittingWidth cX2_fittingWidth 4 (some .int) 1 := ⟨bw583, bw576, by decide +kernel⟩
theorem wv_X2_fittingWidth : Wv yX2_fittingWidth := ⟨bw584, bw585⟩
theorem wk_X2_found : Wk yX2_found cX2_found 4 none 3 := ⟨bw586, bw576, by decide +kernel⟩
theorem wv_X2_found : Wv yX2_found := ⟨bw587, bw588⟩
theorem wk_X2_isFoundByNone : Wk yX2_isFoundByNone cX2_isFoundByNone 1 (some .boolean) 0 := ⟨bw589, bw576, by decide +kernel⟩
theorem wv_X2_isFoundByNone : Wv yX2_isFoundByNone := ⟨bw590, bw591⟩
theorem wk_X2_isFoundByOne : Wk yX2_isFoundByOne cX2_isFoundByOne 3 (some .boolean) 0 := ⟨bw592, bw576, by decide +kernel⟩
theorem wv_X2_isFoundByOne : Wv yX2_isFoundByOne := ⟨bw593, bw594⟩
theorem wk_X2_isFoundWith : Wk yX2_isFoundWith cX2_isFoundWith 5 (some .boolean) 2 := ⟨bw595, bw576, by decide +kernel⟩
theorem wv_X2_isFoundWith : Wv yX2_isFoundWith := ⟨bw596, bw597⟩
theorem wk_X2_isSo : Wk yX2_isSo cX2_isSo 2 (some .boolean) 1 := ⟨bw598, bw576, by decide +kernel⟩
theorem wv_X2_isSo : Wv yX2_isSo := ⟨bw599, bw600⟩
theorem wk_X2_pose : Wk yX2_pose cX2_pose 5 none 4 := ⟨bw601, bw576, by decide +kernel⟩
theorem wv_X2_pose : Wv yX2_pose := ⟨bw602, bw603⟩
theorem wk_X3_bestToOpen : Wk yX3_bestToOpen cX3_bestToOpen 5 (some .int) 3 := ⟨bw605, bw604, by decide +kernel⟩
theorem wv_X3_bestToOpen : Wv yX3_bestToOpen := ⟨bw606, bw607⟩
theorem wk_X3_burden : Wk yX3_burden cX3_burden 5 (some .int) 2 := ⟨bw608, bw604, by decide +kernel⟩
theorem wv_X3_burden : Wv yX3_burden := ⟨bw609, bw610⟩
theorem wk_X3_fewestStuffed : Wk yX3_fewestStuffed cX3_fewestStuffed 7 (some .int) 2 := ⟨bw611, bw604, by decide +kernel⟩
theorem wv_X3_fewestStuffed : Wv yX3_fewestStuffed := ⟨bw612, bw613⟩
theorem wk_X3_firstHeard : Wk yX3_firstHeard cX3_firstHeard 5 (some .int) 2 := ⟨bw614, bw604, by decide +kernel⟩
theorem wv_X3_firstHeard : Wv yX3_firstHeard := ⟨bw615, bw616⟩
theorem wk_X3_hearsInSpite : Wk yX3_hearsInSpite cX3_hearsInSpite 8 (some .boolean) 4 := ⟨bw617, bw604, by decide +kernel⟩
theorem wv_X3_hearsInSpite : Wv yX3_hearsInSpite := ⟨bw618, bw619⟩
theorem wk_X3_knownBehind : Wk yX3_knownBehind cX3_knownBehind 5 (some .int) 2 := ⟨bw620, bw604, by decide +kernel⟩
theorem wv_X3_knownBehind : Wv yX3_knownBehind := ⟨bw621, bw622⟩
theorem wk_X3_latestHouse : Wk yX3_latestHouse cX3_latestHouse 6 (some .int) 1 := ⟨bw623, bw604, by decide +kernel⟩
theorem wv_X3_latestHouse : Wv yX3_latestHouse := ⟨bw624, bw625⟩
theorem wk_X3_widestBorne : Wk yX3_widestBorne cX3_widestBorne 4 (some .int) 2 := ⟨bw626, bw604, by decide +kernel⟩
theorem wv_X3_widestBorne : Wv yX3_widestBorne := ⟨bw627, bw628⟩
theorem wk_X4_allHouses : Wk yX4_allHouses cX4_allHouses 1 (some .int) 0 := ⟨bw630, bw629, by decide +kernel⟩
theorem wv_X4_allHouses : Wv yX4_allHouses := ⟨bw631, bw632⟩
theorem wk_X4_beginningOf : Wk yX4_beginningOf cX4_beginningOf 2 (some .int) 1 := ⟨bw633, bw629, by decide +kernel⟩
theorem wv_X4_beginningOf : Wv yX4_beginningOf := ⟨bw634, bw635⟩
theorem wk_X4_clear : Wk yX4_clear cX4_clear 1 none 0 := ⟨bw636, bw629, by decide +kernel⟩
theorem wv_X4_clear : Wv yX4_clear := ⟨bw637, bw638⟩
theorem wk_X4_columns : Wk yX4_columns cX4_columns 1 (some .int) 0 := ⟨bw639, bw629, by decide +kernel⟩
theorem wv_X4_columns : Wv yX4_columns := ⟨bw640, bw641⟩
theorem wk_X4_firstColumn : Wk yX4_firstColumn cX4_firstColumn 1 (some .int) 0 := ⟨bw642, bw629, by decide +kernel⟩
theorem wv_X4_firstColumn : Wv yX4_firstColumn := ⟨bw643, bw644⟩
theorem wk_X4_hasHouse : Wk yX4_hasHouse cX4_hasHouse 2 (some .boolean) 1 := ⟨bw645, bw629, by decide +kernel⟩
theorem wv_X4_hasHouse : Wv yX4_hasHouse := ⟨bw646, bw647⟩
theorem wk_X4_hasHouses : Wk yX4_hasHouses cX4_hasHouses 2 (some .boolean) 1 := ⟨bw648, bw629, by decide +kernel⟩
theorem wv_X4_hasHouses : Wv yX4_hasHouses := ⟨bw649, bw650⟩
theorem wk_X4_hasNews : Wk yX4_hasNews cX4_hasNews 2 (some .boolean) 1 := ⟨bw651, bw629, by decide +kernel⟩
theorem wv_X4_hasNews : Wv yX4_hasNews := ⟨bw652, bw653⟩
theorem wk_X4_houses : Wk yX4_houses cX4_houses 1 (some .int) 0 := ⟨bw654, bw629, by decide +kernel⟩
theorem wv_X4_houses : Wv yX4_houses := ⟨bw655, bw656⟩
theorem wk_X4_kindOf : Wk yX4_kindOf cX4_kindOf 2 (some .int) 1 := ⟨bw657, bw629, by decide +kernel⟩
theorem wv_X4_kindOf : Wv yX4_kindOf := ⟨bw658, bw659⟩
theorem wk_X4_lastColumn : Wk yX4_lastColumn cX4_lastColumn 1 (some .int) 0 := ⟨bw660, bw629, by decide +kernel⟩
theorem wv_X4_lastColumn : Wv yX4_lastColumn := ⟨bw661, bw662⟩
theorem wk_X4_newsKindOf : Wk yX4_newsKindOf cX4_newsKindOf 2 (some .int) 1 := ⟨bw663, bw629, by decide +kernel⟩
theorem wv_X4_newsKindOf : Wv yX4_newsKindOf := ⟨bw664, bw665⟩
theorem wk_X4_newsTold : Wk yX4_newsTold cX4_newsTold 1 (some .int) 0 := ⟨bw666, bw629, by decide +kernel⟩
theorem wv_X4_newsTold : Wv yX4_newsTold := ⟨bw667, bw668⟩
theorem wk_X4_rows : Wk yX4_rows cX4_rows 1 (some .int) 0 := ⟨bw669, bw629, by decide +kernel⟩
theorem wv_X4_rows : Wv yX4_rows := ⟨bw670, bw671⟩
theorem wk_X4_sashOf : Wk yX4_sashOf cX4_sashOf 2 (some .int) 1 := ⟨bw672, bw629, by decide +kernel⟩
theorem wv_X4_sashOf : Wv yX4_sashOf := ⟨bw673, bw674⟩
theorem wk_X4_take : Wk yX4_take cX4_take 7 (some .boolean) 3 := ⟨bw675, bw629, by decide +kernel⟩
theorem wv_X4_take : Wv yX4_take := ⟨bw676, bw677⟩
theorem wk_X4_takeGrid : Wk yX4_takeGrid cX4_takeGrid 4 (some .boolean) 2 := ⟨bw678, bw629, by decide +kernel⟩
theorem wv_X4_takeGrid : Wv yX4_takeGrid := ⟨bw679, bw680⟩
theorem wk_X4_takeHouse : Wk yX4_takeHouse cX4_takeHouse 4 (some .boolean) 3 := ⟨bw681, bw629, by decide +kernel⟩
theorem wv_X4_takeHouse : Wv yX4_takeHouse := ⟨bw682, bw683⟩
theorem wk_X4_takeNews : Wk yX4_takeNews cX4_takeNews 4 (some .boolean) 3 := ⟨bw684, bw629, by decide +kernel⟩
theorem wv_X4_takeNews : Wv yX4_takeNews := ⟨bw685, bw686⟩
theorem wk_X4_takeWind : Wk yX4_takeWind cX4_takeWind 2 (some .boolean) 1 := ⟨bw687, bw629, by decide +kernel⟩
theorem wv_X4_takeWind : Wv yX4_takeWind := ⟨bw688, bw689⟩
theorem wk_X4_weightOf : Wk yX4_weightOf cX4_weightOf 2 (some .int) 1 := ⟨bw690, bw629, by decide +kernel⟩
theorem wv_X4_weightOf : Wv yX4_weightOf := ⟨bw691, bw692⟩
theorem wk_X4_windOf : Wk yX4_windOf cX4_windOf 3 (some .int) 1 := ⟨bw693, bw629, by decide +kernel⟩
theorem wv_X4_windOf : Wv yX4_windOf := ⟨bw694, bw695⟩
theorem wk_X4_windsInTurn : Wk yX4_windsInTurn cX4_windsInTurn 1 (some .int) 0 := ⟨bw696, bw629, by decide +kernel⟩
theorem wv_X4_windsInTurn : Wv yX4_windsInTurn := ⟨bw697, bw698⟩
theorem wk_X5_clear : Wk yX5_clear cX5_clear 1 none 0 := ⟨bw700, bw699, by decide +kernel⟩
theorem wv_X5_clear : Wv yX5_clear := ⟨bw701, bw702⟩
theorem wk_X5_isFull : Wk yX5_isFull cX5_isFull 1 (some .boolean) 0 := ⟨bw703, bw699, by decide +kernel⟩
theorem wv_X5_isFull : Wv yX5_isFull := ⟨bw704, bw705⟩
theorem wk_X5_placeOf : Wk yX5_placeOf cX5_placeOf 3 (some (.object "NewsDraughts$Standing")) 1 := ⟨bw706, bw699, by decide +kernel⟩
theorem wv_X5_placeOf : Wv yX5_placeOf := ⟨bw707, bw708⟩
theorem wk_X5_popInto : Wk yX5_popInto cX5_popInto 3 (some .boolean) 1 := ⟨bw709, bw699, by decide +kernel⟩
theorem wv_X5_popInto : Wv yX5_popInto := ⟨bw710, bw711⟩
theorem wk_X5_push : Wk yX5_push cX5_push 3 none 1 := ⟨bw712, bw699, by decide +kernel⟩
theorem wv_X5_push : Wv yX5_push := ⟨bw713, bw714⟩
theorem wk_X5_size : Wk yX5_size cX5_size 1 (some .int) 0 := ⟨bw715, bw699, by decide +kernel⟩
theorem wv_X5_size : Wv yX5_size := ⟨bw716, bw717⟩
theorem wk_X6_isFigure : Wk yX6_isFigure cX6_isFigure 1 (some .boolean) 1 := ⟨bw719, bw718, by decide +kernel⟩
theorem ws_X6_isFigure : Cond.static yX6_isFigure ∈ wsL_law := bw720
theorem wk_X6_readInto : Wk yX6_readInto cX6_readInto 5 (some .int) 1 := ⟨bw721, bw718, by decide +kernel⟩
theorem wv_X6_readInto : Wv yX6_readInto := ⟨bw722, bw723⟩
theorem wk_X6_readNumber : Wk yX6_readNumber cX6_readNumber 3 (some .int) 0 := ⟨bw724, bw718, by decide +kernel⟩
theorem wv_X6_readNumber : Wv yX6_readNumber := ⟨bw725, bw726⟩
theorem wk_X6_readNumbers : Wk yX6_readNumbers cX6_readNumbers 4 (some .int) 0 := ⟨bw727, bw718, by decide +kernel⟩
theorem wv_X6_readNumbers : Wv yX6_readNumbers := ⟨bw728, bw729⟩
theorem wk_X7_add : Wk yX7_add cX7_add 2 (some .boolean) 1 := ⟨bw731, bw730, by decide +kernel⟩
theorem wv_X7_add : Wv yX7_add := ⟨bw732, bw733⟩
theorem wk_X7_clear : Wk yX7_clear cX7_clear 1 none 0 := ⟨bw734, bw730, by decide +kernel⟩
theorem wv_X7_clear : Wv yX7_clear := ⟨bw735, bw736⟩
theorem wk_X7_length : Wk yX7_length cX7_length 1 (some .int) 0 := ⟨bw737, bw730, by decide +kernel⟩
theorem wv_X7_length : Wv yX7_length := ⟨bw738, bw739⟩
theorem wk_X7_letterAt : Wk yX7_letterAt cX7_letterAt 2 (some .int) 1 := ⟨bw740, bw730, by decide +kernel⟩
theorem wv_X7_letterAt : Wv yX7_letterAt := ⟨bw741, bw742⟩
theorem wk_X8_add : Wk yX8_add cX8_add 5 (some .boolean) 4 := ⟨bw744, bw743, by decide +kernel⟩
theorem wv_X8_add : Wv yX8_add := ⟨bw745, bw746⟩
theorem wk_X8_allSoBy : Wk yX8_allSoBy cX8_allSoBy 4 (some .boolean) 1 := ⟨bw747, bw743, by decide +kernel⟩
theorem wv_X8_allSoBy : Wv yX8_allSoBy := ⟨bw748, bw749⟩
theorem wk_X8_allSoFrom : Wk yX8_allSoFrom cX8_allSoFrom 4 (some .boolean) 2 := ⟨bw750, bw743, by decide +kernel⟩
theorem wv_X8_allSoFrom : Wv yX8_allSoFrom := ⟨bw751, bw752⟩
theorem wk_X8_beginnings : Wk yX8_beginnings cX8_beginnings 4 (some .int) 1 := ⟨bw753, bw743, by decide +kernel⟩
theorem wv_X8_beginnings : Wv yX8_beginnings := ⟨bw754, bw755⟩
theorem wk_X8_clear : Wk yX8_clear cX8_clear 1 none 0 := ⟨bw756, bw743, by decide +kernel⟩
theorem wv_X8_clear : Wv yX8_clear := ⟨bw757, bw758⟩
theorem wk_X8_isSo : Wk yX8_isSo cX8_isSo 3 (some .boolean) 2 := ⟨bw759, bw743, by decide +kernel⟩
theorem wv_X8_isSo : Wv yX8_isSo := ⟨bw760, bw761⟩
theorem wk_X8_nextWinds : Wk yX8_nextWinds cX8_nextWinds 3 (some .int) 0 := ⟨bw762, bw743, by decide +kernel⟩
theorem wv_X8_nextWinds : Wv yX8_nextWinds := ⟨bw763, bw764⟩
theorem wk_X8_size : Wk yX8_size cX8_size 1 (some .int) 0 := ⟨bw765, bw743, by decide +kernel⟩
theorem wv_X8_size : Wv yX8_size := ⟨bw766, bw767⟩
theorem wk_X9_begin : Wk yX9_begin cX9_begin 3 none 1 := ⟨bw769, bw768, by decide +kernel⟩
theorem wv_X9_begin : Wv yX9_begin := ⟨bw770, bw771⟩
theorem wk_X9_copyOf : Wk yX9_copyOf cX9_copyOf 2 none 1 := ⟨bw772, bw768, by decide +kernel⟩
theorem wv_X9_copyOf : Wv yX9_copyOf := ⟨bw773, bw774⟩
theorem wk_X9_goOn : Wk yX9_goOn cX9_goOn 2 none 1 := ⟨bw775, bw768, by decide +kernel⟩
theorem wv_X9_goOn : Wv yX9_goOn := ⟨bw776, bw777⟩
theorem wk_X9_knownIn : Wk yX9_knownIn cX9_knownIn 4 (some .int) 1 := ⟨bw778, bw768, by decide +kernel⟩
theorem wv_X9_knownIn : Wv yX9_knownIn := ⟨bw779, bw780⟩
theorem wk_X9_sashOf : Wk yX9_sashOf cX9_sashOf 2 (some .int) 1 := ⟨bw781, bw768, by decide +kernel⟩
theorem wv_X9_sashOf : Wv yX9_sashOf := ⟨bw782, bw783⟩
theorem wk_X9_setSash : Wk yX9_setSash cX9_setSash 3 none 2 := ⟨bw784, bw768, by decide +kernel⟩
theorem wv_X9_setSash : Wv yX9_setSash := ⟨bw785, bw786⟩
theorem wk_X9_setWhoKnows : Wk yX9_setWhoKnows cX9_setWhoKnows 3 none 2 := ⟨bw787, bw768, by decide +kernel⟩
theorem wv_X9_setWhoKnows : Wv yX9_setWhoKnows := ⟨bw788, bw789⟩
theorem wk_X9_stepsGone : Wk yX9_stepsGone cX9_stepsGone 1 (some .int) 0 := ⟨bw790, bw768, by decide +kernel⟩
theorem wv_X9_stepsGone : Wv yX9_stepsGone := ⟨bw791, bw792⟩
theorem wk_X9_whoKnows : Wk yX9_whoKnows cX9_whoKnows 2 (some .int) 1 := ⟨bw793, bw768, by decide +kernel⟩
theorem wv_X9_whoKnows : Wv yX9_whoKnows := ⟨bw794, bw795⟩
theorem wk_X9_whoKnowsAny : Wk yX9_whoKnowsAny cX9_whoKnowsAny 3 (some .int) 0 := ⟨bw796, bw768, by decide +kernel⟩
theorem wv_X9_whoKnowsAny : Wv yX9_whoKnowsAny := ⟨bw797, bw798⟩
