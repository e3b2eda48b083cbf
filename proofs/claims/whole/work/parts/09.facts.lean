/-! links, by their places among the words -/
theorem inr_1 : ∀ w ∈ wsL_law_r1, w ∈ wsL_law := fun _ h => (List.mem_append_left _ (List.mem_append_left _ (List.mem_append_left _ (List.mem_append_left _ (List.mem_append_left _ (List.mem_append_left _ (List.mem_append_left _ (List.mem_append_left _ (List.mem_append_left _ (List.mem_append_left _ (List.mem_append_left _ (List.mem_append_left _ (List.mem_append_left _ h)))))))))))))
theorem inr_2 : ∀ w ∈ wsL_law_r2, w ∈ wsL_law := fun _ h => (List.mem_append_left _ (List.mem_append_left _ (List.mem_append_left _ (List.mem_append_left _ (List.mem_append_left _ (List.mem_append_left _ (List.mem_append_left _ (List.mem_append_left _ (List.mem_append_left _ (List.mem_append_left _ (List.mem_append_left _ (List.mem_append_left _ (List.mem_append_right _ (List.mem_append_left _ h))))))))))))))
theorem inr_3 : ∀ w ∈ wsL_law_r3, w ∈ wsL_law := fun _ h => (List.mem_append_left _ (List.mem_append_left _ (List.mem_append_left _ (List.mem_append_left _ (List.mem_append_left _ (List.mem_append_left _ (List.mem_append_left _ (List.mem_append_left _ (List.mem_append_left _ (List.mem_append_left _ (List.mem_append_left _ (List.mem_append_left _ (List.mem_append_right _ (List.mem_append_right _ (List.mem_append_left _ h)))))))))))))))
theorem inr_4 : ∀ w ∈ wsL_law_r4, w ∈ wsL_law := fun _ h => (List.mem_append_left _ (List.mem_append_left _ (List.mem_append_left _ (List.mem_append_left _ (List.mem_append_left _ (List.mem_append_left _ (List.mem_append_left _ (List.mem_append_left _ (List.mem_append_left _ (List.mem_append_left _ (List.mem_append_left _ (List.mem_append_left _ (List.mem_append_right _ (List.mem_append_right _ (List.mem_append_right _ (List.mem_append_left _ h))))))))))))))))
theorem inr_5 : ∀ w ∈ wsL_law_r5, w ∈ wsL_law := fun _ h => (List.mem_append_left _ (List.mem_append_left _ (List.mem_append_left _ (List.mem_append_left _ (List.mem_append_left _ (List.mem_append_left _ (List.mem_append_left _ (List.mem_append_left _ (List.mem_append_left _ (List.mem_append_left _ (List.mem_append_left _ (List.mem_append_left _ (List.mem_append_right _ (List.mem_append_right _ (List.mem_append_right _ (List.mem_append_right _ (List.mem_append_left _ h)))))))))))))))))
theorem inr_6 : ∀ w ∈ wsL_law_r6, w ∈ wsL_law := fun _ h => (List.mem_append_left _ (List.mem_append_left _ (List.mem_append_left _ (List.mem_append_left _ (List.mem_append_left _ (List.mem_append_left _ (List.mem_append_left _ (List.mem_append_left _ (List.mem_append_left _ (List.mem_append_left _ (List.mem_append_left _ (List.mem_append_left _ (List.mem_append_right _ (List.mem_append_right _ (List.mem_append_right _ (List.mem_append_right _ (List.mem_append_right _ (List.mem_append_left _ h))))))))))))))))))
theorem inr_7 : ∀ w ∈ wsL_law_r7, w ∈ wsL_law := fun _ h => (List.mem_append_left _ (List.mem_append_left _ (List.mem_append_left _ (List.mem_append_left _ (List.mem_append_left _ (List.mem_append_left _ (List.mem_append_left _ (List.mem_append_left _ (List.mem_append_left _ (List.mem_append_left _ (List.mem_append_left _ (List.mem_append_left _ (List.mem_append_right _ (List.mem_append_right _ (List.mem_append_right _ (List.mem_append_right _ (List.mem_append_right _ (List.mem_append_right _ (List.mem_append_left _ h)))))))))))))))))))
theorem inr_8 : ∀ w ∈ wsL_law_r8, w ∈ wsL_law := fun _ h => (List.mem_append_left _ (List.mem_append_left _ (List.mem_append_left _ (List.mem_append_left _ (List.mem_append_left _ (List.mem_append_left _ (List.mem_append_left _ (List.mem_append_left _ (List.mem_append_left _ (List.mem_append_left _ (List.mem_append_left _ (List.mem_append_left _ (List.mem_append_right _ (List.mem_append_right _ (List.mem_append_right _ (List.mem_append_right _ (List.mem_append_right _ (List.mem_append_right _ (List.mem_append_right _ (List.mem_append_left _ h))))))))))))))))))))
theorem inr_9 : ∀ w ∈ wsL_law_r9, w ∈ wsL_law := fun _ h => (List.mem_append_left _ (List.mem_append_left _ (List.mem_append_left _ (List.mem_append_left _ (List.mem_append_left _ (List.mem_append_left _ (List.mem_append_left _ (List.mem_append_left _ (List.mem_append_left _ (List.mem_append_left _ (List.mem_append_left _ (List.mem_append_left _ (List.mem_append_right _ (List.mem_append_right _ (List.mem_append_right _ (List.mem_append_right _ (List.mem_append_right _ (List.mem_append_right _ (List.mem_append_right _ (List.mem_append_right _ (List.mem_append_left _ h)))))))))))))))))))))
theorem inr_10 : ∀ w ∈ wsL_law_r10, w ∈ wsL_law := fun _ h => (List.mem_append_left _ (List.mem_append_left _ (List.mem_append_left _ (List.mem_append_left _ (List.mem_append_left _ (List.mem_append_left _ (List.mem_append_left _ (List.mem_append_left _ (List.mem_append_left _ (List.mem_append_left _ (List.mem_append_left _ (List.mem_append_left _ (List.mem_append_right _ (List.mem_append_right _ (List.mem_append_right _ (List.mem_append_right _ (List.mem_append_right _ (List.mem_append_right _ (List.mem_append_right _ (List.mem_append_right _ (List.mem_append_right _ (List.mem_append_left _ h))))))))))))))))))))))
theorem inr_11 : ∀ w ∈ wsL_law_r11, w ∈ wsL_law := fun _ h => (List.mem_append_left _ (List.mem_append_left _ (List.mem_append_left _ (List.mem_append_left _ (List.mem_append_left _ (List.mem_append_left _ (List.mem_append_left _ (List.mem_append_left _ (List.mem_append_left _ (List.mem_append_left _ (List.mem_append_left _ (List.mem_append_left _ (List.mem_append_right _ (List.mem_append_right _ (List.mem_append_right _ (List.mem_append_right _ (List.mem_append_right _ (List.mem_append_right _ (List.mem_append_right _ (List.mem_append_right _ (List.mem_append_right _ (List.mem_append_right _ (List.mem_append_left _ h)))))))))))))))))))))))
theorem inr_12 : ∀ w ∈ wsL_law_r12, w ∈ wsL_law := fun _ h => (List.mem_append_left _ (List.mem_append_left _ (List.mem_append_left _ (List.mem_append_left _ (List.mem_append_left _ (List.mem_append_left _ (List.mem_append_left _ (List.mem_append_left _ (List.mem_append_left _ (List.mem_append_left _ (List.mem_append_left _ (List.mem_append_left _ (List.mem_append_right _ (List.mem_append_right _ (List.mem_append_right _ (List.mem_append_right _ (List.mem_append_right _ (List.mem_append_right _ (List.mem_append_right _ (List.mem_append_right _ (List.mem_append_right _ (List.mem_append_right _ (List.mem_append_right _ (List.mem_append_left _ h))))))))))))))))))))))))
theorem inr_13 : ∀ w ∈ wsL_law_r13, w ∈ wsL_law := fun _ h => (List.mem_append_left _ (List.mem_append_left _ (List.mem_append_left _ (List.mem_append_left _ (List.mem_append_left _ (List.mem_append_left _ (List.mem_append_left _ (List.mem_append_left _ (List.mem_append_left _ (List.mem_append_left _ (List.mem_append_left _ (List.mem_append_left _ (List.mem_append_right _ (List.mem_append_right _ (List.mem_append_right _ (List.mem_append_right _ (List.mem_append_right _ (List.mem_append_right _ (List.mem_append_right _ (List.mem_append_right _ (List.mem_append_right _ (List.mem_append_right _ (List.mem_append_right _ (List.mem_append_right _ (List.mem_append_left _ h)))))))))))))))))))))))))
theorem inr_14 : ∀ w ∈ wsL_law_r14, w ∈ wsL_law := fun _ h => (List.mem_append_left _ (List.mem_append_left _ (List.mem_append_left _ (List.mem_append_left _ (List.mem_append_left _ (List.mem_append_left _ (List.mem_append_left _ (List.mem_append_left _ (List.mem_append_left _ (List.mem_append_left _ (List.mem_append_left _ (List.mem_append_left _ (List.mem_append_right _ (List.mem_append_right _ (List.mem_append_right _ (List.mem_append_right _ (List.mem_append_right _ (List.mem_append_right _ (List.mem_append_right _ (List.mem_append_right _ (List.mem_append_right _ (List.mem_append_right _ (List.mem_append_right _ (List.mem_append_right _ (List.mem_append_right _ (List.mem_append_left _ h))))))))))))))))))))))))))
theorem inr_15 : ∀ w ∈ wsL_law_r15, w ∈ wsL_law := fun _ h => (List.mem_append_left _ (List.mem_append_left _ (List.mem_append_left _ (List.mem_append_left _ (List.mem_append_left _ (List.mem_append_left _ (List.mem_append_left _ (List.mem_append_left _ (List.mem_append_left _ (List.mem_append_left _ (List.mem_append_left _ (List.mem_append_left _ (List.mem_append_right _ (List.mem_append_right _ (List.mem_append_right _ (List.mem_append_right _ (List.mem_append_right _ (List.mem_append_right _ (List.mem_append_right _ (List.mem_append_right _ (List.mem_append_right _ (List.mem_append_right _ (List.mem_append_right _ (List.mem_append_right _ (List.mem_append_right _ (List.mem_append_right _ (List.mem_append_left _ h)))))))))))))))))))))))))))
theorem inr_16 : ∀ w ∈ wsL_law_r16, w ∈ wsL_law := fun _ h => (List.mem_append_left _ (List.mem_append_left _ (List.mem_append_left _ (List.mem_append_left _ (List.mem_append_left _ (List.mem_append_left _ (List.mem_append_left _ (List.mem_append_left _ (List.mem_append_left _ (List.mem_append_left _ (List.mem_append_left _ (List.mem_append_left _ (List.mem_append_right _ (List.mem_append_right _ (List.mem_append_right _ (List.mem_append_right _ (List.mem_append_right _ (List.mem_append_right _ (List.mem_append_right _ (List.mem_append_right _ (List.mem_append_right _ (List.mem_append_right _ (List.mem_append_right _ (List.mem_append_right _ (List.mem_append_right _ (List.mem_append_right _ (List.mem_append_right _ (List.mem_append_left _ h))))))))))))))))))))))))))))
theorem inr_17 : ∀ w ∈ wsL_law_r17, w ∈ wsL_law := fun _ h => (List.mem_append_left _ (List.mem_append_left _ (List.mem_append_left _ (List.mem_append_left _ (List.mem_append_left _ (List.mem_append_left _ (List.mem_append_left _ (List.mem_append_left _ (List.mem_append_left _ (List.mem_append_left _ (List.mem_append_left _ (List.mem_append_left _ (List.mem_append_right _ (List.mem_append_right _ (List.mem_append_right _ (List.mem_append_right _ (List.mem_append_right _ (List.mem_append_right _ (List.mem_append_right _ (List.mem_append_right _ (List.mem_append_right _ (List.mem_append_right _ (List.mem_append_right _ (List.mem_append_right _ (List.mem_append_right _ (List.mem_append_right _ (List.mem_append_right _ (List.mem_append_right _ (List.mem_append_left _ h)))))))))))))))))))))))))))))
theorem inr_18 : ∀ w ∈ wsL_law_r18, w ∈ wsL_law := fun _ h => (List.mem_append_left _ (List.mem_append_left _ (List.mem_append_left _ (List.mem_append_left _ (List.mem_append_left _ (List.mem_append_left _ (List.mem_append_left _ (List.mem_append_left _ (List.mem_append_left _ (List.mem_append_left _ (List.mem_append_left _ (List.mem_append_left _ (List.mem_append_right _ (List.mem_append_right _ (List.mem_append_right _ (List.mem_append_right _ (List.mem_append_right _ (List.mem_append_right _ (List.mem_append_right _ (List.mem_append_right _ (List.mem_append_right _ (List.mem_append_right _ (List.mem_append_right _ (List.mem_append_right _ (List.mem_append_right _ (List.mem_append_right _ (List.mem_append_right _ (List.mem_append_right _ (List.mem_append_right _ (List.mem_append_left _ h))))))))))))))))))))))))))))))
theorem inr_19 : ∀ w ∈ wsL_law_r19, w ∈ wsL_law := fun _ h => (List.mem_append_left _ (List.mem_append_left _ (List.mem_append_left _ (List.mem_append_left _ (List.mem_append_left _ (List.mem_append_left _ (List.mem_append_left _ (List.mem_append_left _ (List.mem_append_left _ (List.mem_append_left _ (List.mem_append_left _ (List.mem_append_left _ (List.mem_append_right _ (List.mem_append_right _ (List.mem_append_right _ (List.mem_append_right _ (List.mem_append_right _ (List.mem_append_right _ (List.mem_append_right _ (List.mem_append_right _ (List.mem_append_right _ (List.mem_append_right _ (List.mem_append_right _ (List.mem_append_right _ (List.mem_append_right _ (List.mem_append_right _ (List.mem_append_right _ (List.mem_append_right _ (List.mem_append_right _ (List.mem_append_right _ (List.mem_append_left _ h)))))))))))))))))))))))))))))))
theorem inr_20 : ∀ w ∈ wsL_law_r20, w ∈ wsL_law := fun _ h => (List.mem_append_left _ (List.mem_append_left _ (List.mem_append_left _ (List.mem_append_left _ (List.mem_append_left _ (List.mem_append_left _ (List.mem_append_left _ (List.mem_append_left _ (List.mem_append_left _ (List.mem_append_left _ (List.mem_append_left _ (List.mem_append_left _ (List.mem_append_right _ (List.mem_append_right _ (List.mem_append_right _ (List.mem_append_right _ (List.mem_append_right _ (List.mem_append_right _ (List.mem_append_right _ (List.mem_append_right _ (List.mem_append_right _ (List.mem_append_right _ (List.mem_append_right _ (List.mem_append_right _ (List.mem_append_right _ (List.mem_append_right _ (List.mem_append_right _ (List.mem_append_right _ (List.mem_append_right _ (List.mem_append_right _ (List.mem_append_right _ (List.mem_append_left _ h))))))))))))))))))))))))))))))))
theorem inr_21 : ∀ w ∈ wsL_law_r21, w ∈ wsL_law := fun _ h => (List.mem_append_left _ (List.mem_append_left _ (List.mem_append_left _ (List.mem_append_left _ (List.mem_append_left _ (List.mem_append_left _ (List.mem_append_left _ (List.mem_append_left _ (List.mem_append_left _ (List.mem_append_left _ (List.mem_append_left _ (List.mem_append_left _ (List.mem_append_right _ (List.mem_append_right _ (List.mem_append_right _ (List.mem_append_right _ (List.mem_append_right _ (List.mem_append_right _ (List.mem_append_right _ (List.mem_append_right _ (List.mem_append_right _ (List.mem_append_right _ (List.mem_append_right _ (List.mem_append_right _ (List.mem_append_right _ (List.mem_append_right _ (List.mem_append_right _ (List.mem_append_right _ (List.mem_append_right _ (List.mem_append_right _ (List.mem_append_right _ (List.mem_append_right _ (List.mem_append_left _ h)))))))))))))))))))))))))))))))))
theorem inr_22 : ∀ w ∈ wsL_law_r22, w ∈ wsL_law := fun _ h => (List.mem_append_left _ (List.mem_append_left _ (List.mem_append_left _ (List.mem_append_left _ (List.mem_append_left _ (List.mem_append_left _ (List.mem_append_left _ (List.mem_append_left _ (List.mem_append_left _ (List.mem_append_left _ (List.mem_append_left _ (List.mem_append_left _ (List.mem_append_right _ (List.mem_append_right _ (List.mem_append_right _ (List.mem_append_right _ (List.mem_append_right _ (List.mem_append_right _ (List.mem_append_right _ (List.mem_append_right _ (List.mem_append_right _ (List.mem_append_right _ (List.mem_append_right _ (List.mem_append_right _ (List.mem_append_right _ (List.mem_append_right _ (List.mem_append_right _ (List.mem_append_right _ (List.mem_append_right _ (List.mem_append_right _ (List.mem_append_right _ (List.mem_append_right _ (List.mem_append_right _ (List.mem_append_left _ h))))))))))))))))))))))))))))))))))
theorem inr_23 : ∀ w ∈ wsL_law_r23, w ∈ wsL_law := fun _ h => (List.mem_append_left _ (List.mem_append_left _ (List.mem_append_left _ (List.mem_append_left _ (List.mem_append_left _ (List.mem_append_left _ (List.mem_append_left _ (List.mem_append_left _ (List.mem_append_left _ (List.mem_append_left _ (List.mem_append_left _ (List.mem_append_left _ (List.mem_append_right _ (List.mem_append_right _ (List.mem_append_right _ (List.mem_append_right _ (List.mem_append_right _ (List.mem_append_right _ (List.mem_append_right _ (List.mem_append_right _ (List.mem_append_right _ (List.mem_append_right _ (List.mem_append_right _ (List.mem_append_right _ (List.mem_append_right _ (List.mem_append_right _ (List.mem_append_right _ (List.mem_append_right _ (List.mem_append_right _ (List.mem_append_right _ (List.mem_append_right _ (List.mem_append_right _ (List.mem_append_right _ (List.mem_append_right _ (List.mem_append_left _ h)))))))))))))))))))))))))))))))))))
theorem inr_24 : ∀ w ∈ wsL_law_r24, w ∈ wsL_law := fun _ h => (List.mem_append_left _ (List.mem_append_left _ (List.mem_append_left _ (List.mem_append_left _ (List.mem_append_left _ (List.mem_append_left _ (List.mem_append_left _ (List.mem_append_left _ (List.mem_append_left _ (List.mem_append_left _ (List.mem_append_left _ (List.mem_append_left _ (List.mem_append_right _ (List.mem_append_right _ (List.mem_append_right _ (List.mem_append_right _ (List.mem_append_right _ (List.mem_append_right _ (List.mem_append_right _ (List.mem_append_right _ (List.mem_append_right _ (List.mem_append_right _ (List.mem_append_right _ (List.mem_append_right _ (List.mem_append_right _ (List.mem_append_right _ (List.mem_append_right _ (List.mem_append_right _ (List.mem_append_right _ (List.mem_append_right _ (List.mem_append_right _ (List.mem_append_right _ (List.mem_append_right _ (List.mem_append_right _ (List.mem_append_right _ (List.mem_append_left _ h))))))))))))))))))))))))))))))))))))
theorem inr_25 : ∀ w ∈ wsL_law_r25, w ∈ wsL_law := fun _ h => (List.mem_append_left _ (List.mem_append_left _ (List.mem_append_left _ (List.mem_append_left _ (List.mem_append_left _ (List.mem_append_left _ (List.mem_append_left _ (List.mem_append_left _ (List.mem_append_left _ (List.mem_append_left _ (List.mem_append_left _ (List.mem_append_left _ (List.mem_append_right _ (List.mem_append_right _ (List.mem_append_right _ (List.mem_append_right _ (List.mem_append_right _ (List.mem_append_right _ (List.mem_append_right _ (List.mem_append_right _ (List.mem_append_right _ (List.mem_append_right _ (List.mem_append_right _ (List.mem_append_right _ (List.mem_append_right _ (List.mem_append_right _ (List.mem_append_right _ (List.mem_append_right _ (List.mem_append_right _ (List.mem_append_right _ (List.mem_append_right _ (List.mem_append_right _ (List.mem_append_right _ (List.mem_append_right _ (List.mem_append_right _ (List.mem_append_right _ (List.mem_append_left _ h)))))))))))))))))))))))))))))))))))))
theorem inr_26 : ∀ w ∈ wsL_law_r26, w ∈ wsL_law := fun _ h => (List.mem_append_left _ (List.mem_append_left _ (List.mem_append_left _ (List.mem_append_left _ (List.mem_append_left _ (List.mem_append_left _ (List.mem_append_left _ (List.mem_append_left _ (List.mem_append_left _ (List.mem_append_left _ (List.mem_append_left _ (List.mem_append_left _ (List.mem_append_right _ (List.mem_append_right _ (List.mem_append_right _ (List.mem_append_right _ (List.mem_append_right _ (List.mem_append_right _ (List.mem_append_right _ (List.mem_append_right _ (List.mem_append_right _ (List.mem_append_right _ (List.mem_append_right _ (List.mem_append_right _ (List.mem_append_right _ (List.mem_append_right _ (List.mem_append_right _ (List.mem_append_right _ (List.mem_append_right _ (List.mem_append_right _ (List.mem_append_right _ (List.mem_append_right _ (List.mem_append_right _ (List.mem_append_right _ (List.mem_append_right _ (List.mem_append_right _ (List.mem_append_right _ (List.mem_append_left _ h))))))))))))))))))))))))))))))))))))))
theorem inr_27 : ∀ w ∈ wsL_law_r27, w ∈ wsL_law := fun _ h => (List.mem_append_left _ (List.mem_append_left _ (List.mem_append_left _ (List.mem_append_left _ (List.mem_append_left _ (List.mem_append_left _ (List.mem_append_left _ (List.mem_append_left _ (List.mem_append_left _ (List.mem_append_left _ (List.mem_append_left _ (List.mem_append_left _ (List.mem_append_right _ (List.mem_append_right _ (List.mem_append_right _ (List.mem_append_right _ (List.mem_append_right _ (List.mem_append_right _ (List.mem_append_right _ (List.mem_append_right _ (List.mem_append_right _ (List.mem_append_right _ (List.mem_append_right _ (List.mem_append_right _ (List.mem_append_right _ (List.mem_append_right _ (List.mem_append_right _ (List.mem_append_right _ (List.mem_append_right _ (List.mem_append_right _ (List.mem_append_right _ (List.mem_append_right _ (List.mem_append_right _ (List.mem_append_right _ (List.mem_append_right _ (List.mem_append_right _ (List.mem_append_right _ (List.mem_append_right _ (List.mem_append_left _ h)))))))))))))))))))))))))))))))))))))))
theorem inr_28 : ∀ w ∈ wsL_law_r28, w ∈ wsL_law := fun _ h => (List.mem_append_left _ (List.mem_append_left _ (List.mem_append_left _ (List.mem_append_left _ (List.mem_append_left _ (List.mem_append_left _ (List.mem_append_left _ (List.mem_append_left _ (List.mem_append_left _ (List.mem_append_left _ (List.mem_append_left _ (List.mem_append_left _ (List.mem_append_right _ (List.mem_append_right _ (List.mem_append_right _ (List.mem_append_right _ (List.mem_append_right _ (List.mem_append_right _ (List.mem_append_right _ (List.mem_append_right _ (List.mem_append_right _ (List.mem_append_right _ (List.mem_append_right _ (List.mem_append_right _ (List.mem_append_right _ (List.mem_append_right _ (List.mem_append_right _ (List.mem_append_right _ (List.mem_append_right _ (List.mem_append_right _ (List.mem_append_right _ (List.mem_append_right _ (List.mem_append_right _ (List.mem_append_right _ (List.mem_append_right _ (List.mem_append_right _ (List.mem_append_right _ (List.mem_append_right _ (List.mem_append_right _ (List.mem_append_left _ h))))))))))))))))))))))))))))))))))))))))
theorem inr_29 : ∀ w ∈ wsL_law_r29, w ∈ wsL_law := fun _ h => (List.mem_append_left _ (List.mem_append_left _ (List.mem_append_left _ (List.mem_append_left _ (List.mem_append_left _ (List.mem_append_left _ (List.mem_append_left _ (List.mem_append_left _ (List.mem_append_left _ (List.mem_append_left _ (List.mem_append_left _ (List.mem_append_left _ (List.mem_append_right _ (List.mem_append_right _ (List.mem_append_right _ (List.mem_append_right _ (List.mem_append_right _ (List.mem_append_right _ (List.mem_append_right _ (List.mem_append_right _ (List.mem_append_right _ (List.mem_append_right _ (List.mem_append_right _ (List.mem_append_right _ (List.mem_append_right _ (List.mem_append_right _ (List.mem_append_right _ (List.mem_append_right _ (List.mem_append_right _ (List.mem_append_right _ (List.mem_append_right _ (List.mem_append_right _ (List.mem_append_right _ (List.mem_append_right _ (List.mem_append_right _ (List.mem_append_right _ (List.mem_append_right _ (List.mem_append_right _ (List.mem_append_right _ (List.mem_append_right _ (List.mem_append_left _ h)))))))))))))))))))))))))))))))))))))))))
theorem inr_30 : ∀ w ∈ wsL_law_r30, w ∈ wsL_law := fun _ h => (List.mem_append_left _ (List.mem_append_left _ (List.mem_append_left _ (List.mem_append_left _ (List.mem_append_left _ (List.mem_append_left _ (List.mem_append_left _ (List.mem_append_left _ (List.mem_append_left _ (List.mem_append_left _ (List.mem_append_left _ (List.mem_append_left _ (List.mem_append_right _ (List.mem_append_right _ (List.mem_append_right _ (List.mem_append_right _ (List.mem_append_right _ (List.mem_append_right _ (List.mem_append_right _ (List.mem_append_right _ (List.mem_append_right _ (List.mem_append_right _ (List.mem_append_right _ (List.mem_append_right _ (List.mem_append_right _ (List.mem_append_right _ (List.mem_append_right _ (List.mem_append_right _ (List.mem_append_right _ (List.mem_append_right _ (List.mem_append_right _ (List.mem_append_right _ (List.mem_append_right _ (List.mem_append_right _ (List.mem_append_right _ (List.mem_append_right _ (List.mem_append_right _ (List.mem_append_right _ (List.mem_append_right _ (List.mem_append_right _ (List.mem_append_right _ (List.mem_append_left _ h))))))))))))))))))))))))))))))))))))))))))
theorem inr_31 : ∀ w ∈ wsL_law_r31, w ∈ wsL_law := fun _ h => (List.mem_append_left _ (List.mem_append_left _ (List.mem_append_left _ (List.mem_append_left _ (List.mem_append_left _ (List.mem_append_left _ (List.mem_append_left _ (List.mem_append_left _ (List.mem_append_left _ (List.mem_append_left _ (List.mem_append_left _ (List.mem_append_left _ (List.mem_append_right _ (List.mem_append_right _ (List.mem_append_right _ (List.mem_append_right _ (List.mem_append_right _ (List.mem_append_right _ (List.mem_append_right _ (List.mem_append_right _ (List.mem_append_right _ (List.mem_append_right _ (List.mem_append_right _ (List.mem_append_right _ (List.mem_append_right _ (List.mem_append_right _ (List.mem_append_right _ (List.mem_append_right _ (List.mem_append_right _ (List.mem_append_right _ (List.mem_append_right _ (List.mem_append_right _ (List.mem_append_right _ (List.mem_append_right _ (List.mem_append_right _ (List.mem_append_right _ (List.mem_append_right _ (List.mem_append_right _ (List.mem_append_right _ (List.mem_append_right _ (List.mem_append_right _ (List.mem_append_right _ (List.mem_append_left _ h)))))))))))))))))))))))))))))))))))))))))))
theorem inr_32 : ∀ w ∈ wsL_law_r32, w ∈ wsL_law := fun _ h => (List.mem_append_left _ (List.mem_append_left _ (List.mem_append_left _ (List.mem_append_left _ (List.mem_append_left _ (List.mem_append_left _ (List.mem_append_left _ (List.mem_append_left _ (List.mem_append_left _ (List.mem_append_left _ (List.mem_append_left _ (List.mem_append_left _ (List.mem_append_right _ (List.mem_append_right _ (List.mem_append_right _ (List.mem_append_right _ (List.mem_append_right _ (List.mem_append_right _ (List.mem_append_right _ (List.mem_append_right _ (List.mem_append_right _ (List.mem_append_right _ (List.mem_append_right _ (List.mem_append_right _ (List.mem_append_right _ (List.mem_append_right _ (List.mem_append_right _ (List.mem_append_right _ (List.mem_append_right _ (List.mem_append_right _ (List.mem_append_right _ (List.mem_append_right _ (List.mem_append_right _ (List.mem_append_right _ (List.mem_append_right _ (List.mem_append_right _ (List.mem_append_right _ (List.mem_append_right _ (List.mem_append_right _ (List.mem_append_right _ (List.mem_append_right _ (List.mem_append_right _ (List.mem_append_right _ (List.mem_append_left _ h))))))))))))))))))))))))))))))))))))))))))))
theorem inr_33 : ∀ w ∈ wsL_law_r33, w ∈ wsL_law := fun _ h => (List.mem_append_left _ (List.mem_append_left _ (List.mem_append_left _ (List.mem_append_left _ (List.mem_append_left _ (List.mem_append_left _ (List.mem_append_left _ (List.mem_append_left _ (List.mem_append_left _ (List.mem_append_left _ (List.mem_append_left _ (List.mem_append_left _ (List.mem_append_right _ (List.mem_append_right _ (List.mem_append_right _ (List.mem_append_right _ (List.mem_append_right _ (List.mem_append_right _ (List.mem_append_right _ (List.mem_append_right _ (List.mem_append_right _ (List.mem_append_right _ (List.mem_append_right _ (List.mem_append_right _ (List.mem_append_right _ (List.mem_append_right _ (List.mem_append_right _ (List.mem_append_right _ (List.mem_append_right _ (List.mem_append_right _ (List.mem_append_right _ (List.mem_append_right _ (List.mem_append_right _ (List.mem_append_right _ (List.mem_append_right _ (List.mem_append_right _ (List.mem_append_right _ (List.mem_append_right _ (List.mem_append_right _ (List.mem_append_right _ (List.mem_append_right _ (List.mem_append_right _ (List.mem_append_right _ (List.mem_append_right _ (List.mem_append_left _ h)))))))))))))))))))))))))))))))))))))))))))))
theorem inr_34 : ∀ w ∈ wsL_law_r34, w ∈ wsL_law := fun _ h => (List.mem_append_left _ (List.mem_append_left _ (List.mem_append_left _ (List.mem_append_left _ (List.mem_append_left _ (List.mem_append_left _ (List.mem_append_left _ (List.mem_append_left _ (List.mem_append_left _ (List.mem_append_left _ (List.mem_append_left _ (List.mem_append_left _ (List.mem_append_right _ (List.mem_append_right _ (List.mem_append_right _ (List.mem_append_right _ (List.mem_append_right _ (List.mem_append_right _ (List.mem_append_right _ (List.mem_append_right _ (List.mem_append_right _ (List.mem_append_right _ (List.mem_append_right _ (List.mem_append_right _ (List.mem_append_right _ (List.mem_append_right _ (List.mem_append_right _ (List.mem_append_right _ (List.mem_append_right _ (List.mem_append_right _ (List.mem_append_right _ (List.mem_append_right _ (List.mem_append_right _ (List.mem_append_right _ (List.mem_append_right _ (List.mem_append_right _ (List.mem_append_right _ (List.mem_append_right _ (List.mem_append_right _ (List.mem_append_right _ (List.mem_append_right _ (List.mem_append_right _ (List.mem_append_right _ (List.mem_append_right _ (List.mem_append_right _ (List.mem_append_left _ h))))))))))))))))))))))))))))))))))))))))))))))
theorem inr_35 : ∀ w ∈ wsL_law_r35, w ∈ wsL_law := fun _ h => (List.mem_append_left _ (List.mem_append_left _ (List.mem_append_left _ (List.mem_append_left _ (List.mem_append_left _ (List.mem_append_left _ (List.mem_append_left _ (List.mem_append_left _ (List.mem_append_left _ (List.mem_append_left _ (List.mem_append_left _ (List.mem_append_left _ (List.mem_append_right _ (List.mem_append_right _ (List.mem_append_right _ (List.mem_append_right _ (List.mem_append_right _ (List.mem_append_right _ (List.mem_append_right _ (List.mem_append_right _ (List.mem_append_right _ (List.mem_append_right _ (List.mem_append_right _ (List.mem_append_right _ (List.mem_append_right _ (List.mem_append_right _ (List.mem_append_right _ (List.mem_append_right _ (List.mem_append_right _ (List.mem_append_right _ (List.mem_append_right _ (List.mem_append_right _ (List.mem_append_right _ (List.mem_append_right _ (List.mem_append_right _ (List.mem_append_right _ (List.mem_append_right _ (List.mem_append_right _ (List.mem_append_right _ (List.mem_append_right _ (List.mem_append_right _ (List.mem_append_right _ (List.mem_append_right _ (List.mem_append_right _ (List.mem_append_right _ (List.mem_append_right _ (List.mem_append_left _ h)))))))))))))))))))))))))))))))))))))))))))))))
theorem inr_36 : ∀ w ∈ wsL_law_r36, w ∈ wsL_law := fun _ h => (List.mem_append_left _ (List.mem_append_left _ (List.mem_append_left _ (List.mem_append_left _ (List.mem_append_left _ (List.mem_append_left _ (List.mem_append_left _ (List.mem_append_left _ (List.mem_append_left _ (List.mem_append_left _ (List.mem_append_left _ (List.mem_append_left _ (List.mem_append_right _ (List.mem_append_right _ (List.mem_append_right _ (List.mem_append_right _ (List.mem_append_right _ (List.mem_append_right _ (List.mem_append_right _ (List.mem_append_right _ (List.mem_append_right _ (List.mem_append_right _ (List.mem_append_right _ (List.mem_append_right _ (List.mem_append_right _ (List.mem_append_right _ (List.mem_append_right _ (List.mem_append_right _ (List.mem_append_right _ (List.mem_append_right _ (List.mem_append_right _ (List.mem_append_right _ (List.mem_append_right _ (List.mem_append_right _ (List.mem_append_right _ (List.mem_append_right _ (List.mem_append_right _ (List.mem_append_right _ (List.mem_append_right _ (List.mem_append_right _ (List.mem_append_right _ (List.mem_append_right _ (List.mem_append_right _ (List.mem_append_right _ (List.mem_append_right _ (List.mem_append_right _ (List.mem_append_right _ (List.mem_append_left _ h))))))))))))))))))))))))))))))))))))))))))))))))
theorem inr_37 : ∀ w ∈ wsL_law_r37, w ∈ wsL_law := fun _ h => (List.mem_append_left _ (List.mem_append_left _ (List.mem_append_left _ (List.mem_append_left _ (List.mem_append_left _ (List.mem_append_left _ (List.mem_append_left _ (List.mem_append_left _ (List.mem_append_left _ (List.mem_append_left _ (List.mem_append_left _ (List.mem_append_left _ (List.mem_append_right _ (List.mem_append_right _ (List.mem_append_right _ (List.mem_append_right _ (List.mem_append_right _ (List.mem_append_right _ (List.mem_append_right _ (List.mem_append_right _ (List.mem_append_right _ (List.mem_append_right _ (List.mem_append_right _ (List.mem_append_right _ (List.mem_append_right _ (List.mem_append_right _ (List.mem_append_right _ (List.mem_append_right _ (List.mem_append_right _ (List.mem_append_right _ (List.mem_append_right _ (List.mem_append_right _ (List.mem_append_right _ (List.mem_append_right _ (List.mem_append_right _ (List.mem_append_right _ (List.mem_append_right _ (List.mem_append_right _ (List.mem_append_right _ (List.mem_append_right _ (List.mem_append_right _ (List.mem_append_right _ (List.mem_append_right _ (List.mem_append_right _ (List.mem_append_right _ (List.mem_append_right _ (List.mem_append_right _ (List.mem_append_right _ (List.mem_append_left _ h)))))))))))))))))))))))))))))))))))))))))))))))))
theorem inr_38 : ∀ w ∈ wsL_law_r38, w ∈ wsL_law := fun _ h => (List.mem_append_left _ (List.mem_append_left _ (List.mem_append_left _ (List.mem_append_left _ (List.mem_append_left _ (List.mem_append_left _ (List.mem_append_left _ (List.mem_append_left _ (List.mem_append_left _ (List.mem_append_left _ (List.mem_append_left _ (List.mem_append_left _ (List.mem_append_right _ (List.mem_append_right _ (List.mem_append_right _ (List.mem_append_right _ (List.mem_append_right _ (List.mem_append_right _ (List.mem_append_right _ (List.mem_append_right _ (List.mem_append_right _ (List.mem_append_right _ (List.mem_append_right _ (List.mem_append_right _ (List.mem_append_right _ (List.mem_append_right _ (List.mem_append_right _ (List.mem_append_right _ (List.mem_append_right _ (List.mem_append_right _ (List.mem_append_right _ (List.mem_append_right _ (List.mem_append_right _ (List.mem_append_right _ (List.mem_append_right _ (List.mem_append_right _ (List.mem_append_right _ (List.mem_append_right _ (List.mem_append_right _ (List.mem_append_right _ (List.mem_append_right _ (List.mem_append_right _ (List.mem_append_right _ (List.mem_append_right _ (List.mem_append_right _ (List.mem_append_right _ (List.mem_append_right _ (List.mem_append_right _ (List.mem_append_right _ (List.mem_append_left _ h))))))))))))))))))))))))))))))))))))))))))))))))))
theorem inr_39 : ∀ w ∈ wsL_law_r39, w ∈ wsL_law := fun _ h => (List.mem_append_left _ (List.mem_append_left _ (List.mem_append_left _ (List.mem_append_left _ (List.mem_append_left _ (List.mem_append_left _ (List.mem_append_left _ (List.mem_append_left _ (List.mem_append_left _ (List.mem_append_left _ (List.mem_append_left _ (List.mem_append_left _ (List.mem_append_right _ (List.mem_append_right _ (List.mem_append_right _ (List.mem_append_right _ (List.mem_append_right _ (List.mem_append_right _ (List.mem_append_right _ (List.mem_append_right _ (List.mem_append_right _ (List.mem_append_right _ (List.mem_append_right _ (List.mem_append_right _ (List.mem_append_right _ (List.mem_append_right _ (List.mem_append_right _ (List.mem_append_right _ (List.mem_append_right _ (List.mem_append_right _ (List.mem_append_right _ (List.mem_append_right _ (List.mem_append_right _ (List.mem_append_right _ (List.mem_append_right _ (List.mem_append_right _ (List.mem_append_right _ (List.mem_append_right _ (List.mem_append_right _ (List.mem_append_right _ (List.mem_append_right _ (List.mem_append_right _ (List.mem_append_right _ (List.mem_append_right _ (List.mem_append_right _ (List.mem_append_right _ (List.mem_append_right _ (List.mem_append_right _ (List.mem_append_right _ (List.mem_append_right _ (List.mem_append_left _ h)))))))))))))))))))))))))))))))))))))))))))))))))))
theorem inr_40 : ∀ w ∈ wsL_law_r40, w ∈ wsL_law := fun _ h => (List.mem_append_left _ (List.mem_append_left _ (List.mem_append_left _ (List.mem_append_left _ (List.mem_append_left _ (List.mem_append_left _ (List.mem_append_left _ (List.mem_append_left _ (List.mem_append_left _ (List.mem_append_left _ (List.mem_append_left _ (List.mem_append_left _ (List.mem_append_right _ (List.mem_append_right _ (List.mem_append_right _ (List.mem_append_right _ (List.mem_append_right _ (List.mem_append_right _ (List.mem_append_right _ (List.mem_append_right _ (List.mem_append_right _ (List.mem_append_right _ (List.mem_append_right _ (List.mem_append_right _ (List.mem_append_right _ (List.mem_append_right _ (List.mem_append_right _ (List.mem_append_right _ (List.mem_append_right _ (List.mem_append_right _ (List.mem_append_right _ (List.mem_append_right _ (List.mem_append_right _ (List.mem_append_right _ (List.mem_append_right _ (List.mem_append_right _ (List.mem_append_right _ (List.mem_append_right _ (List.mem_append_right _ (List.mem_append_right _ (List.mem_append_right _ (List.mem_append_right _ (List.mem_append_right _ (List.mem_append_right _ (List.mem_append_right _ (List.mem_append_right _ (List.mem_append_right _ (List.mem_append_right _ (List.mem_append_right _ (List.mem_append_right _ (List.mem_append_right _ (List.mem_append_left _ h))))))))))))))))))))))))))))))))))))))))))))))))))))
theorem inr_41 : ∀ w ∈ wsL_law_r41, w ∈ wsL_law := fun _ h => (List.mem_append_left _ (List.mem_append_left _ (List.mem_append_left _ (List.mem_append_left _ (List.mem_append_left _ (List.mem_append_left _ (List.mem_append_left _ (List.mem_append_left _ (List.mem_append_left _ (List.mem_append_left _ (List.mem_append_left _ (List.mem_append_left _ (List.mem_append_right _ (List.mem_append_right _ (List.mem_append_right _ (List.mem_append_right _ (List.mem_append_right _ (List.mem_append_right _ (List.mem_append_right _ (List.mem_append_right _ (List.mem_append_right _ (List.mem_append_right _ (List.mem_append_right _ (List.mem_append_right _ (List.mem_append_right _ (List.mem_append_right _ (List.mem_append_right _ (List.mem_append_right _ (List.mem_append_right _ (List.mem_append_right _ (List.mem_append_right _ (List.mem_append_right _ (List.mem_append_right _ (List.mem_append_right _ (List.mem_append_right _ (List.mem_append_right _ (List.mem_append_right _ (List.mem_append_right _ (List.mem_append_right _ (List.mem_append_right _ (List.mem_append_right _ (List.mem_append_right _ (List.mem_append_right _ (List.mem_append_right _ (List.mem_append_right _ (List.mem_append_right _ (List.mem_append_right _ (List.mem_append_right _ (List.mem_append_right _ (List.mem_append_right _ (List.mem_append_right _ (List.mem_append_right _ (List.mem_append_left _ h)))))))))))))))))))))))))))))))))))))))))))))))))))))
theorem inr_42 : ∀ w ∈ wsL_law_r42, w ∈ wsL_law := fun _ h => (List.mem_append_left _ (List.mem_append_left _ (List.mem_append_left _ (List.mem_append_left _ (List.mem_append_left _ (List.mem_append_left _ (List.mem_append_left _ (List.mem_append_left _ (List.mem_append_left _ (List.mem_append_left _ (List.mem_append_left _ (List.mem_append_left _ (List.mem_append_right _ (List.mem_append_right _ (List.mem_append_right _ (List.mem_append_right _ (List.mem_append_right _ (List.mem_append_right _ (List.mem_append_right _ (List.mem_append_right _ (List.mem_append_right _ (List.mem_append_right _ (List.mem_append_right _ (List.mem_append_right _ (List.mem_append_right _ (List.mem_append_right _ (List.mem_append_right _ (List.mem_append_right _ (List.mem_append_right _ (List.mem_append_right _ (List.mem_append_right _ (List.mem_append_right _ (List.mem_append_right _ (List.mem_append_right _ (List.mem_append_right _ (List.mem_append_right _ (List.mem_append_right _ (List.mem_append_right _ (List.mem_append_right _ (List.mem_append_right _ (List.mem_append_right _ (List.mem_append_right _ (List.mem_append_right _ (List.mem_append_right _ (List.mem_append_right _ (List.mem_append_right _ (List.mem_append_right _ (List.mem_append_right _ (List.mem_append_right _ (List.mem_append_right _ (List.mem_append_right _ (List.mem_append_right _ (List.mem_append_right _ h)))))))))))))))))))))))))))))))))))))))))))))))))))))
theorem fl_X0_9 : LkF RX0 9 0 2 := ⟨_, rfl, by decide, Or.inl (inr_5 _ (List.mem_of_getElem? (i := 13) rfl))⟩
theorem fl_X0_15 : LkF RX0 15 0 3 := ⟨_, rfl, by decide, Or.inl (inr_5 _ (List.mem_of_getElem? (i := 14) rfl))⟩
theorem fl_X0_18 : LkF RX0 18 0 0 := ⟨_, rfl, by decide, Or.inl (inr_5 _ (List.mem_of_getElem? (i := 15) rfl))⟩
theorem fl_X0_27 : LkF RX0 27 0 1 := ⟨_, rfl, by decide, Or.inl (inr_5 _ (List.mem_of_getElem? (i := 17) rfl))⟩
theorem fl_X0_31 : LkF RX0 31 0 4 := ⟨_, rfl, by decide, Or.inl (inr_12 _ (List.mem_of_getElem? (i := 3) rfl))⟩
theorem fl_X0_39 : LkF RX0 39 1 1 := ⟨_, rfl, by decide, Or.inr ⟨_, List.mem_of_getElem? (i := 46) rfl⟩⟩
theorem fl_X0_66 : LkF RX0 66 5 10 := ⟨_, rfl, by decide, Or.inr ⟨_, List.mem_of_getElem? (i := 22) rfl⟩⟩
theorem fl_X1_11 : LkF RX1 11 1 1 := ⟨_, rfl, by decide, Or.inl (inr_3 _ (List.mem_of_getElem? (i := 22) rfl))⟩
theorem fl_X1_15 : LkF RX1 15 1 0 := ⟨_, rfl, by decide, Or.inl (inr_3 _ (List.mem_of_getElem? (i := 23) rfl))⟩
theorem fl_X1_23 : LkF RX1 23 5 9 := ⟨_, rfl, by decide, Or.inr ⟨_, List.mem_of_getElem? (i := 20) rfl⟩⟩
theorem fl_X1_32 : LkF RX1 32 5 7 := ⟨_, rfl, by decide, Or.inr ⟨_, List.mem_of_getElem? (i := 15) rfl⟩⟩
theorem fl_X1_50 : LkF RX1 50 5 3 := ⟨_, rfl, by decide, Or.inr ⟨_, List.mem_of_getElem? (i := 11) rfl⟩⟩
theorem fl_X1_66 : LkF RX1 66 5 14 := ⟨_, rfl, by decide, Or.inr ⟨_, List.mem_of_getElem? (i := 41) rfl⟩⟩
theorem fl_X1_72 : LkF RX1 72 5 11 := ⟨_, rfl, by decide, Or.inr ⟨_, List.mem_of_getElem? (i := 30) rfl⟩⟩
theorem fl_X1_82 : LkF RX1 82 5 12 := ⟨_, rfl, by decide, Or.inr ⟨_, List.mem_of_getElem? (i := 34) rfl⟩⟩
theorem fl_X1_91 : LkF RX1 91 5 10 := ⟨_, rfl, by decide, Or.inr ⟨_, List.mem_of_getElem? (i := 26) rfl⟩⟩
theorem fl_X1_101 : LkF RX1 101 5 8 := ⟨_, rfl, by decide, Or.inr ⟨_, List.mem_of_getElem? (i := 19) rfl⟩⟩
theorem fl_X1_114 : LkF RX1 114 5 13 := ⟨_, rfl, by decide, Or.inr ⟨_, List.mem_of_getElem? (i := 37) rfl⟩⟩
theorem fl_X10_7 : LkF RX10 7 10 0 := ⟨_, rfl, by decide, Or.inl (inr_5 _ (List.mem_of_getElem? (i := 22) rfl))⟩
theorem fl_X10_13 : LkF RX10 13 10 1 := ⟨_, rfl, by decide, Or.inl (inr_6 _ (List.mem_of_getElem? (i := 0) rfl))⟩
theorem fl_X10_17 : LkF RX10 17 10 10 := ⟨_, rfl, by decide, Or.inl (inr_6 _ (List.mem_of_getElem? (i := 1) rfl))⟩
theorem fl_X10_20 : LkF RX10 20 10 11 := ⟨_, rfl, by decide, Or.inl (inr_6 _ (List.mem_of_getElem? (i := 2) rfl))⟩
theorem fl_X10_23 : LkF RX10 23 10 12 := ⟨_, rfl, by decide, Or.inl (inr_6 _ (List.mem_of_getElem? (i := 3) rfl))⟩
theorem fl_X10_26 : LkF RX10 26 10 13 := ⟨_, rfl, by decide, Or.inl (inr_6 _ (List.mem_of_getElem? (i := 4) rfl))⟩
theorem fl_X10_29 : LkF RX10 29 10 14 := ⟨_, rfl, by decide, Or.inl (inr_6 _ (List.mem_of_getElem? (i := 5) rfl))⟩
theorem fl_X10_32 : LkF RX10 32 10 15 := ⟨_, rfl, by decide, Or.inl (inr_6 _ (List.mem_of_getElem? (i := 6) rfl))⟩
theorem fl_X10_35 : LkF RX10 35 10 16 := ⟨_, rfl, by decide, Or.inl (inr_6 _ (List.mem_of_getElem? (i := 7) rfl))⟩
theorem fl_X10_38 : LkF RX10 38 10 17 := ⟨_, rfl, by decide, Or.inl (inr_6 _ (List.mem_of_getElem? (i := 8) rfl))⟩
theorem fl_X10_41 : LkF RX10 41 10 18 := ⟨_, rfl, by decide, Or.inl (inr_6 _ (List.mem_of_getElem? (i := 9) rfl))⟩
theorem fl_X10_44 : LkF RX10 44 10 19 := ⟨_, rfl, by decide, Or.inl (inr_6 _ (List.mem_of_getElem? (i := 10) rfl))⟩
theorem fl_X10_47 : LkF RX10 47 10 20 := ⟨_, rfl, by decide, Or.inl (inr_6 _ (List.mem_of_getElem? (i := 11) rfl))⟩
theorem fl_X10_50 : LkF RX10 50 10 22 := ⟨_, rfl, by decide, Or.inl (inr_6 _ (List.mem_of_getElem? (i := 12) rfl))⟩
theorem fl_X10_53 : LkF RX10 53 10 27 := ⟨_, rfl, by decide, Or.inl (inr_6 _ (List.mem_of_getElem? (i := 13) rfl))⟩
theorem fl_X10_60 : LkF RX10 60 10 33 := ⟨_, rfl, by decide, Or.inl (inr_6 _ (List.mem_of_getElem? (i := 15) rfl))⟩
theorem fl_X10_63 : LkF RX10 63 10 34 := ⟨_, rfl, by decide, Or.inl (inr_6 _ (List.mem_of_getElem? (i := 16) rfl))⟩
theorem fl_X10_66 : LkF RX10 66 10 35 := ⟨_, rfl, by decide, Or.inl (inr_6 _ (List.mem_of_getElem? (i := 17) rfl))⟩
theorem fl_X10_69 : LkF RX10 69 10 36 := ⟨_, rfl, by decide, Or.inl (inr_6 _ (List.mem_of_getElem? (i := 18) rfl))⟩
theorem fl_X10_72 : LkF RX10 72 10 39 := ⟨_, rfl, by decide, Or.inl (inr_6 _ (List.mem_of_getElem? (i := 19) rfl))⟩
theorem fl_X10_75 : LkF RX10 75 10 40 := ⟨_, rfl, by decide, Or.inl (inr_6 _ (List.mem_of_getElem? (i := 20) rfl))⟩
theorem fl_X10_78 : LkF RX10 78 10 41 := ⟨_, rfl, by decide, Or.inl (inr_6 _ (List.mem_of_getElem? (i := 21) rfl))⟩
theorem fl_X10_81 : LkF RX10 81 10 42 := ⟨_, rfl, by decide, Or.inl (inr_6 _ (List.mem_of_getElem? (i := 22) rfl))⟩
theorem fl_X10_84 : LkF RX10 84 10 43 := ⟨_, rfl, by decide, Or.inl (inr_6 _ (List.mem_of_getElem? (i := 23) rfl))⟩
theorem fl_X10_94 : LkF RX10 94 10 23 := ⟨_, rfl, by decide, Or.inl (inr_7 _ (List.mem_of_getElem? (i := 21) rfl))⟩
theorem fl_X10_98 : LkF RX10 98 10 24 := ⟨_, rfl, by decide, Or.inl (inr_12 _ (List.mem_of_getElem? (i := 11) rfl))⟩
theorem fl_X10_101 : LkF RX10 101 10 26 := ⟨_, rfl, by decide, Or.inl (inr_12 _ (List.mem_of_getElem? (i := 12) rfl))⟩
theorem fl_X10_108 : LkF RX10 108 10 25 := ⟨_, rfl, by decide, Or.inl (inr_13 _ (List.mem_of_getElem? (i := 16) rfl))⟩
theorem fl_X10_120 : LkF RX10 120 10 6 := ⟨_, rfl, by decide, Or.inl (inr_12 _ (List.mem_of_getElem? (i := 13) rfl))⟩
theorem fl_X10_127 : LkF RX10 127 10 7 := ⟨_, rfl, by decide, Or.inl (inr_12 _ (List.mem_of_getElem? (i := 14) rfl))⟩
theorem fl_X10_130 : LkF RX10 130 10 8 := ⟨_, rfl, by decide, Or.inl (inr_12 _ (List.mem_of_getElem? (i := 15) rfl))⟩
theorem fl_X10_133 : LkF RX10 133 10 9 := ⟨_, rfl, by decide, Or.inl (inr_12 _ (List.mem_of_getElem? (i := 16) rfl))⟩
theorem fl_X10_136 : LkF RX10 136 10 21 := ⟨_, rfl, by decide, Or.inl (inr_12 _ (List.mem_of_getElem? (i := 17) rfl))⟩
theorem fl_X10_166 : LkF RX10 166 10 2 := ⟨_, rfl, by decide, Or.inl (inr_12 _ (List.mem_of_getElem? (i := 19) rfl))⟩
theorem fl_X10_169 : LkF RX10 169 10 3 := ⟨_, rfl, by decide, Or.inl (inr_14 _ (List.mem_of_getElem? (i := 16) rfl))⟩
theorem fl_X10_172 : LkF RX10 172 10 4 := ⟨_, rfl, by decide, Or.inl (inr_14 _ (List.mem_of_getElem? (i := 17) rfl))⟩
theorem fl_X10_175 : LkF RX10 175 10 5 := ⟨_, rfl, by decide, Or.inl (inr_14 _ (List.mem_of_getElem? (i := 18) rfl))⟩
theorem fl_X10_181 : LkF RX10 181 10 44 := ⟨_, rfl, by decide, Or.inl (inr_15 _ (List.mem_of_getElem? (i := 3) rfl))⟩
theorem fl_X10_184 : LkF RX10 184 10 28 := ⟨_, rfl, by decide, Or.inl (inr_15 _ (List.mem_of_getElem? (i := 4) rfl))⟩
theorem fl_X10_276 : LkF RX10 276 10 29 := ⟨_, rfl, by decide, Or.inl (inr_32 _ (List.mem_of_getElem? (i := 7) rfl))⟩
theorem fl_X10_279 : LkF RX10 279 10 30 := ⟨_, rfl, by decide, Or.inl (inr_32 _ (List.mem_of_getElem? (i := 20) rfl))⟩
theorem fl_X10_282 : LkF RX10 282 10 31 := ⟨_, rfl, by decide, Or.inl (inr_33 _ (List.mem_of_getElem? (i := 1) rfl))⟩
theorem fl_X10_297 : LkF RX10 297 10 37 := ⟨_, rfl, by decide, Or.inl (inr_32 _ (List.mem_of_getElem? (i := 2) rfl))⟩
theorem fl_X10_300 : LkF RX10 300 10 38 := ⟨_, rfl, by decide, Or.inl (inr_31 _ (List.mem_of_getElem? (i := 17) rfl))⟩
theorem fl_X2_7 : LkF RX2 7 2 0 := ⟨_, rfl, by decide, Or.inl (inr_28 _ (List.mem_of_getElem? (i := 3) rfl))⟩
theorem fl_X3_9 : LkF RX3 9 3 3 := ⟨_, rfl, by decide, Or.inl (inr_5 _ (List.mem_of_getElem? (i := 3) rfl))⟩
theorem fl_X3_15 : LkF RX3 15 3 4 := ⟨_, rfl, by decide, Or.inl (inr_5 _ (List.mem_of_getElem? (i := 4) rfl))⟩
theorem fl_X3_18 : LkF RX3 18 3 5 := ⟨_, rfl, by decide, Or.inl (inr_5 _ (List.mem_of_getElem? (i := 5) rfl))⟩
theorem fl_X3_21 : LkF RX3 21 3 6 := ⟨_, rfl, by decide, Or.inl (inr_5 _ (List.mem_of_getElem? (i := 6) rfl))⟩
theorem fl_X3_24 : LkF RX3 24 3 0 := ⟨_, rfl, by decide, Or.inl (inr_5 _ (List.mem_of_getElem? (i := 7) rfl))⟩
theorem fl_X3_28 : LkF RX3 28 3 1 := ⟨_, rfl, by decide, Or.inl (inr_5 _ (List.mem_of_getElem? (i := 8) rfl))⟩
theorem fl_X3_32 : LkF RX3 32 3 2 := ⟨_, rfl, by decide, Or.inl (inr_5 _ (List.mem_of_getElem? (i := 9) rfl))⟩
theorem fl_X3_47 : LkF RX3 47 5 2 := ⟨_, rfl, by decide, Or.inr ⟨_, List.mem_of_getElem? (i := 4) rfl⟩⟩
theorem fl_X3_74 : LkF RX3 74 5 3 := ⟨_, rfl, by decide, Or.inr ⟨_, List.mem_of_getElem? (i := 7) rfl⟩⟩
theorem fl_X4_13 : LkF RX4 13 4 0 := ⟨_, rfl, by decide, Or.inl (inr_4 _ (List.mem_of_getElem? (i := 9) rfl))⟩
theorem fl_X4_18 : LkF RX4 18 4 1 := ⟨_, rfl, by decide, Or.inl (inr_4 _ (List.mem_of_getElem? (i := 10) rfl))⟩
theorem fl_X4_22 : LkF RX4 22 4 2 := ⟨_, rfl, by decide, Or.inl (inr_11 _ (List.mem_of_getElem? (i := 23) rfl))⟩
theorem fl_X4_26 : LkF RX4 26 1 1 := ⟨_, rfl, by decide, Or.inr ⟨_, List.mem_of_getElem? (i := 45) rfl⟩⟩
theorem fl_X4_37 : LkF RX4 37 2 0 := ⟨_, rfl, by decide, Or.inr ⟨_, List.mem_of_getElem? (i := 48) rfl⟩⟩
theorem fl_X5_30 : LkF RX5 30 5 13 := ⟨_, rfl, by decide, Or.inl (inr_3 _ (List.mem_of_getElem? (i := 11) rfl))⟩
theorem fl_X5_36 : LkF RX5 36 5 15 := ⟨_, rfl, by decide, Or.inl (inr_3 _ (List.mem_of_getElem? (i := 13) rfl))⟩
theorem fl_X5_39 : LkF RX5 39 5 0 := ⟨_, rfl, by decide, Or.inl (inr_8 _ (List.mem_of_getElem? (i := 14) rfl))⟩
theorem fl_X5_43 : LkF RX5 43 5 1 := ⟨_, rfl, by decide, Or.inl (inr_8 _ (List.mem_of_getElem? (i := 15) rfl))⟩
theorem fl_X5_46 : LkF RX5 46 5 2 := ⟨_, rfl, by decide, Or.inl (inr_8 _ (List.mem_of_getElem? (i := 16) rfl))⟩
theorem fl_X5_49 : LkF RX5 49 5 3 := ⟨_, rfl, by decide, Or.inl (inr_8 _ (List.mem_of_getElem? (i := 17) rfl))⟩
theorem fl_X5_52 : LkF RX5 52 5 4 := ⟨_, rfl, by decide, Or.inl (inr_8 _ (List.mem_of_getElem? (i := 18) rfl))⟩
theorem fl_X5_55 : LkF RX5 55 5 5 := ⟨_, rfl, by decide, Or.inl (inr_8 _ (List.mem_of_getElem? (i := 19) rfl))⟩
theorem fl_X5_58 : LkF RX5 58 5 6 := ⟨_, rfl, by decide, Or.inl (inr_8 _ (List.mem_of_getElem? (i := 20) rfl))⟩
theorem fl_X6_13 : LkF RX6 13 6 0 := ⟨_, rfl, by decide, Or.inl (inr_4 _ (List.mem_of_getElem? (i := 4) rfl))⟩
theorem fl_X6_18 : LkF RX6 18 6 2 := ⟨_, rfl, by decide, Or.inl (inr_11 _ (List.mem_of_getElem? (i := 19) rfl))⟩
theorem fl_X6_22 : LkF RX6 22 1 1 := ⟨_, rfl, by decide, Or.inr ⟨_, List.mem_of_getElem? (i := 44) rfl⟩⟩
theorem fl_X6_26 : LkF RX6 26 6 1 := ⟨_, rfl, by decide, Or.inl (inr_23 _ (List.mem_of_getElem? (i := 13) rfl))⟩
theorem fl_X7_9 : LkF RX7 9 7 0 := ⟨_, rfl, by decide, Or.inl (inr_3 _ (List.mem_of_getElem? (i := 17) rfl))⟩
theorem fl_X7_19 : LkF RX7 19 7 1 := ⟨_, rfl, by decide, Or.inl (inr_7 _ (List.mem_of_getElem? (i := 9) rfl))⟩
theorem fl_X7_26 : LkF RX7 26 7 2 := ⟨_, rfl, by decide, Or.inl (inr_8 _ (List.mem_of_getElem? (i := 9) rfl))⟩
theorem fl_X7_29 : LkF RX7 29 7 4 := ⟨_, rfl, by decide, Or.inl (inr_8 _ (List.mem_of_getElem? (i := 10) rfl))⟩
theorem fl_X7_51 : LkF RX7 51 5 0 := ⟨_, rfl, by decide, Or.inr ⟨_, List.mem_of_getElem? (i := 1) rfl⟩⟩
theorem fl_X7_77 : LkF RX7 77 5 1 := ⟨_, rfl, by decide, Or.inr ⟨_, List.mem_of_getElem? (i := 3) rfl⟩⟩
theorem fl_X7_80 : LkF RX7 80 5 2 := ⟨_, rfl, by decide, Or.inr ⟨_, List.mem_of_getElem? (i := 6) rfl⟩⟩
theorem fl_X7_83 : LkF RX7 83 5 3 := ⟨_, rfl, by decide, Or.inr ⟨_, List.mem_of_getElem? (i := 10) rfl⟩⟩
theorem fl_X7_86 : LkF RX7 86 5 6 := ⟨_, rfl, by decide, Or.inr ⟨_, List.mem_of_getElem? (i := 14) rfl⟩⟩
theorem fl_X7_97 : LkF RX7 97 7 3 := ⟨_, rfl, by decide, Or.inl (inr_9 _ (List.mem_of_getElem? (i := 23) rfl))⟩
theorem fl_X7_104 : LkF RX7 104 5 7 := ⟨_, rfl, by decide, Or.inr ⟨_, List.mem_of_getElem? (i := 16) rfl⟩⟩
theorem fl_X7_107 : LkF RX7 107 5 8 := ⟨_, rfl, by decide, Or.inr ⟨_, List.mem_of_getElem? (i := 18) rfl⟩⟩
theorem fl_X7_110 : LkF RX7 110 5 9 := ⟨_, rfl, by decide, Or.inr ⟨_, List.mem_of_getElem? (i := 21) rfl⟩⟩
theorem fl_X7_113 : LkF RX7 113 5 10 := ⟨_, rfl, by decide, Or.inr ⟨_, List.mem_of_getElem? (i := 25) rfl⟩⟩
theorem fl_X7_115 : LkF RX7 115 5 11 := ⟨_, rfl, by decide, Or.inr ⟨_, List.mem_of_getElem? (i := 29) rfl⟩⟩
theorem fl_X7_118 : LkF RX7 118 5 12 := ⟨_, rfl, by decide, Or.inr ⟨_, List.mem_of_getElem? (i := 33) rfl⟩⟩
theorem fl_X7_121 : LkF RX7 121 5 13 := ⟨_, rfl, by decide, Or.inr ⟨_, List.mem_of_getElem? (i := 36) rfl⟩⟩
theorem fl_X7_124 : LkF RX7 124 5 14 := ⟨_, rfl, by decide, Or.inr ⟨_, List.mem_of_getElem? (i := 40) rfl⟩⟩
theorem fl_X8_11 : LkF RX8 11 8 2 := ⟨_, rfl, by decide, Or.inl (inr_4 _ (List.mem_of_getElem? (i := 17) rfl))⟩
theorem fl_X8_15 : LkF RX8 15 8 3 := ⟨_, rfl, by decide, Or.inl (inr_4 _ (List.mem_of_getElem? (i := 18) rfl))⟩
theorem fl_X8_18 : LkF RX8 18 8 4 := ⟨_, rfl, by decide, Or.inl (inr_4 _ (List.mem_of_getElem? (i := 19) rfl))⟩
theorem fl_X8_21 : LkF RX8 21 8 5 := ⟨_, rfl, by decide, Or.inl (inr_4 _ (List.mem_of_getElem? (i := 20) rfl))⟩
theorem fl_X8_24 : LkF RX8 24 8 6 := ⟨_, rfl, by decide, Or.inl (inr_4 _ (List.mem_of_getElem? (i := 21) rfl))⟩
theorem fl_X8_27 : LkF RX8 27 8 0 := ⟨_, rfl, by decide, Or.inl (inr_4 _ (List.mem_of_getElem? (i := 22) rfl))⟩
theorem fl_X8_31 : LkF RX8 31 8 1 := ⟨_, rfl, by decide, Or.inl (inr_4 _ (List.mem_of_getElem? (i := 23) rfl))⟩
theorem fl_X8_39 : LkF RX8 39 8 7 := ⟨_, rfl, by decide, Or.inl (inr_30 _ (List.mem_of_getElem? (i := 6) rfl))⟩
theorem fl_X8_47 : LkF RX8 47 8 8 := ⟨_, rfl, by decide, Or.inl (inr_30 _ (List.mem_of_getElem? (i := 5) rfl))⟩
theorem fl_X8_50 : LkF RX8 50 8 9 := ⟨_, rfl, by decide, Or.inl (inr_30 _ (List.mem_of_getElem? (i := 7) rfl))⟩
theorem fl_X8_72 : LkF RX8 72 5 3 := ⟨_, rfl, by decide, Or.inr ⟨_, List.mem_of_getElem? (i := 8) rfl⟩⟩
theorem fl_X8_81 : LkF RX8 81 5 10 := ⟨_, rfl, by decide, Or.inr ⟨_, List.mem_of_getElem? (i := 23) rfl⟩⟩
theorem fl_X8_82 : LkF RX8 82 5 12 := ⟨_, rfl, by decide, Or.inr ⟨_, List.mem_of_getElem? (i := 31) rfl⟩⟩
theorem fl_X8_86 : LkF RX8 86 5 14 := ⟨_, rfl, by decide, Or.inr ⟨_, List.mem_of_getElem? (i := 38) rfl⟩⟩
theorem fl_X8_117 : LkF RX8 117 5 11 := ⟨_, rfl, by decide, Or.inr ⟨_, List.mem_of_getElem? (i := 28) rfl⟩⟩
theorem fl_X9_10 : LkF RX9 10 9 0 := ⟨_, rfl, by decide, Or.inl (inr_1 _ (List.mem_of_getElem? (i := 15) rfl))⟩
theorem fl_X9_16 : LkF RX9 16 9 1 := ⟨_, rfl, by decide, Or.inl (inr_1 _ (List.mem_of_getElem? (i := 16) rfl))⟩
theorem fl_X9_22 : LkF RX9 22 9 2 := ⟨_, rfl, by decide, Or.inl (inr_1 _ (List.mem_of_getElem? (i := 20) rfl))⟩
theorem fl_X9_31 : LkF RX9 31 9 3 := ⟨_, rfl, by decide, Or.inl (inr_2 _ (List.mem_of_getElem? (i := 0) rfl))⟩
theorem fl_X9_38 : LkF RX9 38 9 4 := ⟨_, rfl, by decide, Or.inl (inr_2 _ (List.mem_of_getElem? (i := 4) rfl))⟩
theorem fl_X9_45 : LkF RX9 45 9 5 := ⟨_, rfl, by decide, Or.inl (inr_2 _ (List.mem_of_getElem? (i := 8) rfl))⟩
theorem fl_X9_52 : LkF RX9 52 9 6 := ⟨_, rfl, by decide, Or.inl (inr_2 _ (List.mem_of_getElem? (i := 12) rfl))⟩
theorem fl_X9_61 : LkF RX9 61 9 7 := ⟨_, rfl, by decide, Or.inl (inr_2 _ (List.mem_of_getElem? (i := 16) rfl))⟩
theorem fl_X9_70 : LkF RX9 70 9 8 := ⟨_, rfl, by decide, Or.inl (inr_2 _ (List.mem_of_getElem? (i := 20) rfl))⟩
theorem fl_X9_77 : LkF RX9 77 9 9 := ⟨_, rfl, by decide, Or.inl (inr_3 _ (List.mem_of_getElem? (i := 0) rfl))⟩
theorem fl_X9_106 : LkF RX9 106 5 0 := ⟨_, rfl, by decide, Or.inr ⟨_, List.mem_of_getElem? (i := 0) rfl⟩⟩
theorem fl_X9_110 : LkF RX9 110 7 5 := ⟨_, rfl, by decide, Or.inr ⟨_, List.mem_of_getElem? (i := 43) rfl⟩⟩
theorem fl_X9_113 : LkF RX9 113 5 1 := ⟨_, rfl, by decide, Or.inr ⟨_, List.mem_of_getElem? (i := 2) rfl⟩⟩
theorem fl_X9_116 : LkF RX9 116 5 2 := ⟨_, rfl, by decide, Or.inr ⟨_, List.mem_of_getElem? (i := 5) rfl⟩⟩
theorem fl_X9_119 : LkF RX9 119 5 3 := ⟨_, rfl, by decide, Or.inr ⟨_, List.mem_of_getElem? (i := 9) rfl⟩⟩
theorem fl_X9_122 : LkF RX9 122 7 1 := ⟨_, rfl, by decide, Or.inr ⟨_, List.mem_of_getElem? (i := 42) rfl⟩⟩
theorem fl_X9_132 : LkF RX9 132 0 4 := ⟨_, rfl, by decide, Or.inr ⟨_, List.mem_of_getElem? (i := 52) rfl⟩⟩
theorem fl_X9_135 : LkF RX9 135 6 2 := ⟨_, rfl, by decide, Or.inr ⟨_, List.mem_of_getElem? (i := 47) rfl⟩⟩
theorem fl_X9_156 : LkF RX9 156 5 8 := ⟨_, rfl, by decide, Or.inr ⟨_, List.mem_of_getElem? (i := 17) rfl⟩⟩
theorem fl_X9_176 : LkF RX9 176 5 10 := ⟨_, rfl, by decide, Or.inr ⟨_, List.mem_of_getElem? (i := 24) rfl⟩⟩
theorem fl_X9_179 : LkF RX9 179 5 11 := ⟨_, rfl, by decide, Or.inr ⟨_, List.mem_of_getElem? (i := 27) rfl⟩⟩
theorem fl_X9_182 : LkF RX9 182 5 12 := ⟨_, rfl, by decide, Or.inr ⟨_, List.mem_of_getElem? (i := 32) rfl⟩⟩
theorem fl_X9_185 : LkF RX9 185 5 13 := ⟨_, rfl, by decide, Or.inr ⟨_, List.mem_of_getElem? (i := 35) rfl⟩⟩
theorem fl_X9_188 : LkF RX9 188 5 14 := ⟨_, rfl, by decide, Or.inr ⟨_, List.mem_of_getElem? (i := 39) rfl⟩⟩
theorem fl_X9_252 : LkF RX9 252 8 8 := ⟨_, rfl, by decide, Or.inr ⟨_, List.mem_of_getElem? (i := 50) rfl⟩⟩
theorem fl_X9_276 : LkF RX9 276 3 6 := ⟨_, rfl, by decide, Or.inr ⟨_, List.mem_of_getElem? (i := 51) rfl⟩⟩
theorem fl_X9_304 : LkF RX9 304 2 0 := ⟨_, rfl, by decide, Or.inr ⟨_, List.mem_of_getElem? (i := 49) rfl⟩⟩
theorem pl_X0_31 : LkP RX0 31 0 4 .int := ⟨_, rfl, by decide, Or.inl (inr_12 _ (List.mem_of_getElem? (i := 3) rfl)), rfl, by decide +kernel⟩
theorem pl_X10_53 : LkP RX10 53 10 27 .int := ⟨_, rfl, by decide, Or.inl (inr_6 _ (List.mem_of_getElem? (i := 13) rfl)), rfl, by decide +kernel⟩
theorem pl_X10_94 : LkP RX10 94 10 23 .int := ⟨_, rfl, by decide, Or.inl (inr_7 _ (List.mem_of_getElem? (i := 21) rfl)), rfl, by decide +kernel⟩
theorem pl_X10_98 : LkP RX10 98 10 24 .int := ⟨_, rfl, by decide, Or.inl (inr_12 _ (List.mem_of_getElem? (i := 11) rfl)), rfl, by decide +kernel⟩
theorem pl_X10_101 : LkP RX10 101 10 26 .int := ⟨_, rfl, by decide, Or.inl (inr_12 _ (List.mem_of_getElem? (i := 12) rfl)), rfl, by decide +kernel⟩
theorem pl_X10_108 : LkP RX10 108 10 25 .int := ⟨_, rfl, by decide, Or.inl (inr_13 _ (List.mem_of_getElem? (i := 16) rfl)), rfl, by decide +kernel⟩
theorem pl_X10_120 : LkP RX10 120 10 6 .int := ⟨_, rfl, by decide, Or.inl (inr_12 _ (List.mem_of_getElem? (i := 13) rfl)), rfl, by decide +kernel⟩
theorem pl_X10_127 : LkP RX10 127 10 7 .int := ⟨_, rfl, by decide, Or.inl (inr_12 _ (List.mem_of_getElem? (i := 14) rfl)), rfl, by decide +kernel⟩
theorem pl_X10_130 : LkP RX10 130 10 8 .int := ⟨_, rfl, by decide, Or.inl (inr_12 _ (List.mem_of_getElem? (i := 15) rfl)), rfl, by decide +kernel⟩
theorem pl_X10_133 : LkP RX10 133 10 9 .int := ⟨_, rfl, by decide, Or.inl (inr_12 _ (List.mem_of_getElem? (i := 16) rfl)), rfl, by decide +kernel⟩
theorem pl_X10_136 : LkP RX10 136 10 21 .boolean := ⟨_, rfl, by decide, Or.inl (inr_12 _ (List.mem_of_getElem? (i := 17) rfl)), rfl, by decide +kernel⟩
theorem pl_X10_166 : LkP RX10 166 10 2 .int := ⟨_, rfl, by decide, Or.inl (inr_12 _ (List.mem_of_getElem? (i := 19) rfl)), rfl, by decide +kernel⟩
theorem pl_X10_169 : LkP RX10 169 10 3 .int := ⟨_, rfl, by decide, Or.inl (inr_14 _ (List.mem_of_getElem? (i := 16) rfl)), rfl, by decide +kernel⟩
theorem pl_X10_172 : LkP RX10 172 10 4 .int := ⟨_, rfl, by decide, Or.inl (inr_14 _ (List.mem_of_getElem? (i := 17) rfl)), rfl, by decide +kernel⟩
theorem pl_X10_175 : LkP RX10 175 10 5 .int := ⟨_, rfl, by decide, Or.inl (inr_14 _ (List.mem_of_getElem? (i := 18) rfl)), rfl, by decide +kernel⟩
theorem pl_X10_181 : LkP RX10 181 10 44 .int := ⟨_, rfl, by decide, Or.inl (inr_15 _ (List.mem_of_getElem? (i := 3) rfl)), rfl, by decide +kernel⟩
theorem pl_X10_184 : LkP RX10 184 10 28 .int := ⟨_, rfl, by decide, Or.inl (inr_15 _ (List.mem_of_getElem? (i := 4) rfl)), rfl, by decide +kernel⟩
theorem pl_X10_276 : LkP RX10 276 10 29 .int := ⟨_, rfl, by decide, Or.inl (inr_32 _ (List.mem_of_getElem? (i := 7) rfl)), rfl, by decide +kernel⟩
theorem pl_X10_279 : LkP RX10 279 10 30 .int := ⟨_, rfl, by decide, Or.inl (inr_32 _ (List.mem_of_getElem? (i := 20) rfl)), rfl, by decide +kernel⟩
theorem pl_X10_282 : LkP RX10 282 10 31 .int := ⟨_, rfl, by decide, Or.inl (inr_33 _ (List.mem_of_getElem? (i := 1) rfl)), rfl, by decide +kernel⟩
theorem pl_X10_297 : LkP RX10 297 10 37 .int := ⟨_, rfl, by decide, Or.inl (inr_32 _ (List.mem_of_getElem? (i := 2) rfl)), rfl, by decide +kernel⟩
theorem pl_X10_300 : LkP RX10 300 10 38 .int := ⟨_, rfl, by decide, Or.inl (inr_31 _ (List.mem_of_getElem? (i := 17) rfl)), rfl, by decide +kernel⟩
theorem pl_X2_7 : LkP RX2 7 2 0 .int := ⟨_, rfl, by decide, Or.inl (inr_28 _ (List.mem_of_getElem? (i := 3) rfl)), rfl, by decide +kernel⟩
theorem pl_X4_22 : LkP RX4 22 4 2 .int := ⟨_, rfl, by decide, Or.inl (inr_11 _ (List.mem_of_getElem? (i := 23) rfl)), rfl, by decide +kernel⟩
theorem pl_X4_37 : LkP RX4 37 2 0 .int := ⟨_, rfl, by decide, Or.inr ⟨_, List.mem_of_getElem? (i := 48) rfl⟩, rfl, by decide +kernel⟩
theorem pl_X5_39 : LkP RX5 39 5 0 .int := ⟨_, rfl, by decide, Or.inl (inr_8 _ (List.mem_of_getElem? (i := 14) rfl)), rfl, by decide +kernel⟩
theorem pl_X5_43 : LkP RX5 43 5 1 .int := ⟨_, rfl, by decide, Or.inl (inr_8 _ (List.mem_of_getElem? (i := 15) rfl)), rfl, by decide +kernel⟩
theorem pl_X5_46 : LkP RX5 46 5 2 .int := ⟨_, rfl, by decide, Or.inl (inr_8 _ (List.mem_of_getElem? (i := 16) rfl)), rfl, by decide +kernel⟩
theorem pl_X5_49 : LkP RX5 49 5 3 .int := ⟨_, rfl, by decide, Or.inl (inr_8 _ (List.mem_of_getElem? (i := 17) rfl)), rfl, by decide +kernel⟩
theorem pl_X5_52 : LkP RX5 52 5 4 .int := ⟨_, rfl, by decide, Or.inl (inr_8 _ (List.mem_of_getElem? (i := 18) rfl)), rfl, by decide +kernel⟩
theorem pl_X5_55 : LkP RX5 55 5 5 .int := ⟨_, rfl, by decide, Or.inl (inr_8 _ (List.mem_of_getElem? (i := 19) rfl)), rfl, by decide +kernel⟩
theorem pl_X5_58 : LkP RX5 58 5 6 .int := ⟨_, rfl, by decide, Or.inl (inr_8 _ (List.mem_of_getElem? (i := 20) rfl)), rfl, by decide +kernel⟩
theorem pl_X6_18 : LkP RX6 18 6 2 .int := ⟨_, rfl, by decide, Or.inl (inr_11 _ (List.mem_of_getElem? (i := 19) rfl)), rfl, by decide +kernel⟩
theorem pl_X6_26 : LkP RX6 26 6 1 .int := ⟨_, rfl, by decide, Or.inl (inr_23 _ (List.mem_of_getElem? (i := 13) rfl)), rfl, by decide +kernel⟩
theorem pl_X7_15 : LkP RX7 15 7 5 .int := ⟨_, rfl, by decide, Or.inl (inr_3 _ (List.mem_of_getElem? (i := 18) rfl)), rfl, by decide +kernel⟩
theorem pl_X7_19 : LkP RX7 19 7 1 .int := ⟨_, rfl, by decide, Or.inl (inr_7 _ (List.mem_of_getElem? (i := 9) rfl)), rfl, by decide +kernel⟩
theorem pl_X7_26 : LkP RX7 26 7 2 .int := ⟨_, rfl, by decide, Or.inl (inr_8 _ (List.mem_of_getElem? (i := 9) rfl)), rfl, by decide +kernel⟩
theorem pl_X7_29 : LkP RX7 29 7 4 .int := ⟨_, rfl, by decide, Or.inl (inr_8 _ (List.mem_of_getElem? (i := 10) rfl)), rfl, by decide +kernel⟩
theorem pl_X7_51 : LkP RX7 51 5 0 .int := ⟨_, rfl, by decide, Or.inr ⟨_, List.mem_of_getElem? (i := 1) rfl⟩, rfl, by decide +kernel⟩
theorem pl_X7_80 : LkP RX7 80 5 2 .int := ⟨_, rfl, by decide, Or.inr ⟨_, List.mem_of_getElem? (i := 6) rfl⟩, rfl, by decide +kernel⟩
theorem pl_X7_83 : LkP RX7 83 5 3 .int := ⟨_, rfl, by decide, Or.inr ⟨_, List.mem_of_getElem? (i := 10) rfl⟩, rfl, by decide +kernel⟩
theorem pl_X7_86 : LkP RX7 86 5 6 .int := ⟨_, rfl, by decide, Or.inr ⟨_, List.mem_of_getElem? (i := 14) rfl⟩, rfl, by decide +kernel⟩
theorem pl_X7_97 : LkP RX7 97 7 3 .int := ⟨_, rfl, by decide, Or.inl (inr_9 _ (List.mem_of_getElem? (i := 23) rfl)), rfl, by decide +kernel⟩
theorem pl_X7_127 : LkP RX7 127 5 4 .int := ⟨_, rfl, by decide, Or.inr ⟨_, List.mem_of_getElem? (i := 12) rfl⟩, rfl, by decide +kernel⟩
theorem pl_X7_130 : LkP RX7 130 5 5 .int := ⟨_, rfl, by decide, Or.inr ⟨_, List.mem_of_getElem? (i := 13) rfl⟩, rfl, by decide +kernel⟩
theorem pl_X8_39 : LkP RX8 39 8 7 .int := ⟨_, rfl, by decide, Or.inl (inr_30 _ (List.mem_of_getElem? (i := 6) rfl)), rfl, by decide +kernel⟩
theorem pl_X8_47 : LkP RX8 47 8 8 .int := ⟨_, rfl, by decide, Or.inl (inr_30 _ (List.mem_of_getElem? (i := 5) rfl)), rfl, by decide +kernel⟩
theorem pl_X8_50 : LkP RX8 50 8 9 .boolean := ⟨_, rfl, by decide, Or.inl (inr_30 _ (List.mem_of_getElem? (i := 7) rfl)), rfl, by decide +kernel⟩
theorem pl_X9_304 : LkP RX9 304 2 0 .int := ⟨_, rfl, by decide, Or.inr ⟨_, List.mem_of_getElem? (i := 49) rfl⟩, rfl, by decide +kernel⟩
theorem kc_J6_265 : Cond.constant RJ6 265 1431655765 ∈ wsL_law := inr_35 _ (List.mem_of_getElem? (i := 4) rfl)
theorem kc_J6_266 : Cond.constant RJ6 266 858993459 ∈ wsL_law := inr_35 _ (List.mem_of_getElem? (i := 5) rfl)
theorem kc_J6_267 : Cond.constant RJ6 267 252645135 ∈ wsL_law := inr_35 _ (List.mem_of_getElem? (i := 6) rfl)
theorem kc_X10_93 : Cond.constant RX10 93 (-1000000002) ∈ wsL_law := inr_7 _ (List.mem_of_getElem? (i := 20) rfl)
theorem kc_X10_97 : Cond.constant RX10 97 (-1000000004) ∈ wsL_law := inr_7 _ (List.mem_of_getElem? (i := 22) rfl)
theorem kc_X10_119 : Cond.constant RX10 119 99999 ∈ wsL_law := inr_13 _ (List.mem_of_getElem? (i := 19) rfl)
theorem kc_X10_156 : Cond.constant RX10 156 99999999 ∈ wsL_law := inr_12 _ (List.mem_of_getElem? (i := 18) rfl)
theorem kc_X10_205 : Cond.constant RX10 205 (-1000000001) ∈ wsL_law := inr_17 _ (List.mem_of_getElem? (i := 17) rfl)
theorem kc_X10_227 : Cond.constant RX10 227 (-1000000003) ∈ wsL_law := inr_22 _ (List.mem_of_getElem? (i := 9) rfl)
theorem kc_X10_267 : Cond.constant RX10 267 65536 ∈ wsL_law := inr_28 _ (List.mem_of_getElem? (i := 23) rfl)
theorem kc_X2_19 : Cond.constant RX2 19 65536 ∈ wsL_law := inr_28 _ (List.mem_of_getElem? (i := 7) rfl)
theorem kc_X9_81 : Cond.constant RX9 81 (-1000000002) ∈ wsL_law := inr_7 _ (List.mem_of_getElem? (i := 4) rfl)
theorem kc_X9_86 : Cond.constant RX9 86 (-1000000004) ∈ wsL_law := inr_7 _ (List.mem_of_getElem? (i := 5) rfl)
theorem kc_X9_145 : Cond.constant RX9 145 (-1000000001) ∈ wsL_law := inr_17 _ (List.mem_of_getElem? (i := 5) rfl)
theorem kc_X9_207 : Cond.constant RX9 207 (-1000000003) ∈ wsL_law := inr_21 _ (List.mem_of_getElem? (i := 14) rfl)
theorem kl_X10_87 : Cond.constantLong RX10 87 255 ∈ wsL_law := inr_7 _ (List.mem_of_getElem? (i := 19) rfl)
theorem kl_X10_111 : Cond.constantLong RX10 111 48 ∈ wsL_law := inr_13 _ (List.mem_of_getElem? (i := 17) rfl)
theorem kl_X10_113 : Cond.constantLong RX10 113 57 ∈ wsL_law := inr_13 _ (List.mem_of_getElem? (i := 18) rfl)
theorem kl_X10_218 : Cond.constantLong RX10 218 2 ∈ wsL_law := inr_21 _ (List.mem_of_getElem? (i := 9) rfl)
theorem kl_X10_247 : Cond.constantLong RX10 247 99 ∈ wsL_law := inr_24 _ (List.mem_of_getElem? (i := 19) rfl)
theorem kl_X10_261 : Cond.constantLong RX10 261 1103515245 ∈ wsL_law := inr_28 _ (List.mem_of_getElem? (i := 20) rfl)
theorem kl_X10_263 : Cond.constantLong RX10 263 12345 ∈ wsL_law := inr_28 _ (List.mem_of_getElem? (i := 21) rfl)
theorem kl_X10_265 : Cond.constantLong RX10 265 2147483648 ∈ wsL_law := inr_28 _ (List.mem_of_getElem? (i := 22) rfl)
theorem kl_X10_274 : Cond.constantLong RX10 274 30 ∈ wsL_law := inr_29 _ (List.mem_of_getElem? (i := 12) rfl)
theorem kl_X10_320 : Cond.constantLong RX10 320 9 ∈ wsL_law := inr_34 _ (List.mem_of_getElem? (i := 13) rfl)
theorem kl_X10_331 : Cond.constantLong RX10 331 9999 ∈ wsL_law := inr_36 _ (List.mem_of_getElem? (i := 18) rfl)
theorem kl_X10_336 : Cond.constantLong RX10 336 1000 ∈ wsL_law := inr_37 _ (List.mem_of_getElem? (i := 21) rfl)
theorem kl_X10_338 : Cond.constantLong RX10 338 1000000000 ∈ wsL_law := inr_37 _ (List.mem_of_getElem? (i := 22) rfl)
theorem kl_X2_13 : Cond.constantLong RX2 13 1103515245 ∈ wsL_law := inr_28 _ (List.mem_of_getElem? (i := 4) rfl)
theorem kl_X2_15 : Cond.constantLong RX2 15 12345 ∈ wsL_law := inr_28 _ (List.mem_of_getElem? (i := 5) rfl)
theorem kl_X2_17 : Cond.constantLong RX2 17 2147483647 ∈ wsL_law := inr_28 _ (List.mem_of_getElem? (i := 6) rfl)
theorem kl_X9_285 : Cond.constantLong RX9 285 1000000000 ∈ wsL_law := inr_37 _ (List.mem_of_getElem? (i := 15) rfl)
theorem kl_X9_287 : Cond.constantLong RX9 287 1000 ∈ wsL_law := inr_37 _ (List.mem_of_getElem? (i := 16) rfl)
abbrev md_J6_bitCount_0f7a4 : MD := (yJ6_bitCount_0f7a4, cJ6_bitCount_0f7a4, 1, (some .int), none)
theorem ce_J6_bitCount_0f7a4 : CeT md_J6_bitCount_0f7a4 1 := ⟨⟨inr_35 _ (List.mem_of_getElem? (i := 3) rfl), inr_35 _ (List.mem_of_getElem? (i := 2) rfl), ⟨by decide, by decide⟩, by decide +kernel, by decide +kernel, Nat.le_of_ble_eq_true rfl, rfl⟩, inr_35 _ (List.mem_of_getElem? (i := 1) rfl)⟩
abbrev md_J9_floorMod_7cf53 : MD := (yJ9_floorMod_7cf53, cJ9_floorMod_7cf53, 3, (some .int), none)
theorem ce_J9_floorMod_7cf53 : CeT md_J9_floorMod_7cf53 2 := ⟨⟨inr_16 _ (List.mem_of_getElem? (i := 9) rfl), inr_16 _ (List.mem_of_getElem? (i := 8) rfl), ⟨by decide, by decide⟩, by decide +kernel, by decide +kernel, Nat.le_of_ble_eq_true rfl, rfl⟩, inr_16 _ (List.mem_of_getElem? (i := 7) rfl)⟩
abbrev md_J9_max_7cf53 : MD := (yJ9_max_7cf53, cJ9_max_7cf53, 2, (some .int), none)
theorem ce_J9_max_7cf53 : CeT md_J9_max_7cf53 2 := ⟨⟨inr_20 _ (List.mem_of_getElem? (i := 2) rfl), inr_10 _ (List.mem_of_getElem? (i := 2) rfl), ⟨by decide, by decide⟩, by decide +kernel, by decide +kernel, Nat.le_of_ble_eq_true rfl, rfl⟩, inr_20 _ (List.mem_of_getElem? (i := 1) rfl)⟩
abbrev md_J9_min_7cf53 : MD := (yJ9_min_7cf53, cJ9_min_7cf53, 2, (some .int), none)
theorem ce_J9_min_7cf53 : CeT md_J9_min_7cf53 2 := ⟨⟨inr_10 _ (List.mem_of_getElem? (i := 3) rfl), inr_10 _ (List.mem_of_getElem? (i := 2) rfl), ⟨by decide, by decide⟩, by decide +kernel, by decide +kernel, Nat.le_of_ble_eq_true rfl, rfl⟩, inr_10 _ (List.mem_of_getElem? (i := 1) rfl)⟩
abbrev md_X0_add : MD := (yX0_add, cX0_add, 3, (some .int), none)
theorem ce_X0_add : CeV md_X0_add 2 := ⟨⟨inr_39 _ (List.mem_of_getElem? (i := 15) rfl), inr_2 _ (List.mem_of_getElem? (i := 23) rfl), ⟨by decide, by decide⟩, by decide +kernel, by decide +kernel, Nat.le_of_ble_eq_true rfl, rfl⟩, inr_39 _ (List.mem_of_getElem? (i := 13) rfl), inr_39 _ (List.mem_of_getElem? (i := 14) rfl)⟩
abbrev md_X0_canBeKept : MD := (yX0_canBeKept, cX0_canBeKept, 6, (some .boolean), none)
theorem ce_X0_canBeKept : CeV md_X0_canBeKept 2 := ⟨⟨inr_40 _ (List.mem_of_getElem? (i := 6) rfl), inr_2 _ (List.mem_of_getElem? (i := 23) rfl), ⟨by decide, by decide⟩, by decide +kernel, by decide +kernel, Nat.le_of_ble_eq_true rfl, rfl⟩, inr_40 _ (List.mem_of_getElem? (i := 4) rfl), inr_40 _ (List.mem_of_getElem? (i := 5) rfl)⟩
abbrev md_X0_empty : MD := (yX0_empty, cX0_empty, 1, none, none)
theorem ce_X0_empty : CeV md_X0_empty 0 := ⟨⟨inr_12 _ (List.mem_of_getElem? (i := 2) rfl), inr_2 _ (List.mem_of_getElem? (i := 23) rfl), ⟨by decide, by decide⟩, by decide +kernel, by decide +kernel, Nat.le_of_ble_eq_true rfl, rfl⟩, inr_12 _ (List.mem_of_getElem? (i := 0) rfl), inr_12 _ (List.mem_of_getElem? (i := 1) rfl)⟩
abbrev md_X0_firstWrong : MD := (yX0_firstWrong, cX0_firstWrong, 6, (some .int), none)
theorem ce_X0_firstWrong : CeV md_X0_firstWrong 1 := ⟨⟨inr_40 _ (List.mem_of_getElem? (i := 2) rfl), inr_2 _ (List.mem_of_getElem? (i := 23) rfl), ⟨by decide, by decide⟩, by decide +kernel, by decide +kernel, Nat.le_of_ble_eq_true rfl, rfl⟩, inr_40 _ (List.mem_of_getElem? (i := 0) rfl), inr_40 _ (List.mem_of_getElem? (i := 1) rfl)⟩
abbrev md_X10_ageBy : MD := (yX10_ageBy, cX10_ageBy, 2, (some .int), none)
theorem ce_X10_ageBy : CeV md_X10_ageBy 1 := ⟨⟨inr_32 _ (List.mem_of_getElem? (i := 19) rfl), inr_1 _ (List.mem_of_getElem? (i := 5) rfl), ⟨by decide, by decide⟩, by decide +kernel, by decide +kernel, Nat.le_of_ble_eq_true rfl, rfl⟩, inr_32 _ (List.mem_of_getElem? (i := 17) rfl), inr_32 _ (List.mem_of_getElem? (i := 18) rfl)⟩
abbrev md_X10_begin : MD := (yX10_begin, cX10_begin, 3, none, none)
theorem ce_X10_begin : CeV md_X10_begin 0 := ⟨⟨inr_15 _ (List.mem_of_getElem? (i := 2) rfl), inr_1 _ (List.mem_of_getElem? (i := 5) rfl), ⟨by decide, by decide⟩, by decide +kernel, by decide +kernel, Nat.le_of_ble_eq_true rfl, rfl⟩, inr_15 _ (List.mem_of_getElem? (i := 0) rfl), inr_15 _ (List.mem_of_getElem? (i := 1) rfl)⟩
abbrev md_X10_busiest : MD := (yX10_busiest, cX10_busiest, 6, (some .int), none)
theorem ce_X10_busiest : CeV md_X10_busiest 1 := ⟨⟨inr_37 _ (List.mem_of_getElem? (i := 10) rfl), inr_1 _ (List.mem_of_getElem? (i := 5) rfl), ⟨by decide, by decide⟩, by decide +kernel, by decide +kernel, Nat.le_of_ble_eq_true rfl, rfl⟩, inr_37 _ (List.mem_of_getElem? (i := 8) rfl), inr_37 _ (List.mem_of_getElem? (i := 9) rfl)⟩
abbrev md_X10_calendar : MD := (yX10_calendar, cX10_calendar, 3, (some .int), none)
theorem ce_X10_calendar : CeV md_X10_calendar 2 := ⟨⟨inr_36 _ (List.mem_of_getElem? (i := 17) rfl), inr_1 _ (List.mem_of_getElem? (i := 5) rfl), ⟨by decide, by decide⟩, by decide +kernel, by decide +kernel, Nat.le_of_ble_eq_true rfl, rfl⟩, inr_36 _ (List.mem_of_getElem? (i := 15) rfl), inr_36 _ (List.mem_of_getElem? (i := 16) rfl)⟩
abbrev md_X10_canGo : MD := (yX10_canGo, cX10_canGo, 3, (some .boolean), none)
theorem ce_X10_canGo : CeV md_X10_canGo 2 := ⟨⟨inr_22 _ (List.mem_of_getElem? (i := 13) rfl), inr_1 _ (List.mem_of_getElem? (i := 5) rfl), ⟨by decide, by decide⟩, by decide +kernel, by decide +kernel, Nat.le_of_ble_eq_true rfl, rfl⟩, inr_22 _ (List.mem_of_getElem? (i := 11) rfl), inr_22 _ (List.mem_of_getElem? (i := 12) rfl)⟩
abbrev md_X10_canHave : MD := (yX10_canHave, cX10_canHave, 4, (some .boolean), none)
theorem ce_X10_canHave : CeV md_X10_canHave 2 := ⟨⟨inr_36 _ (List.mem_of_getElem? (i := 6) rfl), inr_1 _ (List.mem_of_getElem? (i := 5) rfl), ⟨by decide, by decide⟩, by decide +kernel, by decide +kernel, Nat.le_of_ble_eq_true rfl, rfl⟩, inr_36 _ (List.mem_of_getElem? (i := 4) rfl), inr_36 _ (List.mem_of_getElem? (i := 5) rfl)⟩
abbrev md_X10_canKeep : MD := (yX10_canKeep, cX10_canKeep, 3, (some .boolean), none)
theorem ce_X10_canKeep : CeV md_X10_canKeep 1 := ⟨⟨inr_26 _ (List.mem_of_getElem? (i := 13) rfl), inr_1 _ (List.mem_of_getElem? (i := 5) rfl), ⟨by decide, by decide⟩, by decide +kernel, by decide +kernel, Nat.le_of_ble_eq_true rfl, rfl⟩, inr_26 _ (List.mem_of_getElem? (i := 11) rfl), inr_26 _ (List.mem_of_getElem? (i := 12) rfl)⟩
abbrev md_X10_changesBy : MD := (yX10_changesBy, cX10_changesBy, 8, (some .int), none)
theorem ce_X10_changesBy : CeV md_X10_changesBy 2 := ⟨⟨inr_35 _ (List.mem_of_getElem? (i := 22) rfl), inr_1 _ (List.mem_of_getElem? (i := 5) rfl), ⟨by decide, by decide⟩, by decide +kernel, by decide +kernel, Nat.le_of_ble_eq_true rfl, rfl⟩, inr_35 _ (List.mem_of_getElem? (i := 20) rfl), inr_35 _ (List.mem_of_getElem? (i := 21) rfl)⟩
abbrev md_X10_clash : MD := (yX10_clash, cX10_clash, 7, (some .int), none)
theorem ce_X10_clash : CeV md_X10_clash 2 := ⟨⟨inr_33 _ (List.mem_of_getElem? (i := 21) rfl), inr_1 _ (List.mem_of_getElem? (i := 5) rfl), ⟨by decide, by decide⟩, by decide +kernel, by decide +kernel, Nat.le_of_ble_eq_true rfl, rfl⟩, inr_33 _ (List.mem_of_getElem? (i := 19) rfl), inr_33 _ (List.mem_of_getElem? (i := 20) rfl)⟩
abbrev md_X10_copy : MD := (yX10_copy, cX10_copy, 4, none, none)
theorem ce_X10_copy : CeV md_X10_copy 2 := ⟨⟨inr_25 _ (List.mem_of_getElem? (i := 7) rfl), inr_1 _ (List.mem_of_getElem? (i := 5) rfl), ⟨by decide, by decide⟩, by decide +kernel, by decide +kernel, Nat.le_of_ble_eq_true rfl, rfl⟩, inr_25 _ (List.mem_of_getElem? (i := 5) rfl), inr_25 _ (List.mem_of_getElem? (i := 6) rfl)⟩
abbrev md_X10_day : MD := (yX10_day, cX10_day, 3, (some .int), none)
theorem ce_X10_day : CeV md_X10_day 1 := ⟨⟨inr_24 _ (List.mem_of_getElem? (i := 14) rfl), inr_1 _ (List.mem_of_getElem? (i := 5) rfl), ⟨by decide, by decide⟩, by decide +kernel, by decide +kernel, Nat.le_of_ble_eq_true rfl, rfl⟩, inr_24 _ (List.mem_of_getElem? (i := 12) rfl), inr_24 _ (List.mem_of_getElem? (i := 13) rfl)⟩
abbrev md_X10_draw : MD := (yX10_draw, cX10_draw, 2, (some .int), none)
theorem ce_X10_draw : CeV md_X10_draw 1 := ⟨⟨inr_28 _ (List.mem_of_getElem? (i := 19) rfl), inr_1 _ (List.mem_of_getElem? (i := 5) rfl), ⟨by decide, by decide⟩, by decide +kernel, by decide +kernel, Nat.le_of_ble_eq_true rfl, rfl⟩, inr_28 _ (List.mem_of_getElem? (i := 17) rfl), inr_28 _ (List.mem_of_getElem? (i := 18) rfl)⟩
abbrev md_X10_drift : MD := (yX10_drift, cX10_drift, 4, (some .int), none)
theorem ce_X10_drift : CeV md_X10_drift 1 := ⟨⟨inr_28 _ (List.mem_of_getElem? (i := 11) rfl), inr_1 _ (List.mem_of_getElem? (i := 5) rfl), ⟨by decide, by decide⟩, by decide +kernel, by decide +kernel, Nat.le_of_ble_eq_true rfl, rfl⟩, inr_28 _ (List.mem_of_getElem? (i := 9) rfl), inr_28 _ (List.mem_of_getElem? (i := 10) rfl)⟩
abbrev md_X10_fallOn : MD := (yX10_fallOn, cX10_fallOn, 4, none, none)
theorem ce_X10_fallOn : CeV md_X10_fallOn 2 := ⟨⟨inr_25 _ (List.mem_of_getElem? (i := 11) rfl), inr_1 _ (List.mem_of_getElem? (i := 5) rfl), ⟨by decide, by decide⟩, by decide +kernel, by decide +kernel, Nat.le_of_ble_eq_true rfl, rfl⟩, inr_25 _ (List.mem_of_getElem? (i := 9) rfl), inr_25 _ (List.mem_of_getElem? (i := 10) rfl)⟩
abbrev md_X10_far : MD := (yX10_far, cX10_far, 3, (some .int), none)
theorem ce_X10_far : CeV md_X10_far 2 := ⟨⟨inr_17 _ (List.mem_of_getElem? (i := 16) rfl), inr_1 _ (List.mem_of_getElem? (i := 5) rfl), ⟨by decide, by decide⟩, by decide +kernel, by decide +kernel, Nat.le_of_ble_eq_true rfl, rfl⟩, inr_17 _ (List.mem_of_getElem? (i := 14) rfl), inr_17 _ (List.mem_of_getElem? (i := 15) rfl)⟩
abbrev md_X10_fault : MD := (yX10_fault, cX10_fault, 1, (some .int), none)
theorem ce_X10_fault : CeV md_X10_fault 0 := ⟨⟨inr_15 _ (List.mem_of_getElem? (i := 12) rfl), inr_1 _ (List.mem_of_getElem? (i := 5) rfl), ⟨by decide, by decide⟩, by decide +kernel, by decide +kernel, Nat.le_of_ble_eq_true rfl, rfl⟩, inr_15 _ (List.mem_of_getElem? (i := 10) rfl), inr_15 _ (List.mem_of_getElem? (i := 11) rfl)⟩
abbrev md_X10_feed : MD := (yX10_feed, cX10_feed, 2, (some .int), none)
theorem ce_X10_feed : CeV md_X10_feed 1 := ⟨⟨inr_7 _ (List.mem_of_getElem? (i := 18) rfl), inr_1 _ (List.mem_of_getElem? (i := 5) rfl), ⟨by decide, by decide⟩, by decide +kernel, by decide +kernel, Nat.le_of_ble_eq_true rfl, rfl⟩, inr_7 _ (List.mem_of_getElem? (i := 16) rfl), inr_7 _ (List.mem_of_getElem? (i := 17) rfl)⟩
abbrev md_X10_fell : MD := (yX10_fell, cX10_fell, 2, (some .int), none)
theorem ce_X10_fell : CeV md_X10_fell 1 := ⟨⟨inr_21 _ (List.mem_of_getElem? (i := 8) rfl), inr_1 _ (List.mem_of_getElem? (i := 5) rfl), ⟨by decide, by decide⟩, by decide +kernel, by decide +kernel, Nat.le_of_ble_eq_true rfl, rfl⟩, inr_21 _ (List.mem_of_getElem? (i := 6) rfl), inr_21 _ (List.mem_of_getElem? (i := 7) rfl)⟩
abbrev md_X10_findFar : MD := (yX10_findFar, cX10_findFar, 4, none, none)
theorem ce_X10_findFar : CeV md_X10_findFar 0 := ⟨⟨inr_14 _ (List.mem_of_getElem? (i := 22) rfl), inr_1 _ (List.mem_of_getElem? (i := 5) rfl), ⟨by decide, by decide⟩, by decide +kernel, by decide +kernel, Nat.le_of_ble_eq_true rfl, rfl⟩, inr_14 _ (List.mem_of_getElem? (i := 20) rfl), inr_14 _ (List.mem_of_getElem? (i := 21) rfl)⟩
abbrev md_X10_findOrder : MD := (yX10_findOrder, cX10_findOrder, 10, (some .int), none)
theorem ce_X10_findOrder : CeV md_X10_findOrder 3 := ⟨⟨inr_32 _ (List.mem_of_getElem? (i := 1) rfl), inr_1 _ (List.mem_of_getElem? (i := 5) rfl), ⟨by decide, by decide⟩, by decide +kernel, by decide +kernel, Nat.le_of_ble_eq_true rfl, rfl⟩, inr_31 _ (List.mem_of_getElem? (i := 23) rfl), inr_32 _ (List.mem_of_getElem? (i := 0) rfl)⟩
abbrev md_X10_findShares : MD := (yX10_findShares, cX10_findShares, 7, none, none)
theorem ce_X10_findShares : CeV md_X10_findShares 1 := ⟨⟨inr_38 _ (List.mem_of_getElem? (i := 20) rfl), inr_1 _ (List.mem_of_getElem? (i := 5) rfl), ⟨by decide, by decide⟩, by decide +kernel, by decide +kernel, Nat.le_of_ble_eq_true rfl, rfl⟩, inr_38 _ (List.mem_of_getElem? (i := 18) rfl), inr_38 _ (List.mem_of_getElem? (i := 19) rfl)⟩
abbrev md_X10_givenBy : MD := (yX10_givenBy, cX10_givenBy, 5, (some .int), none)
theorem ce_X10_givenBy : CeV md_X10_givenBy 2 := ⟨⟨inr_32 _ (List.mem_of_getElem? (i := 15) rfl), inr_1 _ (List.mem_of_getElem? (i := 5) rfl), ⟨by decide, by decide⟩, by decide +kernel, by decide +kernel, Nat.le_of_ble_eq_true rfl, rfl⟩, inr_32 _ (List.mem_of_getElem? (i := 13) rfl), inr_32 _ (List.mem_of_getElem? (i := 14) rfl)⟩
abbrev md_X10_go : MD := (yX10_go, cX10_go, 3, (some .int), none)
theorem ce_X10_go : CeV md_X10_go 2 := ⟨⟨inr_22 _ (List.mem_of_getElem? (i := 8) rfl), inr_1 _ (List.mem_of_getElem? (i := 5) rfl), ⟨by decide, by decide⟩, by decide +kernel, by decide +kernel, Nat.le_of_ble_eq_true rfl, rfl⟩, inr_22 _ (List.mem_of_getElem? (i := 6) rfl), inr_22 _ (List.mem_of_getElem? (i := 7) rfl)⟩
abbrev md_X10_goBack : MD := (yX10_goBack, cX10_goBack, 2, (some .int), none)
theorem ce_X10_goBack : CeV md_X10_goBack 1 := ⟨⟨inr_42 _ (List.mem_of_getElem? (i := 5) rfl), inr_1 _ (List.mem_of_getElem? (i := 5) rfl), ⟨by decide, by decide⟩, by decide +kernel, by decide +kernel, Nat.le_of_ble_eq_true rfl, rfl⟩, inr_42 _ (List.mem_of_getElem? (i := 3) rfl), inr_42 _ (List.mem_of_getElem? (i := 4) rfl)⟩
abbrev md_X10_goTo : MD := (yX10_goTo, cX10_goTo, 3, none, none)
theorem ce_X10_goTo : CeV md_X10_goTo 2 := ⟨⟨inr_22 _ (List.mem_of_getElem? (i := 21) rfl), inr_1 _ (List.mem_of_getElem? (i := 5) rfl), ⟨by decide, by decide⟩, by decide +kernel, by decide +kernel, Nat.le_of_ble_eq_true rfl, rfl⟩, inr_22 _ (List.mem_of_getElem? (i := 19) rfl), inr_22 _ (List.mem_of_getElem? (i := 20) rfl)⟩
abbrev md_X10_handOf : MD := (yX10_handOf, cX10_handOf, 5, (some .int), none)
theorem ce_X10_handOf : CeV md_X10_handOf 2 := ⟨⟨inr_36 _ (List.mem_of_getElem? (i := 2) rfl), inr_1 _ (List.mem_of_getElem? (i := 5) rfl), ⟨by decide, by decide⟩, by decide +kernel, by decide +kernel, Nat.le_of_ble_eq_true rfl, rfl⟩, inr_36 _ (List.mem_of_getElem? (i := 0) rfl), inr_36 _ (List.mem_of_getElem? (i := 1) rfl)⟩
abbrev md_X10_hands : MD := (yX10_hands, cX10_hands, 8, (some .int), none)
theorem ce_X10_hands : CeV md_X10_hands 1 := ⟨⟨inr_35 _ (List.mem_of_getElem? (i := 18) rfl), inr_1 _ (List.mem_of_getElem? (i := 5) rfl), ⟨by decide, by decide⟩, by decide +kernel, by decide +kernel, Nat.le_of_ble_eq_true rfl, rfl⟩, inr_35 _ (List.mem_of_getElem? (i := 16) rfl), inr_35 _ (List.mem_of_getElem? (i := 17) rfl)⟩
abbrev md_X10_has : MD := (yX10_has, cX10_has, 2, (some .boolean), none)
theorem ce_X10_has : CeT md_X10_has 2 := ⟨⟨inr_25 _ (List.mem_of_getElem? (i := 18) rfl), inr_1 _ (List.mem_of_getElem? (i := 5) rfl), ⟨by decide, by decide⟩, by decide +kernel, by decide +kernel, Nat.le_of_ble_eq_true rfl, rfl⟩, inr_25 _ (List.mem_of_getElem? (i := 17) rfl)⟩
abbrev md_X10_here : MD := (yX10_here, cX10_here, 1, (some .int), none)
theorem ce_X10_here : CeV md_X10_here 0 := ⟨⟨inr_12 _ (List.mem_of_getElem? (i := 23) rfl), inr_1 _ (List.mem_of_getElem? (i := 5) rfl), ⟨by decide, by decide⟩, by decide +kernel, by decide +kernel, Nat.le_of_ble_eq_true rfl, rfl⟩, inr_12 _ (List.mem_of_getElem? (i := 21) rfl), inr_12 _ (List.mem_of_getElem? (i := 22) rfl)⟩
abbrev md_X10_image : MD := (yX10_image, cX10_image, 2, (some .int), none)
theorem ce_X10_image : CeV md_X10_image 1 := ⟨⟨inr_41 _ (List.mem_of_getElem? (i := 18) rfl), inr_1 _ (List.mem_of_getElem? (i := 5) rfl), ⟨by decide, by decide⟩, by decide +kernel, by decide +kernel, Nat.le_of_ble_eq_true rfl, rfl⟩, inr_41 _ (List.mem_of_getElem? (i := 16) rfl), inr_41 _ (List.mem_of_getElem? (i := 17) rfl)⟩
abbrev md_X10_in : MD := (yX10_in, cX10_in, 6, (some .boolean), none)
theorem ce_X10_in : CeT md_X10_in 3 := ⟨⟨inr_8 _ (List.mem_of_getElem? (i := 1) rfl), inr_1 _ (List.mem_of_getElem? (i := 5) rfl), ⟨by decide, by decide⟩, by decide +kernel, by decide +kernel, Nat.le_of_ble_eq_true rfl, rfl⟩, inr_8 _ (List.mem_of_getElem? (i := 0) rfl)⟩
abbrev md_X10_inWay : MD := (yX10_inWay, cX10_inWay, 4, (some .int), none)
theorem ce_X10_inWay : CeV md_X10_inWay 1 := ⟨⟨inr_16 _ (List.mem_of_getElem? (i := 17) rfl), inr_1 _ (List.mem_of_getElem? (i := 5) rfl), ⟨by decide, by decide⟩, by decide +kernel, by decide +kernel, Nat.le_of_ble_eq_true rfl, rfl⟩, inr_16 _ (List.mem_of_getElem? (i := 15) rfl), inr_16 _ (List.mem_of_getElem? (i := 16) rfl)⟩
abbrev md_X10_isKeeper : MD := (yX10_isKeeper, cX10_isKeeper, 2, (some .boolean), none)
theorem ce_X10_isKeeper : CeV md_X10_isKeeper 1 := ⟨⟨inr_19 _ (List.mem_of_getElem? (i := 2) rfl), inr_1 _ (List.mem_of_getElem? (i := 5) rfl), ⟨by decide, by decide⟩, by decide +kernel, by decide +kernel, Nat.le_of_ble_eq_true rfl, rfl⟩, inr_19 _ (List.mem_of_getElem? (i := 0) rfl), inr_19 _ (List.mem_of_getElem? (i := 1) rfl)⟩
abbrev md_X10_isOnWay : MD := (yX10_isOnWay, cX10_isOnWay, 2, (some .boolean), none)
theorem ce_X10_isOnWay : CeV md_X10_isOnWay 1 := ⟨⟨inr_22 _ (List.mem_of_getElem? (i := 17) rfl), inr_1 _ (List.mem_of_getElem? (i := 5) rfl), ⟨by decide, by decide⟩, by decide +kernel, by decide +kernel, Nat.le_of_ble_eq_true rfl, rfl⟩, inr_22 _ (List.mem_of_getElem? (i := 15) rfl), inr_22 _ (List.mem_of_getElem? (i := 16) rfl)⟩
abbrev md_X10_isPromise : MD := (yX10_isPromise, cX10_isPromise, 2, (some .boolean), none)
theorem ce_X10_isPromise : CeV md_X10_isPromise 1 := ⟨⟨inr_20 _ (List.mem_of_getElem? (i := 13) rfl), inr_1 _ (List.mem_of_getElem? (i := 5) rfl), ⟨by decide, by decide⟩, by decide +kernel, by decide +kernel, Nat.le_of_ble_eq_true rfl, rfl⟩, inr_20 _ (List.mem_of_getElem? (i := 11) rfl), inr_20 _ (List.mem_of_getElem? (i := 12) rfl)⟩
abbrev md_X10_isTown : MD := (yX10_isTown, cX10_isTown, 2, (some .boolean), none)
theorem ce_X10_isTown : CeV md_X10_isTown 1 := ⟨⟨inr_17 _ (List.mem_of_getElem? (i := 21) rfl), inr_1 _ (List.mem_of_getElem? (i := 5) rfl), ⟨by decide, by decide⟩, by decide +kernel, by decide +kernel, Nat.le_of_ble_eq_true rfl, rfl⟩, inr_17 _ (List.mem_of_getElem? (i := 19) rfl), inr_17 _ (List.mem_of_getElem? (i := 20) rfl)⟩
abbrev md_X10_isWinter : MD := (yX10_isWinter, cX10_isWinter, 3, (some .boolean), none)
theorem ce_X10_isWinter : CeV md_X10_isWinter 1 := ⟨⟨inr_17 _ (List.mem_of_getElem? (i := 0) rfl), inr_1 _ (List.mem_of_getElem? (i := 5) rfl), ⟨by decide, by decide⟩, by decide +kernel, by decide +kernel, Nat.le_of_ble_eq_true rfl, rfl⟩, inr_16 _ (List.mem_of_getElem? (i := 22) rfl), inr_16 _ (List.mem_of_getElem? (i := 23) rfl)⟩
abbrev md_X10_judge : MD := (yX10_judge, cX10_judge, 3, (some .int), none)
theorem ce_X10_judge : CeV md_X10_judge 0 := ⟨⟨inr_40 _ (List.mem_of_getElem? (i := 11) rfl), inr_1 _ (List.mem_of_getElem? (i := 5) rfl), ⟨by decide, by decide⟩, by decide +kernel, by decide +kernel, Nat.le_of_ble_eq_true rfl, rfl⟩, inr_40 _ (List.mem_of_getElem? (i := 9) rfl), inr_40 _ (List.mem_of_getElem? (i := 10) rfl)⟩
abbrev md_X10_keep : MD := (yX10_keep, cX10_keep, 2, (some .int), none)
theorem ce_X10_keep : CeV md_X10_keep 1 := ⟨⟨inr_26 _ (List.mem_of_getElem? (i := 9) rfl), inr_1 _ (List.mem_of_getElem? (i := 5) rfl), ⟨by decide, by decide⟩, by decide +kernel, by decide +kernel, Nat.le_of_ble_eq_true rfl, rfl⟩, inr_26 _ (List.mem_of_getElem? (i := 7) rfl), inr_26 _ (List.mem_of_getElem? (i := 8) rfl)⟩
abbrev md_X10_keepNow : MD := (yX10_keepNow, cX10_keepNow, 3, none, none)
theorem ce_X10_keepNow : CeV md_X10_keepNow 1 := ⟨⟨inr_26 _ (List.mem_of_getElem? (i := 17) rfl), inr_1 _ (List.mem_of_getElem? (i := 5) rfl), ⟨by decide, by decide⟩, by decide +kernel, by decide +kernel, Nat.le_of_ble_eq_true rfl, rfl⟩, inr_26 _ (List.mem_of_getElem? (i := 15) rfl), inr_26 _ (List.mem_of_getElem? (i := 16) rfl)⟩
abbrev md_X10_keeper : MD := (yX10_keeper, cX10_keeper, 3, (some .int), none)
theorem ce_X10_keeper : CeV md_X10_keeper 2 := ⟨⟨inr_18 _ (List.mem_of_getElem? (i := 22) rfl), inr_1 _ (List.mem_of_getElem? (i := 5) rfl), ⟨by decide, by decide⟩, by decide +kernel, by decide +kernel, Nat.le_of_ble_eq_true rfl, rfl⟩, inr_18 _ (List.mem_of_getElem? (i := 20) rfl), inr_18 _ (List.mem_of_getElem? (i := 21) rfl)⟩
abbrev md_X10_keeperByDraws : MD := (yX10_keeperByDraws, cX10_keeperByDraws, 3, none, none)
theorem ce_X10_keeperByDraws : CeV md_X10_keeperByDraws 1 := ⟨⟨inr_28 _ (List.mem_of_getElem? (i := 15) rfl), inr_1 _ (List.mem_of_getElem? (i := 5) rfl), ⟨by decide, by decide⟩, by decide +kernel, by decide +kernel, Nat.le_of_ble_eq_true rfl, rfl⟩, inr_28 _ (List.mem_of_getElem? (i := 13) rfl), inr_28 _ (List.mem_of_getElem? (i := 14) rfl)⟩
abbrev md_X10_keepsSo : MD := (yX10_keepsSo, cX10_keepsSo, 9, (some .boolean), none)
theorem ce_X10_keepsSo : CeV md_X10_keepsSo 2 := ⟨⟨inr_40 _ (List.mem_of_getElem? (i := 15) rfl), inr_1 _ (List.mem_of_getElem? (i := 5) rfl), ⟨by decide, by decide⟩, by decide +kernel, by decide +kernel, Nat.le_of_ble_eq_true rfl, rfl⟩, inr_40 _ (List.mem_of_getElem? (i := 13) rfl), inr_40 _ (List.mem_of_getElem? (i := 14) rfl)⟩
abbrev md_X10_land : MD := (yX10_land, cX10_land, 2, (some .int), none)
theorem ce_X10_land : CeV md_X10_land 0 := ⟨⟨inr_12 _ (List.mem_of_getElem? (i := 10) rfl), inr_1 _ (List.mem_of_getElem? (i := 5) rfl), ⟨by decide, by decide⟩, by decide +kernel, by decide +kernel, Nat.le_of_ble_eq_true rfl, rfl⟩, inr_12 _ (List.mem_of_getElem? (i := 8) rfl), inr_12 _ (List.mem_of_getElem? (i := 9) rfl)⟩
abbrev md_X10_let : MD := (yX10_let, cX10_let, 11, (some .int), none)
theorem ce_X10_let : CeV md_X10_let 3 := ⟨⟨inr_39 _ (List.mem_of_getElem? (i := 8) rfl), inr_1 _ (List.mem_of_getElem? (i := 5) rfl), ⟨by decide, by decide⟩, by decide +kernel, by decide +kernel, Nat.le_of_ble_eq_true rfl, rfl⟩, inr_39 _ (List.mem_of_getElem? (i := 6) rfl), inr_39 _ (List.mem_of_getElem? (i := 7) rfl)⟩
abbrev md_X10_lives : MD := (yX10_lives, cX10_lives, 6, (some .int), none)
theorem ce_X10_lives : CeV md_X10_lives 2 := ⟨⟨inr_37 _ (List.mem_of_getElem? (i := 20) rfl), inr_1 _ (List.mem_of_getElem? (i := 5) rfl), ⟨by decide, by decide⟩, by decide +kernel, by decide +kernel, Nat.le_of_ble_eq_true rfl, rfl⟩, inr_37 _ (List.mem_of_getElem? (i := 18) rfl), inr_37 _ (List.mem_of_getElem? (i := 19) rfl)⟩
abbrev md_X10_look : MD := (yX10_look, cX10_look, 2, none, none)
theorem ce_X10_look : CeV md_X10_look 0 := ⟨⟨inr_33 _ (List.mem_of_getElem? (i := 5) rfl), inr_1 _ (List.mem_of_getElem? (i := 5) rfl), ⟨by decide, by decide⟩, by decide +kernel, by decide +kernel, Nat.le_of_ble_eq_true rfl, rfl⟩, inr_33 _ (List.mem_of_getElem? (i := 3) rfl), inr_33 _ (List.mem_of_getElem? (i := 4) rfl)⟩
abbrev md_X10_mayKeepOn : MD := (yX10_mayKeepOn, cX10_mayKeepOn, 6, (some .int), none)
theorem ce_X10_mayKeepOn : CeV md_X10_mayKeepOn 2 := ⟨⟨inr_36 _ (List.mem_of_getElem? (i := 22) rfl), inr_1 _ (List.mem_of_getElem? (i := 5) rfl), ⟨by decide, by decide⟩, by decide +kernel, by decide +kernel, Nat.le_of_ble_eq_true rfl, rfl⟩, inr_36 _ (List.mem_of_getElem? (i := 20) rfl), inr_36 _ (List.mem_of_getElem? (i := 21) rfl)⟩
abbrev md_X10_ofKeeper : MD := (yX10_ofKeeper, cX10_ofKeeper, 4, (some .int), none)
theorem ce_X10_ofKeeper : CeV md_X10_ofKeeper 1 := ⟨⟨inr_19 _ (List.mem_of_getElem? (i := 6) rfl), inr_1 _ (List.mem_of_getElem? (i := 5) rfl), ⟨by decide, by decide⟩, by decide +kernel, by decide +kernel, Nat.le_of_ble_eq_true rfl, rfl⟩, inr_19 _ (List.mem_of_getElem? (i := 4) rfl), inr_19 _ (List.mem_of_getElem? (i := 5) rfl)⟩
abbrev md_X10_one : MD := (yX10_one, cX10_one, 1, (some .int), none)
theorem ce_X10_one : CeT md_X10_one 1 := ⟨⟨inr_16 _ (List.mem_of_getElem? (i := 20) rfl), inr_1 _ (List.mem_of_getElem? (i := 5) rfl), ⟨by decide, by decide⟩, by decide +kernel, by decide +kernel, Nat.le_of_ble_eq_true rfl, rfl⟩, inr_16 _ (List.mem_of_getElem? (i := 19) rfl)⟩
abbrev md_X10_openOf : MD := (yX10_openOf, cX10_openOf, 2, (some .int), none)
theorem ce_X10_openOf : CeV md_X10_openOf 1 := ⟨⟨inr_31 _ (List.mem_of_getElem? (i := 21) rfl), inr_1 _ (List.mem_of_getElem? (i := 5) rfl), ⟨by decide, by decide⟩, by decide +kernel, by decide +kernel, Nat.le_of_ble_eq_true rfl, rfl⟩, inr_31 _ (List.mem_of_getElem? (i := 19) rfl), inr_31 _ (List.mem_of_getElem? (i := 20) rfl)⟩
abbrev md_X10_passDay : MD := (yX10_passDay, cX10_passDay, 2, none, none)
theorem ce_X10_passDay : CeV md_X10_passDay 0 := ⟨⟨inr_24 _ (List.mem_of_getElem? (i := 23) rfl), inr_1 _ (List.mem_of_getElem? (i := 5) rfl), ⟨by decide, by decide⟩, by decide +kernel, by decide +kernel, Nat.le_of_ble_eq_true rfl, rfl⟩, inr_24 _ (List.mem_of_getElem? (i := 21) rfl), inr_24 _ (List.mem_of_getElem? (i := 22) rfl)⟩
abbrev md_X10_plan : MD := (yX10_plan, cX10_plan, 4, (some .int), none)
theorem ce_X10_plan : CeV md_X10_plan 2 := ⟨⟨inr_31 _ (List.mem_of_getElem? (i := 16) rfl), inr_1 _ (List.mem_of_getElem? (i := 5) rfl), ⟨by decide, by decide⟩, by decide +kernel, by decide +kernel, Nat.le_of_ble_eq_true rfl, rfl⟩, inr_31 _ (List.mem_of_getElem? (i := 14) rfl), inr_31 _ (List.mem_of_getElem? (i := 15) rfl)⟩
abbrev md_X10_promise : MD := (yX10_promise, cX10_promise, 3, (some .int), none)
theorem ce_X10_promise : CeV md_X10_promise 2 := ⟨⟨inr_20 _ (List.mem_of_getElem? (i := 9) rfl), inr_1 _ (List.mem_of_getElem? (i := 5) rfl), ⟨by decide, by decide⟩, by decide +kernel, by decide +kernel, Nat.le_of_ble_eq_true rfl, rfl⟩, inr_20 _ (List.mem_of_getElem? (i := 7) rfl), inr_20 _ (List.mem_of_getElem? (i := 8) rfl)⟩
abbrev md_X10_put : MD := (yX10_put, cX10_put, 9, (some .boolean), none)
theorem ce_X10_put : CeV md_X10_put 4 := ⟨⟨inr_32 _ (List.mem_of_getElem? (i := 11) rfl), inr_1 _ (List.mem_of_getElem? (i := 5) rfl), ⟨by decide, by decide⟩, by decide +kernel, by decide +kernel, Nat.le_of_ble_eq_true rfl, rfl⟩, inr_32 _ (List.mem_of_getElem? (i := 9) rfl), inr_32 _ (List.mem_of_getElem? (i := 10) rfl)⟩
abbrev md_X10_refusedDays : MD := (yX10_refusedDays, cX10_refusedDays, 2, (some .int), none)
theorem ce_X10_refusedDays : CeV md_X10_refusedDays 1 := ⟨⟨inr_24 _ (List.mem_of_getElem? (i := 18) rfl), inr_1 _ (List.mem_of_getElem? (i := 5) rfl), ⟨by decide, by decide⟩, by decide +kernel, by decide +kernel, Nat.le_of_ble_eq_true rfl, rfl⟩, inr_24 _ (List.mem_of_getElem? (i := 16) rfl), inr_24 _ (List.mem_of_getElem? (i := 17) rfl)⟩
abbrev md_X10_remember : MD := (yX10_remember, cX10_remember, 2, none, none)
theorem ce_X10_remember : CeV md_X10_remember 0 := ⟨⟨inr_25 _ (List.mem_of_getElem? (i := 3) rfl), inr_1 _ (List.mem_of_getElem? (i := 5) rfl), ⟨by decide, by decide⟩, by decide +kernel, by decide +kernel, Nat.le_of_ble_eq_true rfl, rfl⟩, inr_25 _ (List.mem_of_getElem? (i := 1) rfl), inr_25 _ (List.mem_of_getElem? (i := 2) rfl)⟩
abbrev md_X10_ripe : MD := (yX10_ripe, cX10_ripe, 3, (some .int), none)
theorem ce_X10_ripe : CeV md_X10_ripe 2 := ⟨⟨inr_20 _ (List.mem_of_getElem? (i := 17) rfl), inr_1 _ (List.mem_of_getElem? (i := 5) rfl), ⟨by decide, by decide⟩, by decide +kernel, by decide +kernel, Nat.le_of_ble_eq_true rfl, rfl⟩, inr_20 _ (List.mem_of_getElem? (i := 15) rfl), inr_20 _ (List.mem_of_getElem? (i := 16) rfl)⟩
abbrev md_X10_ripeBy : MD := (yX10_ripeBy, cX10_ripeBy, 5, (some .int), none)
theorem ce_X10_ripeBy : CeV md_X10_ripeBy 2 := ⟨⟨inr_20 _ (List.mem_of_getElem? (i := 21) rfl), inr_1 _ (List.mem_of_getElem? (i := 5) rfl), ⟨by decide, by decide⟩, by decide +kernel, by decide +kernel, Nat.le_of_ble_eq_true rfl, rfl⟩, inr_20 _ (List.mem_of_getElem? (i := 19) rfl), inr_20 _ (List.mem_of_getElem? (i := 20) rfl)⟩
abbrev md_X10_seed : MD := (yX10_seed, cX10_seed, 3, (some .int), none)
theorem ce_X10_seed : CeV md_X10_seed 1 := ⟨⟨inr_41 _ (List.mem_of_getElem? (i := 7) rfl), inr_1 _ (List.mem_of_getElem? (i := 5) rfl), ⟨by decide, by decide⟩, by decide +kernel, by decide +kernel, Nat.le_of_ble_eq_true rfl, rfl⟩, inr_41 _ (List.mem_of_getElem? (i := 5) rfl), inr_41 _ (List.mem_of_getElem? (i := 6) rfl)⟩
abbrev md_X10_share : MD := (yX10_share, cX10_share, 2, (some .int), none)
theorem ce_X10_share : CeV md_X10_share 1 := ⟨⟨inr_38 _ (List.mem_of_getElem? (i := 16) rfl), inr_1 _ (List.mem_of_getElem? (i := 5) rfl), ⟨by decide, by decide⟩, by decide +kernel, by decide +kernel, Nat.le_of_ble_eq_true rfl, rfl⟩, inr_38 _ (List.mem_of_getElem? (i := 14) rfl), inr_38 _ (List.mem_of_getElem? (i := 15) rfl)⟩
abbrev md_X10_sizesOf : MD := (yX10_sizesOf, cX10_sizesOf, 4, (some .int), none)
theorem ce_X10_sizesOf : CeV md_X10_sizesOf 1 := ⟨⟨inr_39 _ (List.mem_of_getElem? (i := 0) rfl), inr_1 _ (List.mem_of_getElem? (i := 5) rfl), ⟨by decide, by decide⟩, by decide +kernel, by decide +kernel, Nat.le_of_ble_eq_true rfl, rfl⟩, inr_38 _ (List.mem_of_getElem? (i := 22) rfl), inr_38 _ (List.mem_of_getElem? (i := 23) rfl)⟩
abbrev md_X10_slackBy : MD := (yX10_slackBy, cX10_slackBy, 2, (some .int), none)
theorem ce_X10_slackBy : CeV md_X10_slackBy 1 := ⟨⟨inr_33 _ (List.mem_of_getElem? (i := 0) rfl), inr_1 _ (List.mem_of_getElem? (i := 5) rfl), ⟨by decide, by decide⟩, by decide +kernel, by decide +kernel, Nat.le_of_ble_eq_true rfl, rfl⟩, inr_32 _ (List.mem_of_getElem? (i := 22) rfl), inr_32 _ (List.mem_of_getElem? (i := 23) rfl)⟩
abbrev md_X10_still : MD := (yX10_still, cX10_still, 6, (some .int), none)
theorem ce_X10_still : CeV md_X10_still 3 := ⟨⟨inr_34 _ (List.mem_of_getElem? (i := 12) rfl), inr_1 _ (List.mem_of_getElem? (i := 5) rfl), ⟨by decide, by decide⟩, by decide +kernel, by decide +kernel, Nat.le_of_ble_eq_true rfl, rfl⟩, inr_34 _ (List.mem_of_getElem? (i := 10) rfl), inr_34 _ (List.mem_of_getElem? (i := 11) rfl)⟩
abbrev md_X10_swap : MD := (yX10_swap, cX10_swap, 4, (some .int), none)
theorem ce_X10_swap : CeV md_X10_swap 2 := ⟨⟨inr_27 _ (List.mem_of_getElem? (i := 15) rfl), inr_1 _ (List.mem_of_getElem? (i := 5) rfl), ⟨by decide, by decide⟩, by decide +kernel, by decide +kernel, Nat.le_of_ble_eq_true rfl, rfl⟩, inr_27 _ (List.mem_of_getElem? (i := 13) rfl), inr_27 _ (List.mem_of_getElem? (i := 14) rfl)⟩
abbrev md_X10_take : MD := (yX10_take, cX10_take, 2, none, none)
theorem ce_X10_take : CeV md_X10_take 0 := ⟨⟨inr_14 _ (List.mem_of_getElem? (i := 15) rfl), inr_1 _ (List.mem_of_getElem? (i := 5) rfl), ⟨by decide, by decide⟩, by decide +kernel, by decide +kernel, Nat.le_of_ble_eq_true rfl, rfl⟩, inr_14 _ (List.mem_of_getElem? (i := 13) rfl), inr_14 _ (List.mem_of_getElem? (i := 14) rfl)⟩
abbrev md_X10_takeClause : MD := (yX10_takeClause, cX10_takeClause, 4, none, none)
theorem ce_X10_takeClause : CeV md_X10_takeClause 0 := ⟨⟨inr_13 _ (List.mem_of_getElem? (i := 3) rfl), inr_1 _ (List.mem_of_getElem? (i := 5) rfl), ⟨by decide, by decide⟩, by decide +kernel, by decide +kernel, Nat.le_of_ble_eq_true rfl, rfl⟩, inr_13 _ (List.mem_of_getElem? (i := 1) rfl), inr_13 _ (List.mem_of_getElem? (i := 2) rfl)⟩
abbrev md_X10_takeDown : MD := (yX10_takeDown, cX10_takeDown, 2, (some .int), none)
theorem ce_X10_takeDown : CeV md_X10_takeDown 1 := ⟨⟨inr_27 _ (List.mem_of_getElem? (i := 4) rfl), inr_1 _ (List.mem_of_getElem? (i := 5) rfl), ⟨by decide, by decide⟩, by decide +kernel, by decide +kernel, Nat.le_of_ble_eq_true rfl, rfl⟩, inr_27 _ (List.mem_of_getElem? (i := 2) rfl), inr_27 _ (List.mem_of_getElem? (i := 3) rfl)⟩
abbrev md_X10_takeKeeper : MD := (yX10_takeKeeper, cX10_takeKeeper, 2, none, none)
theorem ce_X10_takeKeeper : CeV md_X10_takeKeeper 1 := ⟨⟨inr_14 _ (List.mem_of_getElem? (i := 3) rfl), inr_1 _ (List.mem_of_getElem? (i := 5) rfl), ⟨by decide, by decide⟩, by decide +kernel, by decide +kernel, Nat.le_of_ble_eq_true rfl, rfl⟩, inr_14 _ (List.mem_of_getElem? (i := 1) rfl), inr_14 _ (List.mem_of_getElem? (i := 2) rfl)⟩
abbrev md_X10_takeNumber : MD := (yX10_takeNumber, cX10_takeNumber, 6, (some .int), none)
theorem ce_X10_takeNumber : CeV md_X10_takeNumber 2 := ⟨⟨inr_13 _ (List.mem_of_getElem? (i := 15) rfl), inr_1 _ (List.mem_of_getElem? (i := 5) rfl), ⟨by decide, by decide⟩, by decide +kernel, by decide +kernel, Nat.le_of_ble_eq_true rfl, rfl⟩, inr_13 _ (List.mem_of_getElem? (i := 13) rfl), inr_13 _ (List.mem_of_getElem? (i := 14) rfl)⟩
abbrev md_X10_takePromise : MD := (yX10_takePromise, cX10_takePromise, 4, none, none)
theorem ce_X10_takePromise : CeV md_X10_takePromise 1 := ⟨⟨inr_14 _ (List.mem_of_getElem? (i := 7) rfl), inr_1 _ (List.mem_of_getElem? (i := 5) rfl), ⟨by decide, by decide⟩, by decide +kernel, by decide +kernel, Nat.le_of_ble_eq_true rfl, rfl⟩, inr_14 _ (List.mem_of_getElem? (i := 5) rfl), inr_14 _ (List.mem_of_getElem? (i := 6) rfl)⟩
abbrev md_X10_takeRoad : MD := (yX10_takeRoad, cX10_takeRoad, 6, none, none)
theorem ce_X10_takeRoad : CeV md_X10_takeRoad 1 := ⟨⟨inr_13 _ (List.mem_of_getElem? (i := 23) rfl), inr_1 _ (List.mem_of_getElem? (i := 5) rfl), ⟨by decide, by decide⟩, by decide +kernel, by decide +kernel, Nat.le_of_ble_eq_true rfl, rfl⟩, inr_13 _ (List.mem_of_getElem? (i := 21) rfl), inr_13 _ (List.mem_of_getElem? (i := 22) rfl)⟩
abbrev md_X10_takeTowns : MD := (yX10_takeTowns, cX10_takeTowns, 2, none, none)
theorem ce_X10_takeTowns : CeV md_X10_takeTowns 1 := ⟨⟨inr_13 _ (List.mem_of_getElem? (i := 11) rfl), inr_1 _ (List.mem_of_getElem? (i := 5) rfl), ⟨by decide, by decide⟩, by decide +kernel, by decide +kernel, Nat.le_of_ble_eq_true rfl, rfl⟩, inr_13 _ (List.mem_of_getElem? (i := 9) rfl), inr_13 _ (List.mem_of_getElem? (i := 10) rfl)⟩
abbrev md_X10_takeWinter : MD := (yX10_takeWinter, cX10_takeWinter, 3, none, none)
theorem ce_X10_takeWinter : CeV md_X10_takeWinter 1 := ⟨⟨inr_14 _ (List.mem_of_getElem? (i := 11) rfl), inr_1 _ (List.mem_of_getElem? (i := 5) rfl), ⟨by decide, by decide⟩, by decide +kernel, by decide +kernel, Nat.le_of_ble_eq_true rfl, rfl⟩, inr_14 _ (List.mem_of_getElem? (i := 9) rfl), inr_14 _ (List.mem_of_getElem? (i := 10) rfl)⟩
abbrev md_X10_takeWith : MD := (yX10_takeWith, cX10_takeWith, 4, none, none)
theorem ce_X10_takeWith : CeV md_X10_takeWith 1 := ⟨⟨inr_25 _ (List.mem_of_getElem? (i := 15) rfl), inr_1 _ (List.mem_of_getElem? (i := 5) rfl), ⟨by decide, by decide⟩, by decide +kernel, by decide +kernel, Nat.le_of_ble_eq_true rfl, rfl⟩, inr_25 _ (List.mem_of_getElem? (i := 13) rfl), inr_25 _ (List.mem_of_getElem? (i := 14) rfl)⟩
abbrev md_X10_tear : MD := (yX10_tear, cX10_tear, 2, (some .int), none)
theorem ce_X10_tear : CeV md_X10_tear 0 := ⟨⟨inr_40 _ (List.mem_of_getElem? (i := 23) rfl), inr_1 _ (List.mem_of_getElem? (i := 5) rfl), ⟨by decide, by decide⟩, by decide +kernel, by decide +kernel, Nat.le_of_ble_eq_true rfl, rfl⟩, inr_40 _ (List.mem_of_getElem? (i := 21) rfl), inr_40 _ (List.mem_of_getElem? (i := 22) rfl)⟩
abbrev md_X10_told : MD := (yX10_told, cX10_told, 2, (some .int), none)
theorem ce_X10_told : CeV md_X10_told 1 := ⟨⟨inr_16 _ (List.mem_of_getElem? (i := 13) rfl), inr_1 _ (List.mem_of_getElem? (i := 5) rfl), ⟨by decide, by decide⟩, by decide +kernel, by decide +kernel, Nat.le_of_ble_eq_true rfl, rfl⟩, inr_16 _ (List.mem_of_getElem? (i := 11) rfl), inr_16 _ (List.mem_of_getElem? (i := 12) rfl)⟩
abbrev md_X10_townBy : MD := (yX10_townBy, cX10_townBy, 2, (some .int), none)
theorem ce_X10_townBy : CeV md_X10_townBy 1 := ⟨⟨inr_32 _ (List.mem_of_getElem? (i := 6) rfl), inr_1 _ (List.mem_of_getElem? (i := 5) rfl), ⟨by decide, by decide⟩, by decide +kernel, by decide +kernel, Nat.le_of_ble_eq_true rfl, rfl⟩, inr_32 _ (List.mem_of_getElem? (i := 4) rfl), inr_32 _ (List.mem_of_getElem? (i := 5) rfl)⟩
abbrev md_X10_undo : MD := (yX10_undo, cX10_undo, 3, (some .int), none)
theorem ce_X10_undo : CeV md_X10_undo 1 := ⟨⟨inr_29 _ (List.mem_of_getElem? (i := 11) rfl), inr_1 _ (List.mem_of_getElem? (i := 5) rfl), ⟨by decide, by decide⟩, by decide +kernel, by decide +kernel, Nat.le_of_ble_eq_true rfl, rfl⟩, inr_29 _ (List.mem_of_getElem? (i := 9) rfl), inr_29 _ (List.mem_of_getElem? (i := 10) rfl)⟩
abbrev md_X10_want : MD := (yX10_want, cX10_want, 4, (some .boolean), none)
theorem ce_X10_want : CeV md_X10_want 3 := ⟨⟨inr_13 _ (List.mem_of_getElem? (i := 7) rfl), inr_1 _ (List.mem_of_getElem? (i := 5) rfl), ⟨by decide, by decide⟩, by decide +kernel, by decide +kernel, Nat.le_of_ble_eq_true rfl, rfl⟩, inr_13 _ (List.mem_of_getElem? (i := 5) rfl), inr_13 _ (List.mem_of_getElem? (i := 6) rfl)⟩
abbrev md_X10_withGrafts : MD := (yX10_withGrafts, cX10_withGrafts, 6, (some .int), none)
theorem ce_X10_withGrafts : CeV md_X10_withGrafts 2 := ⟨⟨inr_34 _ (List.mem_of_getElem? (i := 1) rfl), inr_1 _ (List.mem_of_getElem? (i := 5) rfl), ⟨by decide, by decide⟩, by decide +kernel, by decide +kernel, Nat.le_of_ble_eq_true rfl, rfl⟩, inr_33 _ (List.mem_of_getElem? (i := 23) rfl), inr_34 _ (List.mem_of_getElem? (i := 0) rfl)⟩
abbrev md_X10_write : MD := (yX10_write, cX10_write, 3, (some .int), none)
theorem ce_X10_write : CeV md_X10_write 2 := ⟨⟨inr_39 _ (List.mem_of_getElem? (i := 19) rfl), inr_1 _ (List.mem_of_getElem? (i := 5) rfl), ⟨by decide, by decide⟩, by decide +kernel, by decide +kernel, Nat.le_of_ble_eq_true rfl, rfl⟩, inr_39 _ (List.mem_of_getElem? (i := 17) rfl), inr_39 _ (List.mem_of_getElem? (i := 18) rfl)⟩
abbrev md_X1_begin : MD := (yX1_begin, cX1_begin, 2, none, none)
theorem ce_X1_begin : CeV md_X1_begin 0 := ⟨⟨inr_11 _ (List.mem_of_getElem? (i := 15) rfl), inr_1 _ (List.mem_of_getElem? (i := 23) rfl), ⟨by decide, by decide⟩, by decide +kernel, by decide +kernel, Nat.le_of_ble_eq_true rfl, rfl⟩, inr_11 _ (List.mem_of_getElem? (i := 13) rfl), inr_11 _ (List.mem_of_getElem? (i := 14) rfl)⟩
abbrev md_X1_canKeep : MD := (yX1_canKeep, cX1_canKeep, 3, (some .boolean), none)
theorem ce_X1_canKeep : CeV md_X1_canKeep 1 := ⟨⟨inr_26 _ (List.mem_of_getElem? (i := 1) rfl), inr_1 _ (List.mem_of_getElem? (i := 23) rfl), ⟨by decide, by decide⟩, by decide +kernel, by decide +kernel, Nat.le_of_ble_eq_true rfl, rfl⟩, inr_25 _ (List.mem_of_getElem? (i := 23) rfl), inr_26 _ (List.mem_of_getElem? (i := 0) rfl)⟩
abbrev md_X1_depart : MD := (yX1_depart, cX1_depart, 4, (some .boolean), none)
theorem ce_X1_depart : CeV md_X1_depart 2 := ⟨⟨inr_21 _ (List.mem_of_getElem? (i := 17) rfl), inr_1 _ (List.mem_of_getElem? (i := 23) rfl), ⟨by decide, by decide⟩, by decide +kernel, by decide +kernel, Nat.le_of_ble_eq_true rfl, rfl⟩, inr_21 _ (List.mem_of_getElem? (i := 15) rfl), inr_21 _ (List.mem_of_getElem? (i := 16) rfl)⟩
abbrev md_X1_dueOn : MD := (yX1_dueOn, cX1_dueOn, 5, (some .int), none)
theorem ce_X1_dueOn : CeV md_X1_dueOn 2 := ⟨⟨inr_36 _ (List.mem_of_getElem? (i := 13) rfl), inr_1 _ (List.mem_of_getElem? (i := 23) rfl), ⟨by decide, by decide⟩, by decide +kernel, by decide +kernel, Nat.le_of_ble_eq_true rfl, rfl⟩, inr_36 _ (List.mem_of_getElem? (i := 11) rfl), inr_36 _ (List.mem_of_getElem? (i := 12) rfl)⟩
abbrev md_X1_end : MD := (yX1_end, cX1_end, 4, none, none)
theorem ce_X1_end : CeV md_X1_end 3 := ⟨⟨inr_24 _ (List.mem_of_getElem? (i := 10) rfl), inr_1 _ (List.mem_of_getElem? (i := 23) rfl), ⟨by decide, by decide⟩, by decide +kernel, by decide +kernel, Nat.le_of_ble_eq_true rfl, rfl⟩, inr_24 _ (List.mem_of_getElem? (i := 8) rfl), inr_24 _ (List.mem_of_getElem? (i := 9) rfl)⟩
abbrev md_X1_endedOn : MD := (yX1_endedOn, cX1_endedOn, 2, (some .int), none)
theorem ce_X1_endedOn : CeV md_X1_endedOn 1 := ⟨⟨inr_20 _ (List.mem_of_getElem? (i := 5) rfl), inr_1 _ (List.mem_of_getElem? (i := 23) rfl), ⟨by decide, by decide⟩, by decide +kernel, by decide +kernel, Nat.le_of_ble_eq_true rfl, rfl⟩, inr_20 _ (List.mem_of_getElem? (i := 3) rfl), inr_20 _ (List.mem_of_getElem? (i := 4) rfl)⟩
abbrev md_X1_exchange : MD := (yX1_exchange, cX1_exchange, 4, none, none)
theorem ce_X1_exchange : CeV md_X1_exchange 2 := ⟨⟨inr_27 _ (List.mem_of_getElem? (i := 11) rfl), inr_1 _ (List.mem_of_getElem? (i := 23) rfl), ⟨by decide, by decide⟩, by decide +kernel, by decide +kernel, Nat.le_of_ble_eq_true rfl, rfl⟩, inr_27 _ (List.mem_of_getElem? (i := 9) rfl), inr_27 _ (List.mem_of_getElem? (i := 10) rfl)⟩
abbrev md_X1_fellOn : MD := (yX1_fellOn, cX1_fellOn, 2, (some .int), none)
theorem ce_X1_fellOn : CeV md_X1_fellOn 1 := ⟨⟨inr_21 _ (List.mem_of_getElem? (i := 4) rfl), inr_1 _ (List.mem_of_getElem? (i := 23) rfl), ⟨by decide, by decide⟩, by decide +kernel, by decide +kernel, Nat.le_of_ble_eq_true rfl, rfl⟩, inr_21 _ (List.mem_of_getElem? (i := 2) rfl), inr_21 _ (List.mem_of_getElem? (i := 3) rfl)⟩
abbrev md_X1_givenOn : MD := (yX1_givenOn, cX1_givenOn, 3, (some .int), none)
theorem ce_X1_givenOn : CeV md_X1_givenOn 1 := ⟨⟨inr_19 _ (List.mem_of_getElem? (i := 20) rfl), inr_1 _ (List.mem_of_getElem? (i := 23) rfl), ⟨by decide, by decide⟩, by decide +kernel, by decide +kernel, Nat.le_of_ble_eq_true rfl, rfl⟩, inr_19 _ (List.mem_of_getElem? (i := 18) rfl), inr_19 _ (List.mem_of_getElem? (i := 19) rfl)⟩
abbrev md_X1_heldBy : MD := (yX1_heldBy, cX1_heldBy, 4, (some .int), none)
theorem ce_X1_heldBy : CeV md_X1_heldBy 1 := ⟨⟨inr_18 _ (List.mem_of_getElem? (i := 14) rfl), inr_1 _ (List.mem_of_getElem? (i := 23) rfl), ⟨by decide, by decide⟩, by decide +kernel, by decide +kernel, Nat.le_of_ble_eq_true rfl, rfl⟩, inr_18 _ (List.mem_of_getElem? (i := 12) rfl), inr_18 _ (List.mem_of_getElem? (i := 13) rfl)⟩
abbrev md_X1_holderOf : MD := (yX1_holderOf, cX1_holderOf, 2, (some .int), none)
theorem ce_X1_holderOf : CeV md_X1_holderOf 1 := ⟨⟨inr_18 _ (List.mem_of_getElem? (i := 18) rfl), inr_1 _ (List.mem_of_getElem? (i := 23) rfl), ⟨by decide, by decide⟩, by decide +kernel, by decide +kernel, Nat.le_of_ble_eq_true rfl, rfl⟩, inr_18 _ (List.mem_of_getElem? (i := 16) rfl), inr_18 _ (List.mem_of_getElem? (i := 17) rfl)⟩
abbrev md_X1_how : MD := (yX1_how, cX1_how, 2, (some .int), none)
theorem ce_X1_how : CeV md_X1_how 1 := ⟨⟨inr_16 _ (List.mem_of_getElem? (i := 2) rfl), inr_1 _ (List.mem_of_getElem? (i := 23) rfl), ⟨by decide, by decide⟩, by decide +kernel, by decide +kernel, Nat.le_of_ble_eq_true rfl, rfl⟩, inr_16 _ (List.mem_of_getElem? (i := 0) rfl), inr_16 _ (List.mem_of_getElem? (i := 1) rfl)⟩
abbrev md_X1_isOpen : MD := (yX1_isOpen, cX1_isOpen, 2, (some .boolean), none)
theorem ce_X1_isOpen : CeV md_X1_isOpen 1 := ⟨⟨inr_24 _ (List.mem_of_getElem? (i := 2) rfl), inr_1 _ (List.mem_of_getElem? (i := 23) rfl), ⟨by decide, by decide⟩, by decide +kernel, by decide +kernel, Nat.le_of_ble_eq_true rfl, rfl⟩, inr_24 _ (List.mem_of_getElem? (i := 0) rfl), inr_24 _ (List.mem_of_getElem? (i := 1) rfl)⟩
abbrev md_X1_isRipe : MD := (yX1_isRipe, cX1_isRipe, 3, (some .boolean), none)
theorem ce_X1_isRipe : CeV md_X1_isRipe 1 := ⟨⟨inr_27 _ (List.mem_of_getElem? (i := 0) rfl), inr_1 _ (List.mem_of_getElem? (i := 23) rfl), ⟨by decide, by decide⟩, by decide +kernel, by decide +kernel, Nat.le_of_ble_eq_true rfl, rfl⟩, inr_26 _ (List.mem_of_getElem? (i := 22) rfl), inr_26 _ (List.mem_of_getElem? (i := 23) rfl)⟩
abbrev md_X1_lose : MD := (yX1_lose, cX1_lose, 7, none, none)
theorem ce_X1_lose : CeV md_X1_lose 3 := ⟨⟨inr_24 _ (List.mem_of_getElem? (i := 6) rfl), inr_1 _ (List.mem_of_getElem? (i := 23) rfl), ⟨by decide, by decide⟩, by decide +kernel, by decide +kernel, Nat.le_of_ble_eq_true rfl, rfl⟩, inr_24 _ (List.mem_of_getElem? (i := 4) rfl), inr_24 _ (List.mem_of_getElem? (i := 5) rfl)⟩
abbrev md_X1_mayBeKeptOn : MD := (yX1_mayBeKeptOn, cX1_mayBeKeptOn, 4, (some .boolean), none)
theorem ce_X1_mayBeKeptOn : CeV md_X1_mayBeKeptOn 2 := ⟨⟨inr_26 _ (List.mem_of_getElem? (i := 5) rfl), inr_1 _ (List.mem_of_getElem? (i := 23) rfl), ⟨by decide, by decide⟩, by decide +kernel, by decide +kernel, Nat.le_of_ble_eq_true rfl, rfl⟩, inr_26 _ (List.mem_of_getElem? (i := 3) rfl), inr_26 _ (List.mem_of_getElem? (i := 4) rfl)⟩
abbrev md_X1_onTheWay : MD := (yX1_onTheWay, cX1_onTheWay, 2, (some .boolean), none)
theorem ce_X1_onTheWay : CeV md_X1_onTheWay 1 := ⟨⟨inr_21 _ (List.mem_of_getElem? (i := 22) rfl), inr_1 _ (List.mem_of_getElem? (i := 23) rfl), ⟨by decide, by decide⟩, by decide +kernel, by decide +kernel, Nat.le_of_ble_eq_true rfl, rfl⟩, inr_21 _ (List.mem_of_getElem? (i := 20) rfl), inr_21 _ (List.mem_of_getElem? (i := 21) rfl)⟩
abbrev md_X1_openOf : MD := (yX1_openOf, cX1_openOf, 2, (some .int), none)
theorem ce_X1_openOf : CeV md_X1_openOf 1 := ⟨⟨inr_29 _ (List.mem_of_getElem? (i := 23) rfl), inr_1 _ (List.mem_of_getElem? (i := 23) rfl), ⟨by decide, by decide⟩, by decide +kernel, by decide +kernel, Nat.le_of_ble_eq_true rfl, rfl⟩, inr_29 _ (List.mem_of_getElem? (i := 21) rfl), inr_29 _ (List.mem_of_getElem? (i := 22) rfl)⟩
abbrev md_X1_pass : MD := (yX1_pass, cX1_pass, 3, none, none)
theorem ce_X1_pass : CeV md_X1_pass 0 := ⟨⟨inr_23 _ (List.mem_of_getElem? (i := 21) rfl), inr_1 _ (List.mem_of_getElem? (i := 23) rfl), ⟨by decide, by decide⟩, by decide +kernel, by decide +kernel, Nat.le_of_ble_eq_true rfl, rfl⟩, inr_23 _ (List.mem_of_getElem? (i := 19) rfl), inr_23 _ (List.mem_of_getElem? (i := 20) rfl)⟩
abbrev md_X1_ripeOn : MD := (yX1_ripeOn, cX1_ripeOn, 3, (some .int), none)
theorem ce_X1_ripeOn : CeV md_X1_ripeOn 1 := ⟨⟨inr_19 _ (List.mem_of_getElem? (i := 16) rfl), inr_1 _ (List.mem_of_getElem? (i := 23) rfl), ⟨by decide, by decide⟩, by decide +kernel, by decide +kernel, Nat.le_of_ble_eq_true rfl, rfl⟩, inr_19 _ (List.mem_of_getElem? (i := 14) rfl), inr_19 _ (List.mem_of_getElem? (i := 15) rfl)⟩
abbrev md_X1_sendTo : MD := (yX1_sendTo, cX1_sendTo, 4, none, none)
theorem ce_X1_sendTo : CeV md_X1_sendTo 3 := ⟨⟨inr_22 _ (List.mem_of_getElem? (i := 4) rfl), inr_1 _ (List.mem_of_getElem? (i := 23) rfl), ⟨by decide, by decide⟩, by decide +kernel, by decide +kernel, Nat.le_of_ble_eq_true rfl, rfl⟩, inr_22 _ (List.mem_of_getElem? (i := 2) rfl), inr_22 _ (List.mem_of_getElem? (i := 3) rfl)⟩
abbrev md_X1_setOf : MD := (yX1_setOf, cX1_setOf, 4, (some .int), none)
theorem ce_X1_setOf : CeV md_X1_setOf 1 := ⟨⟨inr_15 _ (List.mem_of_getElem? (i := 22) rfl), inr_1 _ (List.mem_of_getElem? (i := 23) rfl), ⟨by decide, by decide⟩, by decide +kernel, by decide +kernel, Nat.le_of_ble_eq_true rfl, rfl⟩, inr_15 _ (List.mem_of_getElem? (i := 20) rfl), inr_15 _ (List.mem_of_getElem? (i := 21) rfl)⟩
abbrev md_X1_sizesOf : MD := (yX1_sizesOf, cX1_sizesOf, 2, (some .int), none)
theorem ce_X1_sizesOf : CeV md_X1_sizesOf 1 := ⟨⟨inr_38 _ (List.mem_of_getElem? (i := 5) rfl), inr_1 _ (List.mem_of_getElem? (i := 23) rfl), ⟨by decide, by decide⟩, by decide +kernel, by decide +kernel, Nat.le_of_ble_eq_true rfl, rfl⟩, inr_38 _ (List.mem_of_getElem? (i := 3) rfl), inr_38 _ (List.mem_of_getElem? (i := 4) rfl)⟩
abbrev md_X1_thereOn : MD := (yX1_thereOn, cX1_thereOn, 2, (some .int), none)
theorem ce_X1_thereOn : CeV md_X1_thereOn 1 := ⟨⟨inr_18 _ (List.mem_of_getElem? (i := 11) rfl), inr_1 _ (List.mem_of_getElem? (i := 23) rfl), ⟨by decide, by decide⟩, by decide +kernel, by decide +kernel, Nat.le_of_ble_eq_true rfl, rfl⟩, inr_18 _ (List.mem_of_getElem? (i := 9) rfl), inr_18 _ (List.mem_of_getElem? (i := 10) rfl)⟩
abbrev md_X1_today : MD := (yX1_today, cX1_today, 1, (some .int), none)
theorem ce_X1_today : CeV md_X1_today 0 := ⟨⟨inr_15 _ (List.mem_of_getElem? (i := 19) rfl), inr_1 _ (List.mem_of_getElem? (i := 23) rfl), ⟨by decide, by decide⟩, by decide +kernel, by decide +kernel, Nat.le_of_ble_eq_true rfl, rfl⟩, inr_15 _ (List.mem_of_getElem? (i := 17) rfl), inr_15 _ (List.mem_of_getElem? (i := 18) rfl)⟩
abbrev md_X1_townOf : MD := (yX1_townOf, cX1_townOf, 2, (some .int), none)
theorem ce_X1_townOf : CeV md_X1_townOf 1 := ⟨⟨inr_18 _ (List.mem_of_getElem? (i := 7) rfl), inr_1 _ (List.mem_of_getElem? (i := 23) rfl), ⟨by decide, by decide⟩, by decide +kernel, by decide +kernel, Nat.le_of_ble_eq_true rfl, rfl⟩, inr_18 _ (List.mem_of_getElem? (i := 5) rfl), inr_18 _ (List.mem_of_getElem? (i := 6) rfl)⟩
abbrev md_X2_draw : MD := (yX2_draw, cX2_draw, 2, (some .int), none)
theorem ce_X2_draw : CeV md_X2_draw 1 := ⟨⟨inr_28 _ (List.mem_of_getElem? (i := 2) rfl), inr_2 _ (List.mem_of_getElem? (i := 11) rfl), ⟨by decide, by decide⟩, by decide +kernel, by decide +kernel, Nat.le_of_ble_eq_true rfl, rfl⟩, inr_28 _ (List.mem_of_getElem? (i := 0) rfl), inr_28 _ (List.mem_of_getElem? (i := 1) rfl)⟩
abbrev md_X3_allFit : MD := (yX3_allFit, cX3_allFit, 2, (some .boolean), none)
theorem ce_X3_allFit : CeV md_X3_allFit 0 := ⟨⟨inr_35 _ (List.mem_of_getElem? (i := 14) rfl), inr_2 _ (List.mem_of_getElem? (i := 19) rfl), ⟨by decide, by decide⟩, by decide +kernel, by decide +kernel, Nat.le_of_ble_eq_true rfl, rfl⟩, inr_35 _ (List.mem_of_getElem? (i := 12) rfl), inr_35 _ (List.mem_of_getElem? (i := 13) rfl)⟩
abbrev md_X3_fewest : MD := (yX3_fewest, cX3_fewest, 5, (some .int), none)
theorem ce_X3_fewest : CeV md_X3_fewest 0 := ⟨⟨inr_34 _ (List.mem_of_getElem? (i := 23) rfl), inr_2 _ (List.mem_of_getElem? (i := 19) rfl), ⟨by decide, by decide⟩, by decide +kernel, by decide +kernel, Nat.le_of_ble_eq_true rfl, rfl⟩, inr_34 _ (List.mem_of_getElem? (i := 21) rfl), inr_34 _ (List.mem_of_getElem? (i := 22) rfl)⟩
abbrev md_X3_fillFits : MD := (yX3_fillFits, cX3_fillFits, 5, none, none)
theorem ce_X3_fillFits : CeV md_X3_fillFits 0 := ⟨⟨inr_34 _ (List.mem_of_getElem? (i := 20) rfl), inr_2 _ (List.mem_of_getElem? (i := 19) rfl), ⟨by decide, by decide⟩, by decide +kernel, by decide +kernel, Nat.le_of_ble_eq_true rfl, rfl⟩, inr_34 _ (List.mem_of_getElem? (i := 18) rfl), inr_34 _ (List.mem_of_getElem? (i := 19) rfl)⟩
abbrev md_X3_giveBy : MD := (yX3_giveBy, cX3_giveBy, 6, (some .int), none)
theorem ce_X3_giveBy : CeV md_X3_giveBy 1 := ⟨⟨inr_35 _ (List.mem_of_getElem? (i := 10) rfl), inr_2 _ (List.mem_of_getElem? (i := 19) rfl), ⟨by decide, by decide⟩, by decide +kernel, by decide +kernel, Nat.le_of_ble_eq_true rfl, rfl⟩, inr_35 _ (List.mem_of_getElem? (i := 8) rfl), inr_35 _ (List.mem_of_getElem? (i := 9) rfl)⟩
abbrev md_X4_forget : MD := (yX4_forget, cX4_forget, 1, none, none)
theorem ce_X4_forget : CeV md_X4_forget 0 := ⟨⟨inr_11 _ (List.mem_of_getElem? (i := 22) rfl), inr_2 _ (List.mem_of_getElem? (i := 7) rfl), ⟨by decide, by decide⟩, by decide +kernel, by decide +kernel, Nat.le_of_ble_eq_true rfl, rfl⟩, inr_11 _ (List.mem_of_getElem? (i := 20) rfl), inr_11 _ (List.mem_of_getElem? (i := 21) rfl)⟩
abbrev md_X4_giveBack : MD := (yX4_giveBack, cX4_giveBack, 4, (some .boolean), none)
theorem ce_X4_giveBack : CeV md_X4_giveBack 3 := ⟨⟨inr_42 _ (List.mem_of_getElem? (i := 1) rfl), inr_2 _ (List.mem_of_getElem? (i := 7) rfl), ⟨by decide, by decide⟩, by decide +kernel, by decide +kernel, Nat.le_of_ble_eq_true rfl, rfl⟩, inr_41 _ (List.mem_of_getElem? (i := 23) rfl), inr_42 _ (List.mem_of_getElem? (i := 0) rfl)⟩
abbrev md_X4_take : MD := (yX4_take, cX4_take, 4, none, none)
theorem ce_X4_take : CeV md_X4_take 3 := ⟨⟨inr_41 _ (List.mem_of_getElem? (i := 14) rfl), inr_2 _ (List.mem_of_getElem? (i := 7) rfl), ⟨by decide, by decide⟩, by decide +kernel, by decide +kernel, Nat.le_of_ble_eq_true rfl, rfl⟩, inr_41 _ (List.mem_of_getElem? (i := 12) rfl), inr_41 _ (List.mem_of_getElem? (i := 13) rfl)⟩
abbrev md_X5_addRoad : MD := (yX5_addRoad, cX5_addRoad, 4, none, none)
theorem ce_X5_addRoad : CeV md_X5_addRoad 3 := ⟨⟨inr_10 _ (List.mem_of_getElem? (i := 17) rfl), inr_1 _ (List.mem_of_getElem? (i := 14) rfl), ⟨by decide, by decide⟩, by decide +kernel, by decide +kernel, Nat.le_of_ble_eq_true rfl, rfl⟩, inr_10 _ (List.mem_of_getElem? (i := 15) rfl), inr_10 _ (List.mem_of_getElem? (i := 16) rfl)⟩
abbrev md_X5_clear : MD := (yX5_clear, cX5_clear, 2, none, none)
theorem ce_X5_clear : CeV md_X5_clear 0 := ⟨⟨inr_8 _ (List.mem_of_getElem? (i := 13) rfl), inr_1 _ (List.mem_of_getElem? (i := 14) rfl), ⟨by decide, by decide⟩, by decide +kernel, by decide +kernel, Nat.le_of_ble_eq_true rfl, rfl⟩, inr_8 _ (List.mem_of_getElem? (i := 11) rfl), inr_8 _ (List.mem_of_getElem? (i := 12) rfl)⟩
abbrev md_X5_distance : MD := (yX5_distance, cX5_distance, 3, (some .int), none)
theorem ce_X5_distance : CeV md_X5_distance 2 := ⟨⟨inr_17 _ (List.mem_of_getElem? (i := 11) rfl), inr_1 _ (List.mem_of_getElem? (i := 14) rfl), ⟨by decide, by decide⟩, by decide +kernel, by decide +kernel, Nat.le_of_ble_eq_true rfl, rfl⟩, inr_17 _ (List.mem_of_getElem? (i := 9) rfl), inr_17 _ (List.mem_of_getElem? (i := 10) rfl)⟩
abbrev md_X5_hasKeeper : MD := (yX5_hasKeeper, cX5_hasKeeper, 2, (some .boolean), none)
theorem ce_X5_hasKeeper : CeV md_X5_hasKeeper 1 := ⟨⟨inr_18 _ (List.mem_of_getElem? (i := 4) rfl), inr_1 _ (List.mem_of_getElem? (i := 14) rfl), ⟨by decide, by decide⟩, by decide +kernel, by decide +kernel, Nat.le_of_ble_eq_true rfl, rfl⟩, inr_18 _ (List.mem_of_getElem? (i := 2) rfl), inr_18 _ (List.mem_of_getElem? (i := 3) rfl)⟩
abbrev md_X5_hasPromise : MD := (yX5_hasPromise, cX5_hasPromise, 2, (some .boolean), none)
theorem ce_X5_hasPromise : CeV md_X5_hasPromise 1 := ⟨⟨inr_19 _ (List.mem_of_getElem? (i := 13) rfl), inr_1 _ (List.mem_of_getElem? (i := 14) rfl), ⟨by decide, by decide⟩, by decide +kernel, by decide +kernel, Nat.le_of_ble_eq_true rfl, rfl⟩, inr_19 _ (List.mem_of_getElem? (i := 11) rfl), inr_19 _ (List.mem_of_getElem? (i := 12) rfl)⟩
abbrev md_X5_hasTown : MD := (yX5_hasTown, cX5_hasTown, 2, (some .boolean), none)
theorem ce_X5_hasTown : CeV md_X5_hasTown 1 := ⟨⟨inr_17 _ (List.mem_of_getElem? (i := 8) rfl), inr_1 _ (List.mem_of_getElem? (i := 14) rfl), ⟨by decide, by decide⟩, by decide +kernel, by decide +kernel, Nat.le_of_ble_eq_true rfl, rfl⟩, inr_17 _ (List.mem_of_getElem? (i := 6) rfl), inr_17 _ (List.mem_of_getElem? (i := 7) rfl)⟩
abbrev md_X5_isWinter : MD := (yX5_isWinter, cX5_isWinter, 2, (some .boolean), none)
theorem ce_X5_isWinter : CeV md_X5_isWinter 1 := ⟨⟨inr_16 _ (List.mem_of_getElem? (i := 5) rfl), inr_1 _ (List.mem_of_getElem? (i := 14) rfl), ⟨by decide, by decide⟩, by decide +kernel, by decide +kernel, Nat.le_of_ble_eq_true rfl, rfl⟩, inr_16 _ (List.mem_of_getElem? (i := 3) rfl), inr_16 _ (List.mem_of_getElem? (i := 4) rfl)⟩
abbrev md_X5_joinRoads : MD := (yX5_joinRoads, cX5_joinRoads, 6, none, none)
theorem ce_X5_joinRoads : CeV md_X5_joinRoads 0 := ⟨⟨inr_11 _ (List.mem_of_getElem? (i := 12) rfl), inr_1 _ (List.mem_of_getElem? (i := 14) rfl), ⟨by decide, by decide⟩, by decide +kernel, by decide +kernel, Nat.le_of_ble_eq_true rfl, rfl⟩, inr_11 _ (List.mem_of_getElem? (i := 10) rfl), inr_11 _ (List.mem_of_getElem? (i := 11) rfl)⟩
abbrev md_X5_ripeDay : MD := (yX5_ripeDay, cX5_ripeDay, 9, (some .int), none)
theorem ce_X5_ripeDay : CeV md_X5_ripeDay 2 := ⟨⟨inr_19 _ (List.mem_of_getElem? (i := 23) rfl), inr_1 _ (List.mem_of_getElem? (i := 14) rfl), ⟨by decide, by decide⟩, by decide +kernel, by decide +kernel, Nat.le_of_ble_eq_true rfl, rfl⟩, inr_19 _ (List.mem_of_getElem? (i := 21) rfl), inr_19 _ (List.mem_of_getElem? (i := 22) rfl)⟩
abbrev md_X5_shorten : MD := (yX5_shorten, cX5_shorten, 5, none, none)
theorem ce_X5_shorten : CeV md_X5_shorten 3 := ⟨⟨inr_10 _ (List.mem_of_getElem? (i := 21) rfl), inr_1 _ (List.mem_of_getElem? (i := 14) rfl), ⟨by decide, by decide⟩, by decide +kernel, by decide +kernel, Nat.le_of_ble_eq_true rfl, rfl⟩, inr_10 _ (List.mem_of_getElem? (i := 19) rfl), inr_10 _ (List.mem_of_getElem? (i := 20) rfl)⟩
abbrev md_X5_sizesIn : MD := (yX5_sizesIn, cX5_sizesIn, 4, (some .int), none)
theorem ce_X5_sizesIn : CeV md_X5_sizesIn 1 := ⟨⟨inr_38 _ (List.mem_of_getElem? (i := 8) rfl), inr_1 _ (List.mem_of_getElem? (i := 14) rfl), ⟨by decide, by decide⟩, by decide +kernel, by decide +kernel, Nat.le_of_ble_eq_true rfl, rfl⟩, inr_38 _ (List.mem_of_getElem? (i := 6) rfl), inr_38 _ (List.mem_of_getElem? (i := 7) rfl)⟩
abbrev md_X6_add : MD := (yX6_add, cX6_add, 2, none, none)
theorem ce_X6_add : CeV md_X6_add 1 := ⟨⟨inr_23 _ (List.mem_of_getElem? (i := 12) rfl), inr_2 _ (List.mem_of_getElem? (i := 3) rfl), ⟨by decide, by decide⟩, by decide +kernel, by decide +kernel, Nat.le_of_ble_eq_true rfl, rfl⟩, inr_23 _ (List.mem_of_getElem? (i := 10) rfl), inr_23 _ (List.mem_of_getElem? (i := 11) rfl)⟩
abbrev md_X6_forget : MD := (yX6_forget, cX6_forget, 1, none, none)
theorem ce_X6_forget : CeV md_X6_forget 0 := ⟨⟨inr_11 _ (List.mem_of_getElem? (i := 18) rfl), inr_2 _ (List.mem_of_getElem? (i := 3) rfl), ⟨by decide, by decide⟩, by decide +kernel, by decide +kernel, Nat.le_of_ble_eq_true rfl, rfl⟩, inr_11 _ (List.mem_of_getElem? (i := 16) rfl), inr_11 _ (List.mem_of_getElem? (i := 17) rfl)⟩
abbrev md_X6_takeBack : MD := (yX6_takeBack, cX6_takeBack, 3, (some .boolean), none)
theorem ce_X6_takeBack : CeV md_X6_takeBack 2 := ⟨⟨inr_29 _ (List.mem_of_getElem? (i := 6) rfl), inr_2 _ (List.mem_of_getElem? (i := 3) rfl), ⟨by decide, by decide⟩, by decide +kernel, by decide +kernel, Nat.le_of_ble_eq_true rfl, rfl⟩, inr_29 _ (List.mem_of_getElem? (i := 4) rfl), inr_29 _ (List.mem_of_getElem? (i := 5) rfl)⟩
abbrev md_X7_add : MD := (yX7_add, cX7_add, 2, (some .int), none)
theorem ce_X7_add : CeV md_X7_add 1 := ⟨⟨inr_7 _ (List.mem_of_getElem? (i := 12) rfl), inr_1 _ (List.mem_of_getElem? (i := 19) rfl), ⟨by decide, by decide⟩, by decide +kernel, by decide +kernel, Nat.le_of_ble_eq_true rfl, rfl⟩, inr_7 _ (List.mem_of_getElem? (i := 10) rfl), inr_7 _ (List.mem_of_getElem? (i := 11) rfl)⟩
abbrev md_X7_blame : MD := (yX7_blame, cX7_blame, 3, none, none)
theorem ce_X7_blame : CeV md_X7_blame 2 := ⟨⟨inr_9 _ (List.mem_of_getElem? (i := 10) rfl), inr_1 _ (List.mem_of_getElem? (i := 19) rfl), ⟨by decide, by decide⟩, by decide +kernel, by decide +kernel, Nat.le_of_ble_eq_true rfl, rfl⟩, inr_9 _ (List.mem_of_getElem? (i := 8) rfl), inr_9 _ (List.mem_of_getElem? (i := 9) rfl)⟩
abbrev md_X7_empty : MD := (yX7_empty, cX7_empty, 1, none, none)
theorem ce_X7_empty : CeV md_X7_empty 0 := ⟨⟨inr_12 _ (List.mem_of_getElem? (i := 6) rfl), inr_1 _ (List.mem_of_getElem? (i := 19) rfl), ⟨by decide, by decide⟩, by decide +kernel, by decide +kernel, Nat.le_of_ble_eq_true rfl, rfl⟩, inr_12 _ (List.mem_of_getElem? (i := 4) rfl), inr_12 _ (List.mem_of_getElem? (i := 5) rfl)⟩
abbrev md_X7_isEnd : MD := (yX7_isEnd, cX7_isEnd, 1, (some .boolean), none)
theorem ce_X7_isEnd : CeV md_X7_isEnd 0 := ⟨⟨inr_10 _ (List.mem_of_getElem? (i := 10) rfl), inr_1 _ (List.mem_of_getElem? (i := 19) rfl), ⟨by decide, by decide⟩, by decide +kernel, by decide +kernel, Nat.le_of_ble_eq_true rfl, rfl⟩, inr_10 _ (List.mem_of_getElem? (i := 8) rfl), inr_10 _ (List.mem_of_getElem? (i := 9) rfl)⟩
abbrev md_X7_isFigure : MD := (yX7_isFigure, cX7_isFigure, 1, (some .boolean), none)
theorem ce_X7_isFigure : CeT md_X7_isFigure 1 := ⟨⟨inr_10 _ (List.mem_of_getElem? (i := 6) rfl), inr_1 _ (List.mem_of_getElem? (i := 19) rfl), ⟨by decide, by decide⟩, by decide +kernel, by decide +kernel, Nat.le_of_ble_eq_true rfl, rfl⟩, inr_10 _ (List.mem_of_getElem? (i := 5) rfl)⟩
abbrev md_X7_isFull : MD := (yX7_isFull, cX7_isFull, 1, (some .boolean), none)
theorem ce_X7_isFull : CeV md_X7_isFull 0 := ⟨⟨inr_7 _ (List.mem_of_getElem? (i := 8) rfl), inr_1 _ (List.mem_of_getElem? (i := 19) rfl), ⟨by decide, by decide⟩, by decide +kernel, by decide +kernel, Nat.le_of_ble_eq_true rfl, rfl⟩, inr_7 _ (List.mem_of_getElem? (i := 6) rfl), inr_7 _ (List.mem_of_getElem? (i := 7) rfl)⟩
abbrev md_X7_isOneTooMany : MD := (yX7_isOneTooMany, cX7_isOneTooMany, 3, (some .boolean), none)
theorem ce_X7_isOneTooMany : CeV md_X7_isOneTooMany 2 := ⟨⟨inr_9 _ (List.mem_of_getElem? (i := 14) rfl), inr_1 _ (List.mem_of_getElem? (i := 19) rfl), ⟨by decide, by decide⟩, by decide +kernel, by decide +kernel, Nat.le_of_ble_eq_true rfl, rfl⟩, inr_9 _ (List.mem_of_getElem? (i := 12) rfl), inr_9 _ (List.mem_of_getElem? (i := 13) rfl)⟩
abbrev md_X7_number : MD := (yX7_number, cX7_number, 4, (some .int), none)
theorem ce_X7_number : CeV md_X7_number 2 := ⟨⟨inr_9 _ (List.mem_of_getElem? (i := 22) rfl), inr_1 _ (List.mem_of_getElem? (i := 19) rfl), ⟨by decide, by decide⟩, by decide +kernel, by decide +kernel, Nat.le_of_ble_eq_true rfl, rfl⟩, inr_9 _ (List.mem_of_getElem? (i := 20) rfl), inr_9 _ (List.mem_of_getElem? (i := 21) rfl)⟩
abbrev md_X7_readClause : MD := (yX7_readClause, cX7_readClause, 3, none, none)
theorem ce_X7_readClause : CeV md_X7_readClause 1 := ⟨⟨inr_9 _ (List.mem_of_getElem? (i := 6) rfl), inr_1 _ (List.mem_of_getElem? (i := 19) rfl), ⟨by decide, by decide⟩, by decide +kernel, by decide +kernel, Nat.le_of_ble_eq_true rfl, rfl⟩, inr_9 _ (List.mem_of_getElem? (i := 4) rfl), inr_9 _ (List.mem_of_getElem? (i := 5) rfl)⟩
abbrev md_X7_readInto : MD := (yX7_readInto, cX7_readInto, 3, (some .int), none)
theorem ce_X7_readInto : CeV md_X7_readInto 1 := ⟨⟨inr_8 _ (List.mem_of_getElem? (i := 8) rfl), inr_1 _ (List.mem_of_getElem? (i := 19) rfl), ⟨by decide, by decide⟩, by decide +kernel, by decide +kernel, Nat.le_of_ble_eq_true rfl, rfl⟩, inr_8 _ (List.mem_of_getElem? (i := 6) rfl), inr_8 _ (List.mem_of_getElem? (i := 7) rfl)⟩
abbrev md_X7_readKeeper : MD := (yX7_readKeeper, cX7_readKeeper, 4, none, none)
theorem ce_X7_readKeeper : CeV md_X7_readKeeper 1 := ⟨⟨inr_11 _ (List.mem_of_getElem? (i := 1) rfl), inr_1 _ (List.mem_of_getElem? (i := 19) rfl), ⟨by decide, by decide⟩, by decide +kernel, by decide +kernel, Nat.le_of_ble_eq_true rfl, rfl⟩, inr_10 _ (List.mem_of_getElem? (i := 23) rfl), inr_11 _ (List.mem_of_getElem? (i := 0) rfl)⟩
abbrev md_X7_readPromise : MD := (yX7_readPromise, cX7_readPromise, 9, none, none)
theorem ce_X7_readPromise : CeV md_X7_readPromise 1 := ⟨⟨inr_11 _ (List.mem_of_getElem? (i := 5) rfl), inr_1 _ (List.mem_of_getElem? (i := 19) rfl), ⟨by decide, by decide⟩, by decide +kernel, by decide +kernel, Nat.le_of_ble_eq_true rfl, rfl⟩, inr_11 _ (List.mem_of_getElem? (i := 3) rfl), inr_11 _ (List.mem_of_getElem? (i := 4) rfl)⟩
abbrev md_X7_readRoad : MD := (yX7_readRoad, cX7_readRoad, 5, none, none)
theorem ce_X7_readRoad : CeV md_X7_readRoad 1 := ⟨⟨inr_10 _ (List.mem_of_getElem? (i := 14) rfl), inr_1 _ (List.mem_of_getElem? (i := 19) rfl), ⟨by decide, by decide⟩, by decide +kernel, by decide +kernel, Nat.le_of_ble_eq_true rfl, rfl⟩, inr_10 _ (List.mem_of_getElem? (i := 12) rfl), inr_10 _ (List.mem_of_getElem? (i := 13) rfl)⟩
abbrev md_X7_readTowns : MD := (yX7_readTowns, cX7_readTowns, 3, none, none)
theorem ce_X7_readTowns : CeV md_X7_readTowns 1 := ⟨⟨inr_9 _ (List.mem_of_getElem? (i := 18) rfl), inr_1 _ (List.mem_of_getElem? (i := 19) rfl), ⟨by decide, by decide⟩, by decide +kernel, by decide +kernel, Nat.le_of_ble_eq_true rfl, rfl⟩, inr_9 _ (List.mem_of_getElem? (i := 16) rfl), inr_9 _ (List.mem_of_getElem? (i := 17) rfl)⟩
abbrev md_X7_readWinter : MD := (yX7_readWinter, cX7_readWinter, 5, none, none)
theorem ce_X7_readWinter : CeV md_X7_readWinter 1 := ⟨⟨inr_11 _ (List.mem_of_getElem? (i := 9) rfl), inr_1 _ (List.mem_of_getElem? (i := 19) rfl), ⟨by decide, by decide⟩, by decide +kernel, by decide +kernel, Nat.le_of_ble_eq_true rfl, rfl⟩, inr_11 _ (List.mem_of_getElem? (i := 7) rfl), inr_11 _ (List.mem_of_getElem? (i := 8) rfl)⟩
abbrev md_X7_skipBlanks : MD := (yX7_skipBlanks, cX7_skipBlanks, 1, none, none)
theorem ce_X7_skipBlanks : CeV md_X7_skipBlanks 0 := ⟨⟨inr_9 _ (List.mem_of_getElem? (i := 0) rfl), inr_1 _ (List.mem_of_getElem? (i := 19) rfl), ⟨by decide, by decide⟩, by decide +kernel, by decide +kernel, Nat.le_of_ble_eq_true rfl, rfl⟩, inr_8 _ (List.mem_of_getElem? (i := 22) rfl), inr_8 _ (List.mem_of_getElem? (i := 23) rfl)⟩
abbrev md_X8_bestAt : MD := (yX8_bestAt, cX8_bestAt, 2, (some .int), none)
theorem ce_X8_bestAt : CeV md_X8_bestAt 1 := ⟨⟨inr_31 _ (List.mem_of_getElem? (i := 12) rfl), inr_2 _ (List.mem_of_getElem? (i := 15) rfl), ⟨by decide, by decide⟩, by decide +kernel, by decide +kernel, Nat.le_of_ble_eq_true rfl, rfl⟩, inr_31 _ (List.mem_of_getElem? (i := 10) rfl), inr_31 _ (List.mem_of_getElem? (i := 11) rfl)⟩
abbrev md_X8_canKeepAll : MD := (yX8_canKeepAll, cX8_canKeepAll, 4, (some .boolean), none)
theorem ce_X8_canKeepAll : CeV md_X8_canKeepAll 3 := ⟨⟨inr_30 _ (List.mem_of_getElem? (i := 4) rfl), inr_2 _ (List.mem_of_getElem? (i := 15) rfl), ⟨by decide, by decide⟩, by decide +kernel, by decide +kernel, Nat.le_of_ble_eq_true rfl, rfl⟩, inr_30 _ (List.mem_of_getElem? (i := 2) rfl), inr_30 _ (List.mem_of_getElem? (i := 3) rfl)⟩
abbrev md_X8_cannotBeBetter : MD := (yX8_cannotBeBetter, cX8_cannotBeBetter, 2, (some .boolean), none)
theorem ce_X8_cannotBeBetter : CeV md_X8_cannotBeBetter 1 := ⟨⟨inr_30 _ (List.mem_of_getElem? (i := 21) rfl), inr_2 _ (List.mem_of_getElem? (i := 15) rfl), ⟨by decide, by decide⟩, by decide +kernel, by decide +kernel, Nat.le_of_ble_eq_true rfl, rfl⟩, inr_30 _ (List.mem_of_getElem? (i := 19) rfl), inr_30 _ (List.mem_of_getElem? (i := 20) rfl)⟩
abbrev md_X8_extend : MD := (yX8_extend, cX8_extend, 11, none, none)
theorem ce_X8_extend : CeT md_X8_extend 6 := ⟨⟨inr_30 _ (List.mem_of_getElem? (i := 16) rfl), inr_2 _ (List.mem_of_getElem? (i := 15) rfl), ⟨by decide, by decide⟩, by decide +kernel, by decide +kernel, Nat.le_of_ble_eq_true rfl, rfl⟩, inr_30 _ (List.mem_of_getElem? (i := 15) rfl)⟩
abbrev md_X8_firstClash : MD := (yX8_firstClash, cX8_firstClash, 5, (some .int), none)
theorem ce_X8_firstClash : CeV md_X8_firstClash 1 := ⟨⟨inr_33 _ (List.mem_of_getElem? (i := 12) rfl), inr_2 _ (List.mem_of_getElem? (i := 15) rfl), ⟨by decide, by decide⟩, by decide +kernel, by decide +kernel, Nat.le_of_ble_eq_true rfl, rfl⟩, inr_33 _ (List.mem_of_getElem? (i := 10) rfl), inr_33 _ (List.mem_of_getElem? (i := 11) rfl)⟩
abbrev md_X8_misses : MD := (yX8_misses, cX8_misses, 7, (some .boolean), none)
theorem ce_X8_misses : CeV md_X8_misses 3 := ⟨⟨inr_31 _ (List.mem_of_getElem? (i := 5) rfl), inr_2 _ (List.mem_of_getElem? (i := 15) rfl), ⟨by decide, by decide⟩, by decide +kernel, by decide +kernel, Nat.le_of_ble_eq_true rfl, rfl⟩, inr_31 _ (List.mem_of_getElem? (i := 3) rfl), inr_31 _ (List.mem_of_getElem? (i := 4) rfl)⟩
abbrev md_X8_prepare : MD := (yX8_prepare, cX8_prepare, 3, (some .boolean), none)
theorem ce_X8_prepare : CeV md_X8_prepare 1 := ⟨⟨inr_30 _ (List.mem_of_getElem? (i := 11) rfl), inr_2 _ (List.mem_of_getElem? (i := 15) rfl), ⟨by decide, by decide⟩, by decide +kernel, by decide +kernel, Nat.le_of_ble_eq_true rfl, rfl⟩, inr_30 _ (List.mem_of_getElem? (i := 9) rfl), inr_30 _ (List.mem_of_getElem? (i := 10) rfl)⟩
abbrev md_X8_ripen : MD := (yX8_ripen, cX8_ripen, 5, none, none)
theorem ce_X8_ripen : CeV md_X8_ripen 3 := ⟨⟨inr_31 _ (List.mem_of_getElem? (i := 9) rfl), inr_2 _ (List.mem_of_getElem? (i := 15) rfl), ⟨by decide, by decide⟩, by decide +kernel, by decide +kernel, Nat.le_of_ble_eq_true rfl, rfl⟩, inr_31 _ (List.mem_of_getElem? (i := 7) rfl), inr_31 _ (List.mem_of_getElem? (i := 8) rfl)⟩
abbrev md_X8_takeAsBest : MD := (yX8_takeAsBest, cX8_takeAsBest, 3, none, none)
theorem ce_X8_takeAsBest : CeV md_X8_takeAsBest 2 := ⟨⟨inr_31 _ (List.mem_of_getElem? (i := 1) rfl), inr_2 _ (List.mem_of_getElem? (i := 15) rfl), ⟨by decide, by decide⟩, by decide +kernel, by decide +kernel, Nat.le_of_ble_eq_true rfl, rfl⟩, inr_30 _ (List.mem_of_getElem? (i := 23) rfl), inr_31 _ (List.mem_of_getElem? (i := 0) rfl)⟩
abbrev md_X8_tryOne : MD := (yX8_tryOne, cX8_tryOne, 4, none, none)
theorem ce_X8_tryOne : CeV md_X8_tryOne 3 := ⟨⟨inr_34 _ (List.mem_of_getElem? (i := 8) rfl), inr_2 _ (List.mem_of_getElem? (i := 15) rfl), ⟨by decide, by decide⟩, by decide +kernel, by decide +kernel, Nat.le_of_ble_eq_true rfl, rfl⟩, inr_34 _ (List.mem_of_getElem? (i := 6) rfl), inr_34 _ (List.mem_of_getElem? (i := 7) rfl)⟩
abbrev md_X8_withOlder : MD := (yX8_withOlder, cX8_withOlder, 6, (some .int), none)
theorem ce_X8_withOlder : CeV md_X8_withOlder 2 := ⟨⟨inr_33 _ (List.mem_of_getElem? (i := 16) rfl), inr_2 _ (List.mem_of_getElem? (i := 15) rfl), ⟨by decide, by decide⟩, by decide +kernel, by decide +kernel, Nat.le_of_ble_eq_true rfl, rfl⟩, inr_33 _ (List.mem_of_getElem? (i := 14) rfl), inr_33 _ (List.mem_of_getElem? (i := 15) rfl)⟩
abbrev md_X9_at : MD := (yX9_at, cX9_at, 2, (some .int), none)
theorem ce_X9_at : CeT md_X9_at 2 := ⟨⟨inr_9 _ (List.mem_of_getElem? (i := 2) rfl), inr_1 _ (List.mem_of_getElem? (i := 2) rfl), ⟨by decide, by decide⟩, by decide +kernel, by decide +kernel, Nat.le_of_ble_eq_true rfl, rfl⟩, inr_9 _ (List.mem_of_getElem? (i := 1) rfl)⟩
abbrev md_X9_busiest : MD := (yX9_busiest, cX9_busiest, 6, (some .int), none)
theorem ce_X9_busiest : CeV md_X9_busiest 1 := ⟨⟨inr_37 _ (List.mem_of_getElem? (i := 2) rfl), inr_1 _ (List.mem_of_getElem? (i := 2) rfl), ⟨by decide, by decide⟩, by decide +kernel, by decide +kernel, Nat.le_of_ble_eq_true rfl, rfl⟩, inr_37 _ (List.mem_of_getElem? (i := 0) rfl), inr_37 _ (List.mem_of_getElem? (i := 1) rfl)⟩
abbrev md_X9_calendar : MD := (yX9_calendar, cX9_calendar, 3, (some .int), none)
theorem ce_X9_calendar : CeV md_X9_calendar 2 := ⟨⟨inr_36 _ (List.mem_of_getElem? (i := 10) rfl), inr_1 _ (List.mem_of_getElem? (i := 2) rfl), ⟨by decide, by decide⟩, by decide +kernel, by decide +kernel, Nat.le_of_ble_eq_true rfl, rfl⟩, inr_36 _ (List.mem_of_getElem? (i := 8) rfl), inr_36 _ (List.mem_of_getElem? (i := 9) rfl)⟩
abbrev md_X9_clash : MD := (yX9_clash, cX9_clash, 4, (some .int), none)
theorem ce_X9_clash : CeV md_X9_clash 2 := ⟨⟨inr_33 _ (List.mem_of_getElem? (i := 9) rfl), inr_1 _ (List.mem_of_getElem? (i := 2) rfl), ⟨by decide, by decide⟩, by decide +kernel, by decide +kernel, Nat.le_of_ble_eq_true rfl, rfl⟩, inr_33 _ (List.mem_of_getElem? (i := 7) rfl), inr_33 _ (List.mem_of_getElem? (i := 8) rfl)⟩
abbrev md_X9_copy : MD := (yX9_copy, cX9_copy, 3, none, none)
theorem ce_X9_copy : CeT md_X9_copy 2 := ⟨⟨inr_23 _ (List.mem_of_getElem? (i := 18) rfl), inr_1 _ (List.mem_of_getElem? (i := 2) rfl), ⟨by decide, by decide⟩, by decide +kernel, by decide +kernel, Nat.le_of_ble_eq_true rfl, rfl⟩, inr_23 _ (List.mem_of_getElem? (i := 17) rfl)⟩
abbrev md_X9_day : MD := (yX9_day, cX9_day, 4, (some .int), none)
theorem ce_X9_day : CeV md_X9_day 1 := ⟨⟨inr_23 _ (List.mem_of_getElem? (i := 1) rfl), inr_1 _ (List.mem_of_getElem? (i := 2) rfl), ⟨by decide, by decide⟩, by decide +kernel, by decide +kernel, Nat.le_of_ble_eq_true rfl, rfl⟩, inr_22 _ (List.mem_of_getElem? (i := 23) rfl), inr_23 _ (List.mem_of_getElem? (i := 0) rfl)⟩
abbrev md_X9_drawFor : MD := (yX9_drawFor, cX9_drawFor, 3, none, none)
theorem ce_X9_drawFor : CeV md_X9_drawFor 1 := ⟨⟨inr_27 _ (List.mem_of_getElem? (i := 23) rfl), inr_1 _ (List.mem_of_getElem? (i := 2) rfl), ⟨by decide, by decide⟩, by decide +kernel, by decide +kernel, Nat.le_of_ble_eq_true rfl, rfl⟩, inr_27 _ (List.mem_of_getElem? (i := 21) rfl), inr_27 _ (List.mem_of_getElem? (i := 22) rfl)⟩
abbrev md_X9_drift : MD := (yX9_drift, cX9_drift, 5, (some .int), none)
theorem ce_X9_drift : CeV md_X9_drift 1 := ⟨⟨inr_27 _ (List.mem_of_getElem? (i := 19) rfl), inr_1 _ (List.mem_of_getElem? (i := 2) rfl), ⟨by decide, by decide⟩, by decide +kernel, by decide +kernel, Nat.le_of_ble_eq_true rfl, rfl⟩, inr_27 _ (List.mem_of_getElem? (i := 17) rfl), inr_27 _ (List.mem_of_getElem? (i := 18) rfl)⟩
abbrev md_X9_dueOfAll : MD := (yX9_dueOfAll, cX9_dueOfAll, 4, (some .int), none)
theorem ce_X9_dueOfAll : CeV md_X9_dueOfAll 1 := ⟨⟨inr_37 _ (List.mem_of_getElem? (i := 6) rfl), inr_1 _ (List.mem_of_getElem? (i := 2) rfl), ⟨by decide, by decide⟩, by decide +kernel, by decide +kernel, Nat.le_of_ble_eq_true rfl, rfl⟩, inr_37 _ (List.mem_of_getElem? (i := 4) rfl), inr_37 _ (List.mem_of_getElem? (i := 5) rfl)⟩
abbrev md_X9_endDay : MD := (yX9_endDay, cX9_endDay, 1, none, none)
theorem ce_X9_endDay : CeV md_X9_endDay 0 := ⟨⟨inr_23 _ (List.mem_of_getElem? (i := 9) rfl), inr_1 _ (List.mem_of_getElem? (i := 2) rfl), ⟨by decide, by decide⟩, by decide +kernel, by decide +kernel, Nat.le_of_ble_eq_true rfl, rfl⟩, inr_23 _ (List.mem_of_getElem? (i := 7) rfl), inr_23 _ (List.mem_of_getElem? (i := 8) rfl)⟩
abbrev md_X9_far : MD := (yX9_far, cX9_far, 3, (some .int), none)
theorem ce_X9_far : CeV md_X9_far 2 := ⟨⟨inr_17 _ (List.mem_of_getElem? (i := 4) rfl), inr_1 _ (List.mem_of_getElem? (i := 2) rfl), ⟨by decide, by decide⟩, by decide +kernel, by decide +kernel, Nat.le_of_ble_eq_true rfl, rfl⟩, inr_17 _ (List.mem_of_getElem? (i := 2) rfl), inr_17 _ (List.mem_of_getElem? (i := 3) rfl)⟩
abbrev md_X9_fault : MD := (yX9_fault, cX9_fault, 1, (some .int), none)
theorem ce_X9_fault : CeV md_X9_fault 0 := ⟨⟨inr_15 _ (List.mem_of_getElem? (i := 8) rfl), inr_1 _ (List.mem_of_getElem? (i := 2) rfl), ⟨by decide, by decide⟩, by decide +kernel, by decide +kernel, Nat.le_of_ble_eq_true rfl, rfl⟩, inr_15 _ (List.mem_of_getElem? (i := 6) rfl), inr_15 _ (List.mem_of_getElem? (i := 7) rfl)⟩
abbrev md_X9_feed : MD := (yX9_feed, cX9_feed, 2, (some .int), none)
theorem ce_X9_feed : CeV md_X9_feed 1 := ⟨⟨inr_7 _ (List.mem_of_getElem? (i := 3) rfl), inr_1 _ (List.mem_of_getElem? (i := 2) rfl), ⟨by decide, by decide⟩, by decide +kernel, by decide +kernel, Nat.le_of_ble_eq_true rfl, rfl⟩, inr_7 _ (List.mem_of_getElem? (i := 1) rfl), inr_7 _ (List.mem_of_getElem? (i := 2) rfl)⟩
abbrev md_X9_fell : MD := (yX9_fell, cX9_fell, 2, (some .int), none)
theorem ce_X9_fell : CeV md_X9_fell 1 := ⟨⟨inr_21 _ (List.mem_of_getElem? (i := 1) rfl), inr_1 _ (List.mem_of_getElem? (i := 2) rfl), ⟨by decide, by decide⟩, by decide +kernel, by decide +kernel, Nat.le_of_ble_eq_true rfl, rfl⟩, inr_20 _ (List.mem_of_getElem? (i := 23) rfl), inr_21 _ (List.mem_of_getElem? (i := 0) rfl)⟩
abbrev md_X9_firstOfFamily : MD := (yX9_firstOfFamily, cX9_firstOfFamily, 3, (some .int), none)
theorem ce_X9_firstOfFamily : CeV md_X9_firstOfFamily 1 := ⟨⟨inr_38 _ (List.mem_of_getElem? (i := 12) rfl), inr_1 _ (List.mem_of_getElem? (i := 2) rfl), ⟨by decide, by decide⟩, by decide +kernel, by decide +kernel, Nat.le_of_ble_eq_true rfl, rfl⟩, inr_38 _ (List.mem_of_getElem? (i := 10) rfl), inr_38 _ (List.mem_of_getElem? (i := 11) rfl)⟩
abbrev md_X9_go : MD := (yX9_go, cX9_go, 3, (some .int), none)
theorem ce_X9_go : CeV md_X9_go 2 := ⟨⟨inr_21 _ (List.mem_of_getElem? (i := 13) rfl), inr_1 _ (List.mem_of_getElem? (i := 2) rfl), ⟨by decide, by decide⟩, by decide +kernel, by decide +kernel, Nat.le_of_ble_eq_true rfl, rfl⟩, inr_21 _ (List.mem_of_getElem? (i := 11) rfl), inr_21 _ (List.mem_of_getElem? (i := 12) rfl)⟩
abbrev md_X9_goBack : MD := (yX9_goBack, cX9_goBack, 2, (some .int), none)
theorem ce_X9_goBack : CeV md_X9_goBack 1 := ⟨⟨inr_41 _ (List.mem_of_getElem? (i := 22) rfl), inr_1 _ (List.mem_of_getElem? (i := 2) rfl), ⟨by decide, by decide⟩, by decide +kernel, by decide +kernel, Nat.le_of_ble_eq_true rfl, rfl⟩, inr_41 _ (List.mem_of_getElem? (i := 20) rfl), inr_41 _ (List.mem_of_getElem? (i := 21) rfl)⟩
abbrev md_X9_hands : MD := (yX9_hands, cX9_hands, 3, (some .int), none)
theorem ce_X9_hands : CeV md_X9_hands 1 := ⟨⟨inr_34 _ (List.mem_of_getElem? (i := 17) rfl), inr_1 _ (List.mem_of_getElem? (i := 2) rfl), ⟨by decide, by decide⟩, by decide +kernel, by decide +kernel, Nat.le_of_ble_eq_true rfl, rfl⟩, inr_34 _ (List.mem_of_getElem? (i := 15) rfl), inr_34 _ (List.mem_of_getElem? (i := 16) rfl)⟩
abbrev md_X9_has : MD := (yX9_has, cX9_has, 2, (some .boolean), none)
theorem ce_X9_has : CeT md_X9_has 2 := ⟨⟨inr_30 _ (List.mem_of_getElem? (i := 13) rfl), inr_1 _ (List.mem_of_getElem? (i := 2) rfl), ⟨by decide, by decide⟩, by decide +kernel, by decide +kernel, Nat.le_of_ble_eq_true rfl, rfl⟩, inr_30 _ (List.mem_of_getElem? (i := 12) rfl)⟩
abbrev md_X9_image : MD := (yX9_image, cX9_image, 2, (some .int), none)
theorem ce_X9_image : CeV md_X9_image 1 := ⟨⟨inr_41 _ (List.mem_of_getElem? (i := 11) rfl), inr_1 _ (List.mem_of_getElem? (i := 2) rfl), ⟨by decide, by decide⟩, by decide +kernel, by decide +kernel, Nat.le_of_ble_eq_true rfl, rfl⟩, inr_41 _ (List.mem_of_getElem? (i := 9) rfl), inr_41 _ (List.mem_of_getElem? (i := 10) rfl)⟩
abbrev md_X9_judge : MD := (yX9_judge, cX9_judge, 1, (some .int), none)
theorem ce_X9_judge : CeV md_X9_judge 0 := ⟨⟨inr_39 _ (List.mem_of_getElem? (i := 23) rfl), inr_1 _ (List.mem_of_getElem? (i := 2) rfl), ⟨by decide, by decide⟩, by decide +kernel, by decide +kernel, Nat.le_of_ble_eq_true rfl, rfl⟩, inr_39 _ (List.mem_of_getElem? (i := 21) rfl), inr_39 _ (List.mem_of_getElem? (i := 22) rfl)⟩
abbrev md_X9_keep : MD := (yX9_keep, cX9_keep, 2, (some .int), none)
theorem ce_X9_keep : CeV md_X9_keep 1 := ⟨⟨inr_25 _ (List.mem_of_getElem? (i := 22) rfl), inr_1 _ (List.mem_of_getElem? (i := 2) rfl), ⟨by decide, by decide⟩, by decide +kernel, by decide +kernel, Nat.le_of_ble_eq_true rfl, rfl⟩, inr_25 _ (List.mem_of_getElem? (i := 20) rfl), inr_25 _ (List.mem_of_getElem? (i := 21) rfl)⟩
abbrev md_X9_keeper : MD := (yX9_keeper, cX9_keeper, 3, (some .int), none)
theorem ce_X9_keeper : CeV md_X9_keeper 2 := ⟨⟨inr_18 _ (List.mem_of_getElem? (i := 1) rfl), inr_1 _ (List.mem_of_getElem? (i := 2) rfl), ⟨by decide, by decide⟩, by decide +kernel, by decide +kernel, Nat.le_of_ble_eq_true rfl, rfl⟩, inr_17 _ (List.mem_of_getElem? (i := 23) rfl), inr_18 _ (List.mem_of_getElem? (i := 0) rfl)⟩
abbrev md_X9_land : MD := (yX9_land, cX9_land, 2, (some .int), none)
theorem ce_X9_land : CeV md_X9_land 0 := ⟨⟨inr_8 _ (List.mem_of_getElem? (i := 5) rfl), inr_1 _ (List.mem_of_getElem? (i := 2) rfl), ⟨by decide, by decide⟩, by decide +kernel, by decide +kernel, Nat.le_of_ble_eq_true rfl, rfl⟩, inr_8 _ (List.mem_of_getElem? (i := 3) rfl), inr_8 _ (List.mem_of_getElem? (i := 4) rfl)⟩
abbrev md_X9_let : MD := (yX9_let, cX9_let, 9, (some .int), none)
theorem ce_X9_let : CeV md_X9_let 3 := ⟨⟨inr_39 _ (List.mem_of_getElem? (i := 4) rfl), inr_1 _ (List.mem_of_getElem? (i := 2) rfl), ⟨by decide, by decide⟩, by decide +kernel, by decide +kernel, Nat.le_of_ble_eq_true rfl, rfl⟩, inr_39 _ (List.mem_of_getElem? (i := 2) rfl), inr_39 _ (List.mem_of_getElem? (i := 3) rfl)⟩
abbrev md_X9_lives : MD := (yX9_lives, cX9_lives, 7, (some .int), none)
theorem ce_X9_lives : CeV md_X9_lives 2 := ⟨⟨inr_37 _ (List.mem_of_getElem? (i := 14) rfl), inr_1 _ (List.mem_of_getElem? (i := 2) rfl), ⟨by decide, by decide⟩, by decide +kernel, by decide +kernel, Nat.le_of_ble_eq_true rfl, rfl⟩, inr_37 _ (List.mem_of_getElem? (i := 12) rfl), inr_37 _ (List.mem_of_getElem? (i := 13) rfl)⟩
abbrev md_X9_plan : MD := (yX9_plan, cX9_plan, 4, (some .int), none)
theorem ce_X9_plan : CeV md_X9_plan 2 := ⟨⟨inr_29 _ (List.mem_of_getElem? (i := 16) rfl), inr_1 _ (List.mem_of_getElem? (i := 2) rfl), ⟨by decide, by decide⟩, by decide +kernel, by decide +kernel, Nat.le_of_ble_eq_true rfl, rfl⟩, inr_29 _ (List.mem_of_getElem? (i := 14) rfl), inr_29 _ (List.mem_of_getElem? (i := 15) rfl)⟩
abbrev md_X9_promise : MD := (yX9_promise, cX9_promise, 3, (some .int), none)
theorem ce_X9_promise : CeV md_X9_promise 2 := ⟨⟨inr_19 _ (List.mem_of_getElem? (i := 10) rfl), inr_1 _ (List.mem_of_getElem? (i := 2) rfl), ⟨by decide, by decide⟩, by decide +kernel, by decide +kernel, Nat.le_of_ble_eq_true rfl, rfl⟩, inr_19 _ (List.mem_of_getElem? (i := 8) rfl), inr_19 _ (List.mem_of_getElem? (i := 9) rfl)⟩
abbrev md_X9_put : MD := (yX9_put, cX9_put, 3, none, none)
theorem ce_X9_put : CeT md_X9_put 3 := ⟨⟨inr_7 _ (List.mem_of_getElem? (i := 14) rfl), inr_1 _ (List.mem_of_getElem? (i := 2) rfl), ⟨by decide, by decide⟩, by decide +kernel, by decide +kernel, Nat.le_of_ble_eq_true rfl, rfl⟩, inr_7 _ (List.mem_of_getElem? (i := 13) rfl)⟩
abbrev md_X9_refusalOfDays : MD := (yX9_refusalOfDays, cX9_refusalOfDays, 2, (some .int), none)
theorem ce_X9_refusalOfDays : CeV md_X9_refusalOfDays 1 := ⟨⟨inr_23 _ (List.mem_of_getElem? (i := 5) rfl), inr_1 _ (List.mem_of_getElem? (i := 2) rfl), ⟨by decide, by decide⟩, by decide +kernel, by decide +kernel, Nat.le_of_ble_eq_true rfl, rfl⟩, inr_23 _ (List.mem_of_getElem? (i := 3) rfl), inr_23 _ (List.mem_of_getElem? (i := 4) rfl)⟩
abbrev md_X9_refusalOfTrying : MD := (yX9_refusalOfTrying, cX9_refusalOfTrying, 2, (some .int), none)
theorem ce_X9_refusalOfTrying : CeV md_X9_refusalOfTrying 1 := ⟨⟨inr_29 _ (List.mem_of_getElem? (i := 20) rfl), inr_1 _ (List.mem_of_getElem? (i := 2) rfl), ⟨by decide, by decide⟩, by decide +kernel, by decide +kernel, Nat.le_of_ble_eq_true rfl, rfl⟩, inr_29 _ (List.mem_of_getElem? (i := 18) rfl), inr_29 _ (List.mem_of_getElem? (i := 19) rfl)⟩
abbrev md_X9_rowAt : MD := (yX9_rowAt, cX9_rowAt, 2, (some (.array .int)), none)
theorem ce_X9_rowAt : CeT md_X9_rowAt 2 := ⟨⟨inr_23 _ (List.mem_of_getElem? (i := 16) rfl), inr_1 _ (List.mem_of_getElem? (i := 2) rfl), ⟨by decide, by decide⟩, by decide +kernel, by decide +kernel, Nat.le_of_ble_eq_true rfl, rfl⟩, inr_23 _ (List.mem_of_getElem? (i := 15) rfl)⟩
abbrev md_X9_seed : MD := (yX9_seed, cX9_seed, 3, (some .int), none)
theorem ce_X9_seed : CeV md_X9_seed 1 := ⟨⟨inr_41 _ (List.mem_of_getElem? (i := 3) rfl), inr_1 _ (List.mem_of_getElem? (i := 2) rfl), ⟨by decide, by decide⟩, by decide +kernel, by decide +kernel, Nat.le_of_ble_eq_true rfl, rfl⟩, inr_41 _ (List.mem_of_getElem? (i := 1) rfl), inr_41 _ (List.mem_of_getElem? (i := 2) rfl)⟩
abbrev md_X9_share : MD := (yX9_share, cX9_share, 10, (some .int), none)
theorem ce_X9_share : CeV md_X9_share 1 := ⟨⟨inr_38 _ (List.mem_of_getElem? (i := 2) rfl), inr_1 _ (List.mem_of_getElem? (i := 2) rfl), ⟨by decide, by decide⟩, by decide +kernel, by decide +kernel, Nat.le_of_ble_eq_true rfl, rfl⟩, inr_38 _ (List.mem_of_getElem? (i := 0) rfl), inr_38 _ (List.mem_of_getElem? (i := 1) rfl)⟩
abbrev md_X9_still : MD := (yX9_still, cX9_still, 6, (some .int), none)
theorem ce_X9_still : CeV md_X9_still 3 := ⟨⟨inr_34 _ (List.mem_of_getElem? (i := 5) rfl), inr_1 _ (List.mem_of_getElem? (i := 2) rfl), ⟨by decide, by decide⟩, by decide +kernel, by decide +kernel, Nat.le_of_ble_eq_true rfl, rfl⟩, inr_34 _ (List.mem_of_getElem? (i := 3) rfl), inr_34 _ (List.mem_of_getElem? (i := 4) rfl)⟩
abbrev md_X9_swap : MD := (yX9_swap, cX9_swap, 3, (some .int), none)
theorem ce_X9_swap : CeV md_X9_swap 2 := ⟨⟨inr_27 _ (List.mem_of_getElem? (i := 8) rfl), inr_1 _ (List.mem_of_getElem? (i := 2) rfl), ⟨by decide, by decide⟩, by decide +kernel, by decide +kernel, Nat.le_of_ble_eq_true rfl, rfl⟩, inr_27 _ (List.mem_of_getElem? (i := 6) rfl), inr_27 _ (List.mem_of_getElem? (i := 7) rfl)⟩
abbrev md_X9_takeDown : MD := (yX9_takeDown, cX9_takeDown, 3, (some .int), none)
theorem ce_X9_takeDown : CeV md_X9_takeDown 1 := ⟨⟨inr_26 _ (List.mem_of_getElem? (i := 21) rfl), inr_1 _ (List.mem_of_getElem? (i := 2) rfl), ⟨by decide, by decide⟩, by decide +kernel, by decide +kernel, Nat.le_of_ble_eq_true rfl, rfl⟩, inr_26 _ (List.mem_of_getElem? (i := 19) rfl), inr_26 _ (List.mem_of_getElem? (i := 20) rfl)⟩
abbrev md_X9_tear : MD := (yX9_tear, cX9_tear, 2, (some .int), none)
theorem ce_X9_tear : CeV md_X9_tear 0 := ⟨⟨inr_40 _ (List.mem_of_getElem? (i := 19) rfl), inr_1 _ (List.mem_of_getElem? (i := 2) rfl), ⟨by decide, by decide⟩, by decide +kernel, by decide +kernel, Nat.le_of_ble_eq_true rfl, rfl⟩, inr_40 _ (List.mem_of_getElem? (i := 17) rfl), inr_40 _ (List.mem_of_getElem? (i := 18) rfl)⟩
abbrev md_X9_told : MD := (yX9_told, cX9_told, 2, (some .int), none)
theorem ce_X9_told : CeV md_X9_told 1 := ⟨⟨inr_15 _ (List.mem_of_getElem? (i := 16) rfl), inr_1 _ (List.mem_of_getElem? (i := 2) rfl), ⟨by decide, by decide⟩, by decide +kernel, by decide +kernel, Nat.le_of_ble_eq_true rfl, rfl⟩, inr_15 _ (List.mem_of_getElem? (i := 14) rfl), inr_15 _ (List.mem_of_getElem? (i := 15) rfl)⟩
abbrev md_X9_undo : MD := (yX9_undo, cX9_undo, 2, (some .int), none)
theorem ce_X9_undo : CeV md_X9_undo 1 := ⟨⟨inr_29 _ (List.mem_of_getElem? (i := 3) rfl), inr_1 _ (List.mem_of_getElem? (i := 2) rfl), ⟨by decide, by decide⟩, by decide +kernel, by decide +kernel, Nat.le_of_ble_eq_true rfl, rfl⟩, inr_29 _ (List.mem_of_getElem? (i := 1) rfl), inr_29 _ (List.mem_of_getElem? (i := 2) rfl)⟩
abbrev md_X9_write : MD := (yX9_write, cX9_write, 3, (some .int), none)
theorem ce_X9_write : CeV md_X9_write 2 := ⟨⟨inr_39 _ (List.mem_of_getElem? (i := 12) rfl), inr_1 _ (List.mem_of_getElem? (i := 2) rfl), ⟨by decide, by decide⟩, by decide +kernel, by decide +kernel, Nat.le_of_ble_eq_true rfl, rfl⟩, inr_39 _ (List.mem_of_getElem? (i := 10) rfl), inr_39 _ (List.mem_of_getElem? (i := 11) rfl)⟩
theorem kArrI : Cond.arrayClass .int ∈ wsL_law := inr_3 _ (List.mem_of_getElem? (i := 4) rfl)
theorem kArrZ : Cond.arrayClass .boolean ∈ wsL_law := inr_5 _ (List.mem_of_getElem? (i := 23) rfl)
theorem kObj1 : Cond.instanceMethod objectInit ∈ wsL_law := inr_1 _ (List.mem_of_getElem? (i := 10) rfl)
theorem kObj2 : Cond.code objectInit ⟨#[0xb1]⟩ 1 none ∈ wsL_law := inr_1 _ (List.mem_of_getElem? (i := 11) rfl)
theorem cl_X0 : ∃ q, vwCl[0]? = some q ∧ q.1 = RX0 := ⟨_, rfl, rfl⟩
theorem cl_X1 : ∃ q, vwCl[1]? = some q ∧ q.1 = RX1 := ⟨_, rfl, rfl⟩
theorem cl_X10 : ∃ q, vwCl[10]? = some q ∧ q.1 = RX10 := ⟨_, rfl, rfl⟩
theorem cl_X2 : ∃ q, vwCl[2]? = some q ∧ q.1 = RX2 := ⟨_, rfl, rfl⟩
theorem cl_X3 : ∃ q, vwCl[3]? = some q ∧ q.1 = RX3 := ⟨_, rfl, rfl⟩
theorem cl_X4 : ∃ q, vwCl[4]? = some q ∧ q.1 = RX4 := ⟨_, rfl, rfl⟩
theorem cl_X5 : ∃ q, vwCl[5]? = some q ∧ q.1 = RX5 := ⟨_, rfl, rfl⟩
theorem cl_X6 : ∃ q, vwCl[6]? = some q ∧ q.1 = RX6 := ⟨_, rfl, rfl⟩
theorem cl_X7 : ∃ q, vwCl[7]? = some q ∧ q.1 = RX7 := ⟨_, rfl, rfl⟩
theorem cl_X8 : ∃ q, vwCl[8]? = some q ∧ q.1 = RX8 := ⟨_, rfl, rfl⟩
theorem cl_X9 : ∃ q, vwCl[9]? = some q ∧ q.1 = RX9 := ⟨_, rfl, rfl⟩
theorem ml_L_13 : LkM RL 13 yX9_feed := Or.inl (inr_7 _ (List.mem_of_getElem? (i := 0) rfl))
theorem ml_L_17 : LkM RL 17 yX10_feed := Or.inl (inr_7 _ (List.mem_of_getElem? (i := 15) rfl))
theorem ml_L_18 : LkM RL 18 yX9_land := Or.inl (inr_8 _ (List.mem_of_getElem? (i := 2) rfl))
theorem ml_L_22 : LkM RL 22 yX10_land := Or.inl (inr_12 _ (List.mem_of_getElem? (i := 7) rfl))
theorem ml_L_23 : LkM RL 23 yX9_fault := Or.inl (inr_15 _ (List.mem_of_getElem? (i := 5) rfl))
theorem ml_L_26 : LkM RL 26 yX10_fault := Or.inl (inr_15 _ (List.mem_of_getElem? (i := 9) rfl))
theorem ml_L_27 : LkM RL 27 yX9_told := Or.inl (inr_15 _ (List.mem_of_getElem? (i := 13) rfl))
theorem ml_L_30 : LkM RL 30 yX10_told := Or.inl (inr_16 _ (List.mem_of_getElem? (i := 10) rfl))
theorem ml_L_31 : LkM RL 31 yX9_far := Or.inl (inr_17 _ (List.mem_of_getElem? (i := 1) rfl))
theorem ml_L_35 : LkM RL 35 yX10_far := Or.inl (inr_17 _ (List.mem_of_getElem? (i := 13) rfl))
theorem ml_L_36 : LkM RL 36 yX9_keeper := Or.inl (inr_17 _ (List.mem_of_getElem? (i := 22) rfl))
theorem ml_L_39 : LkM RL 39 yX10_keeper := Or.inl (inr_18 _ (List.mem_of_getElem? (i := 19) rfl))
theorem ml_L_40 : LkM RL 40 yX9_promise := Or.inl (inr_19 _ (List.mem_of_getElem? (i := 7) rfl))
theorem ml_L_43 : LkM RL 43 yX10_promise := Or.inl (inr_20 _ (List.mem_of_getElem? (i := 6) rfl))
theorem ml_L_44 : LkM RL 44 yX9_fell := Or.inl (inr_20 _ (List.mem_of_getElem? (i := 22) rfl))
theorem ml_L_47 : LkM RL 47 yX10_fell := Or.inl (inr_21 _ (List.mem_of_getElem? (i := 5) rfl))
theorem ml_L_48 : LkM RL 48 yX9_go := Or.inl (inr_21 _ (List.mem_of_getElem? (i := 10) rfl))
theorem ml_L_51 : LkM RL 51 yX10_go := Or.inl (inr_22 _ (List.mem_of_getElem? (i := 5) rfl))
theorem ml_L_52 : LkM RL 52 yX9_day := Or.inl (inr_22 _ (List.mem_of_getElem? (i := 22) rfl))
theorem ml_L_55 : LkM RL 55 yX10_day := Or.inl (inr_24 _ (List.mem_of_getElem? (i := 11) rfl))
theorem ml_L_56 : LkM RL 56 yX9_keep := Or.inl (inr_25 _ (List.mem_of_getElem? (i := 19) rfl))
theorem ml_L_59 : LkM RL 59 yX10_keep := Or.inl (inr_26 _ (List.mem_of_getElem? (i := 6) rfl))
theorem ml_L_60 : LkM RL 60 yX9_takeDown := Or.inl (inr_26 _ (List.mem_of_getElem? (i := 18) rfl))
theorem ml_L_63 : LkM RL 63 yX10_takeDown := Or.inl (inr_27 _ (List.mem_of_getElem? (i := 1) rfl))
theorem ml_L_64 : LkM RL 64 yX9_swap := Or.inl (inr_27 _ (List.mem_of_getElem? (i := 5) rfl))
theorem ml_L_67 : LkM RL 67 yX10_swap := Or.inl (inr_27 _ (List.mem_of_getElem? (i := 12) rfl))
theorem ml_L_68 : LkM RL 68 yX9_drift := Or.inl (inr_27 _ (List.mem_of_getElem? (i := 16) rfl))
theorem ml_L_71 : LkM RL 71 yX10_drift := Or.inl (inr_28 _ (List.mem_of_getElem? (i := 8) rfl))
theorem ml_L_72 : LkM RL 72 yX9_undo := Or.inl (inr_29 _ (List.mem_of_getElem? (i := 0) rfl))
theorem ml_L_75 : LkM RL 75 yX10_undo := Or.inl (inr_29 _ (List.mem_of_getElem? (i := 8) rfl))
theorem ml_L_76 : LkM RL 76 yX9_plan := Or.inl (inr_29 _ (List.mem_of_getElem? (i := 13) rfl))
theorem ml_L_79 : LkM RL 79 yX10_plan := Or.inl (inr_31 _ (List.mem_of_getElem? (i := 13) rfl))
theorem ml_L_80 : LkM RL 80 yX9_clash := Or.inl (inr_33 _ (List.mem_of_getElem? (i := 6) rfl))
theorem ml_L_83 : LkM RL 83 yX10_clash := Or.inl (inr_33 _ (List.mem_of_getElem? (i := 18) rfl))
theorem ml_L_84 : LkM RL 84 yX9_still := Or.inl (inr_34 _ (List.mem_of_getElem? (i := 2) rfl))
theorem ml_L_88 : LkM RL 88 yX10_still := Or.inl (inr_34 _ (List.mem_of_getElem? (i := 9) rfl))
theorem ml_L_89 : LkM RL 89 yX9_hands := Or.inl (inr_34 _ (List.mem_of_getElem? (i := 14) rfl))
theorem ml_L_92 : LkM RL 92 yX10_hands := Or.inl (inr_35 _ (List.mem_of_getElem? (i := 15) rfl))
theorem ml_L_93 : LkM RL 93 yX9_calendar := Or.inl (inr_36 _ (List.mem_of_getElem? (i := 7) rfl))
theorem ml_L_96 : LkM RL 96 yX10_calendar := Or.inl (inr_36 _ (List.mem_of_getElem? (i := 14) rfl))
theorem ml_L_97 : LkM RL 97 yX9_busiest := Or.inl (inr_36 _ (List.mem_of_getElem? (i := 23) rfl))
theorem ml_L_100 : LkM RL 100 yX10_busiest := Or.inl (inr_37 _ (List.mem_of_getElem? (i := 7) rfl))
theorem ml_L_101 : LkM RL 101 yX9_lives := Or.inl (inr_37 _ (List.mem_of_getElem? (i := 11) rfl))
theorem ml_L_104 : LkM RL 104 yX10_lives := Or.inl (inr_37 _ (List.mem_of_getElem? (i := 17) rfl))
theorem ml_L_105 : LkM RL 105 yX9_share := Or.inl (inr_37 _ (List.mem_of_getElem? (i := 23) rfl))
theorem ml_L_108 : LkM RL 108 yX10_share := Or.inl (inr_38 _ (List.mem_of_getElem? (i := 13) rfl))
theorem ml_L_109 : LkM RL 109 yX9_let := Or.inl (inr_39 _ (List.mem_of_getElem? (i := 1) rfl))
theorem ml_L_112 : LkM RL 112 yX10_let := Or.inl (inr_39 _ (List.mem_of_getElem? (i := 5) rfl))
theorem ml_L_113 : LkM RL 113 yX9_write := Or.inl (inr_39 _ (List.mem_of_getElem? (i := 9) rfl))
theorem ml_L_116 : LkM RL 116 yX10_write := Or.inl (inr_39 _ (List.mem_of_getElem? (i := 16) rfl))
theorem ml_L_117 : LkM RL 117 yX9_judge := Or.inl (inr_39 _ (List.mem_of_getElem? (i := 20) rfl))
theorem ml_L_120 : LkM RL 120 yX10_judge := Or.inl (inr_40 _ (List.mem_of_getElem? (i := 8) rfl))
theorem ml_L_121 : LkM RL 121 yX9_tear := Or.inl (inr_40 _ (List.mem_of_getElem? (i := 16) rfl))
theorem ml_L_124 : LkM RL 124 yX10_tear := Or.inl (inr_40 _ (List.mem_of_getElem? (i := 20) rfl))
theorem ml_L_125 : LkM RL 125 yX9_seed := Or.inl (inr_41 _ (List.mem_of_getElem? (i := 0) rfl))
theorem ml_L_128 : LkM RL 128 yX10_seed := Or.inl (inr_41 _ (List.mem_of_getElem? (i := 4) rfl))
theorem ml_L_129 : LkM RL 129 yX9_image := Or.inl (inr_41 _ (List.mem_of_getElem? (i := 8) rfl))
theorem ml_L_132 : LkM RL 132 yX10_image := Or.inl (inr_41 _ (List.mem_of_getElem? (i := 15) rfl))
theorem ml_L_133 : LkM RL 133 yX9_goBack := Or.inl (inr_41 _ (List.mem_of_getElem? (i := 19) rfl))
theorem ml_L_136 : LkM RL 136 yX10_goBack := Or.inl (inr_42 _ (List.mem_of_getElem? (i := 2) rfl))
theorem ml_X0_35 : LkM RX0 35 yX9_put := Or.inr ⟨_, List.mem_of_getElem? (i := 91) rfl⟩
theorem ml_X0_42 : LkM RX0 42 yX9_copy := Or.inr ⟨_, List.mem_of_getElem? (i := 93) rfl⟩
theorem ml_X0_46 : LkM RX0 46 yX1_today := Or.inr ⟨_, List.mem_of_getElem? (i := 94) rfl⟩
theorem ml_X0_50 : LkM RX0 50 yX9_at := Or.inr ⟨_, List.mem_of_getElem? (i := 95) rfl⟩
theorem ml_X0_54 : LkM RX0 54 yX0_canBeKept := Or.inl (inr_40 _ (List.mem_of_getElem? (i := 3) rfl))
theorem ml_X0_58 : LkM RX0 58 yX1_end := Or.inr ⟨_, List.mem_of_getElem? (i := 102) rfl⟩
theorem ml_X0_62 : LkM RX0 62 yX1_holderOf := Or.inr ⟨_, List.mem_of_getElem? (i := 96) rfl⟩
theorem ml_X0_71 : LkM RX0 71 yX1_sendTo := Or.inr ⟨_, List.mem_of_getElem? (i := 103) rfl⟩
theorem ml_X0_74 : LkM RX0 74 yX1_townOf := Or.inr ⟨_, List.mem_of_getElem? (i := 97) rfl⟩
theorem ml_X0_77 : LkM RX0 77 yX5_distance := Or.inr ⟨_, List.mem_of_getElem? (i := 98) rfl⟩
theorem ml_X0_81 : LkM RX0 81 yX1_thereOn := Or.inr ⟨_, List.mem_of_getElem? (i := 99) rfl⟩
theorem ml_X0_84 : LkM RX0 84 yJ9_max_7cf53 := Or.inl (inr_40 _ (List.mem_of_getElem? (i := 7) rfl))
theorem ml_X0_89 : LkM RX0 89 yX1_isOpen := Or.inr ⟨_, List.mem_of_getElem? (i := 100) rfl⟩
theorem ml_X0_93 : LkM RX0 93 yX1_mayBeKeptOn := Or.inr ⟨_, List.mem_of_getElem? (i := 101) rfl⟩
theorem ml_X1_19 : LkM RX1 19 yX9_put := Or.inr ⟨_, List.mem_of_getElem? (i := 21) rfl⟩
theorem ml_X1_28 : LkM RX1 28 yX9_at := Or.inr ⟨_, List.mem_of_getElem? (i := 22) rfl⟩
theorem ml_X1_35 : LkM RX1 35 yX5_hasPromise := Or.inr ⟨_, List.mem_of_getElem? (i := 49) rfl⟩
theorem ml_X1_39 : LkM RX1 39 yX1_how := Or.inl (inr_15 _ (List.mem_of_getElem? (i := 23) rfl))
theorem ml_X1_43 : LkM RX1 43 yX1_thereOn := Or.inl (inr_21 _ (List.mem_of_getElem? (i := 23) rfl))
theorem ml_X1_46 : LkM RX1 46 yX1_today := Or.inl (inr_22 _ (List.mem_of_getElem? (i := 0) rfl))
theorem ml_X1_54 : LkM RX1 54 yX1_holderOf := Or.inl (inr_18 _ (List.mem_of_getElem? (i := 15) rfl))
theorem ml_X1_57 : LkM RX1 57 yX1_heldBy := Or.inl (inr_30 _ (List.mem_of_getElem? (i := 0) rfl))
theorem ml_X1_60 : LkM RX1 60 yX1_setOf := Or.inl (inr_30 _ (List.mem_of_getElem? (i := 1) rfl))
theorem ml_X1_63 : LkM RX1 63 yX5_sizesIn := Or.inr ⟨_, List.mem_of_getElem? (i := 87) rfl⟩
theorem ml_X1_69 : LkM RX1 69 yX1_givenOn := Or.inl (inr_19 _ (List.mem_of_getElem? (i := 17) rfl))
theorem ml_X1_75 : LkM RX1 75 yX5_ripeDay := Or.inr ⟨_, List.mem_of_getElem? (i := 40) rfl⟩
theorem ml_X1_79 : LkM RX1 79 yX1_ripeOn := Or.inl (inr_23 _ (List.mem_of_getElem? (i := 22) rfl))
theorem ml_X1_85 : LkM RX1 85 yX1_isOpen := Or.inl (inr_23 _ (List.mem_of_getElem? (i := 23) rfl))
theorem ml_X1_88 : LkM RX1 88 yX1_townOf := Or.inl (inr_21 _ (List.mem_of_getElem? (i := 18) rfl))
theorem ml_X1_94 : LkM RX1 94 yX1_onTheWay := Or.inl (inr_21 _ (List.mem_of_getElem? (i := 19) rfl))
theorem ml_X1_97 : LkM RX1 97 yX1_mayBeKeptOn := Or.inl (inr_26 _ (List.mem_of_getElem? (i := 2) rfl))
theorem ml_X1_104 : LkM RX1 104 yX1_end := Or.inl (inr_24 _ (List.mem_of_getElem? (i := 7) rfl))
theorem ml_X1_108 : LkM RX1 108 yX5_distance := Or.inr ⟨_, List.mem_of_getElem? (i := 44) rfl⟩
theorem ml_X1_111 : LkM RX1 111 yX1_sendTo := Or.inl (inr_22 _ (List.mem_of_getElem? (i := 1) rfl))
theorem ml_X1_117 : LkM RX1 117 yX1_lose := Or.inl (inr_24 _ (List.mem_of_getElem? (i := 3) rfl))
theorem ml_X10_89 : LkM RX10 89 yX10_in := Or.inl (inr_7 _ (List.mem_of_getElem? (i := 23) rfl))
theorem ml_X10_104 : LkM RX10 104 yX10_here := Or.inl (inr_12 _ (List.mem_of_getElem? (i := 20) rfl))
theorem ml_X10_115 : LkM RX10 115 yX10_want := Or.inl (inr_13 _ (List.mem_of_getElem? (i := 4) rfl))
theorem ml_X10_123 : LkM RX10 123 yX10_takeNumber := Or.inl (inr_13 _ (List.mem_of_getElem? (i := 12) rfl))
theorem ml_X10_140 : LkM RX10 140 yX10_takeTowns := Or.inl (inr_13 _ (List.mem_of_getElem? (i := 8) rfl))
theorem ml_X10_144 : LkM RX10 144 yX10_takeRoad := Or.inl (inr_13 _ (List.mem_of_getElem? (i := 20) rfl))
theorem ml_X10_147 : LkM RX10 147 yX10_takeKeeper := Or.inl (inr_14 _ (List.mem_of_getElem? (i := 0) rfl))
theorem ml_X10_150 : LkM RX10 150 yX10_takePromise := Or.inl (inr_14 _ (List.mem_of_getElem? (i := 4) rfl))
theorem ml_X10_153 : LkM RX10 153 yX10_takeWinter := Or.inl (inr_14 _ (List.mem_of_getElem? (i := 8) rfl))
theorem ml_X10_157 : LkM RX10 157 yX10_takeClause := Or.inl (inr_13 _ (List.mem_of_getElem? (i := 0) rfl))
theorem ml_X10_160 : LkM RX10 160 yX10_take := Or.inl (inr_14 _ (List.mem_of_getElem? (i := 12) rfl))
theorem ml_X10_163 : LkM RX10 163 yX10_begin := Or.inl (inr_14 _ (List.mem_of_getElem? (i := 23) rfl))
theorem ml_X10_178 : LkM RX10 178 yX10_findFar := Or.inl (inr_14 _ (List.mem_of_getElem? (i := 19) rfl))
theorem ml_X10_187 : LkM RX10 187 yX10_isWinter := Or.inl (inr_16 _ (List.mem_of_getElem? (i := 21) rfl))
theorem ml_X10_191 : LkM RX10 191 yX10_one := Or.inl (inr_16 _ (List.mem_of_getElem? (i := 18) rfl))
theorem ml_X10_195 : LkM RX10 195 yX10_ripeBy := Or.inl (inr_20 _ (List.mem_of_getElem? (i := 18) rfl))
theorem ml_X10_198 : LkM RX10 198 yX10_inWay := Or.inl (inr_16 _ (List.mem_of_getElem? (i := 14) rfl))
theorem ml_X10_202 : LkM RX10 202 yX10_isTown := Or.inl (inr_17 _ (List.mem_of_getElem? (i := 18) rfl))
theorem ml_X10_206 : LkM RX10 206 yX10_isKeeper := Or.inl (inr_18 _ (List.mem_of_getElem? (i := 23) rfl))
theorem ml_X10_209 : LkM RX10 209 yX10_ofKeeper := Or.inl (inr_19 _ (List.mem_of_getElem? (i := 3) rfl))
theorem ml_X10_212 : LkM RX10 212 yX10_isPromise := Or.inl (inr_20 _ (List.mem_of_getElem? (i := 10) rfl))
theorem ml_X10_215 : LkM RX10 215 yX10_ripe := Or.inl (inr_20 _ (List.mem_of_getElem? (i := 14) rfl))
theorem ml_X10_220 : LkM RX10 220 yX10_isOnWay := Or.inl (inr_22 _ (List.mem_of_getElem? (i := 14) rfl))
theorem ml_X10_223 : LkM RX10 223 yX10_canGo := Or.inl (inr_22 _ (List.mem_of_getElem? (i := 10) rfl))
theorem ml_X10_228 : LkM RX10 228 yX10_goTo := Or.inl (inr_22 _ (List.mem_of_getElem? (i := 18) rfl))
theorem ml_X10_232 : LkM RX10 232 yX10_has := Or.inl (inr_25 _ (List.mem_of_getElem? (i := 16) rfl))
theorem ml_X10_235 : LkM RX10 235 yX10_copy := Or.inl (inr_25 _ (List.mem_of_getElem? (i := 4) rfl))
theorem ml_X10_238 : LkM RX10 238 yX10_remember := Or.inl (inr_25 _ (List.mem_of_getElem? (i := 0) rfl))
theorem ml_X10_241 : LkM RX10 241 yX10_fallOn := Or.inl (inr_25 _ (List.mem_of_getElem? (i := 8) rfl))
theorem ml_X10_244 : LkM RX10 244 yX10_takeWith := Or.inl (inr_25 _ (List.mem_of_getElem? (i := 12) rfl))
theorem ml_X10_249 : LkM RX10 249 yX10_refusedDays := Or.inl (inr_24 _ (List.mem_of_getElem? (i := 15) rfl))
theorem ml_X10_252 : LkM RX10 252 yX10_passDay := Or.inl (inr_24 _ (List.mem_of_getElem? (i := 20) rfl))
theorem ml_X10_255 : LkM RX10 255 yX10_canKeep := Or.inl (inr_26 _ (List.mem_of_getElem? (i := 10) rfl))
theorem ml_X10_258 : LkM RX10 258 yX10_keepNow := Or.inl (inr_26 _ (List.mem_of_getElem? (i := 14) rfl))
theorem ml_X10_268 : LkM RX10 268 yX10_draw := Or.inl (inr_28 _ (List.mem_of_getElem? (i := 16) rfl))
theorem ml_X10_271 : LkM RX10 271 yX10_keeperByDraws := Or.inl (inr_28 _ (List.mem_of_getElem? (i := 12) rfl))
theorem ml_X10_285 : LkM RX10 285 yX10_givenBy := Or.inl (inr_32 _ (List.mem_of_getElem? (i := 12) rfl))
theorem ml_X10_288 : LkM RX10 288 yX10_townBy := Or.inl (inr_32 _ (List.mem_of_getElem? (i := 3) rfl))
theorem ml_X10_291 : LkM RX10 291 yX10_ageBy := Or.inl (inr_32 _ (List.mem_of_getElem? (i := 16) rfl))
theorem ml_X10_294 : LkM RX10 294 yX10_slackBy := Or.inl (inr_32 _ (List.mem_of_getElem? (i := 21) rfl))
theorem ml_X10_303 : LkM RX10 303 yX10_put := Or.inl (inr_32 _ (List.mem_of_getElem? (i := 8) rfl))
theorem ml_X10_307 : LkM RX10 307 yX10_look := Or.inl (inr_33 _ (List.mem_of_getElem? (i := 2) rfl))
theorem ml_X10_310 : LkM RX10 310 yX10_openOf := Or.inl (inr_31 _ (List.mem_of_getElem? (i := 18) rfl))
theorem ml_X10_313 : LkM RX10 313 yX10_findOrder := Or.inl (inr_31 _ (List.mem_of_getElem? (i := 22) rfl))
theorem ml_X10_317 : LkM RX10 317 yX10_withGrafts := Or.inl (inr_33 _ (List.mem_of_getElem? (i := 22) rfl))
theorem ml_X10_322 : LkM RX10 322 yX10_handOf := Or.inl (inr_35 _ (List.mem_of_getElem? (i := 23) rfl))
theorem ml_X10_325 : LkM RX10 325 yX10_canHave := Or.inl (inr_36 _ (List.mem_of_getElem? (i := 3) rfl))
theorem ml_X10_328 : LkM RX10 328 yX10_changesBy := Or.inl (inr_35 _ (List.mem_of_getElem? (i := 19) rfl))
theorem ml_X10_333 : LkM RX10 333 yX10_mayKeepOn := Or.inl (inr_36 _ (List.mem_of_getElem? (i := 19) rfl))
theorem ml_X10_340 : LkM RX10 340 yX10_sizesOf := Or.inl (inr_38 _ (List.mem_of_getElem? (i := 21) rfl))
theorem ml_X10_343 : LkM RX10 343 yX10_findShares := Or.inl (inr_38 _ (List.mem_of_getElem? (i := 17) rfl))
theorem ml_X10_346 : LkM RX10 346 yX10_keepsSo := Or.inl (inr_40 _ (List.mem_of_getElem? (i := 12) rfl))
theorem ml_X3_36 : LkM RX3 36 yX1_setOf := Or.inr ⟨_, List.mem_of_getElem? (i := 76) rfl⟩
theorem ml_X3_42 : LkM RX3 42 yJ6_bitCount_0f7a4 := Or.inl (inr_35 _ (List.mem_of_getElem? (i := 0) rfl))
theorem ml_X3_53 : LkM RX3 53 yX3_giveBy := Or.inl (inr_35 _ (List.mem_of_getElem? (i := 7) rfl))
theorem ml_X3_56 : LkM RX3 56 yX3_allFit := Or.inl (inr_35 _ (List.mem_of_getElem? (i := 11) rfl))
theorem ml_X3_60 : LkM RX3 60 yX9_copy := Or.inr ⟨_, List.mem_of_getElem? (i := 84) rfl⟩
theorem ml_X3_64 : LkM RX3 64 yX8_canKeepAll := Or.inr ⟨_, List.mem_of_getElem? (i := 77) rfl⟩
theorem ml_X3_70 : LkM RX3 70 yX9_put := Or.inr ⟨_, List.mem_of_getElem? (i := 79) rfl⟩
theorem ml_X3_77 : LkM RX3 77 yX1_holderOf := Or.inr ⟨_, List.mem_of_getElem? (i := 80) rfl⟩
theorem ml_X3_80 : LkM RX3 80 yX1_isOpen := Or.inr ⟨_, List.mem_of_getElem? (i := 81) rfl⟩
theorem ml_X3_84 : LkM RX3 84 yX9_at := Or.inr ⟨_, List.mem_of_getElem? (i := 82) rfl⟩
theorem ml_X3_88 : LkM RX3 88 yX9_has := Or.inr ⟨_, List.mem_of_getElem? (i := 83) rfl⟩
theorem ml_X4_29 : LkM RX4 29 yX9_rowAt := Or.inr ⟨_, List.mem_of_getElem? (i := 105) rfl⟩
theorem ml_X4_33 : LkM RX4 33 yX9_copy := Or.inr ⟨_, List.mem_of_getElem? (i := 106) rfl⟩
theorem ml_X4_42 : LkM RX4 42 yX9_put := Or.inr ⟨_, List.mem_of_getElem? (i := 107) rfl⟩
theorem ml_X4_46 : LkM RX4 46 yX9_has := Or.inr ⟨_, List.mem_of_getElem? (i := 109) rfl⟩
theorem ml_X4_50 : LkM RX4 50 yX9_at := Or.inr ⟨_, List.mem_of_getElem? (i := 110) rfl⟩
theorem ml_X5_61 : LkM RX5 61 yX5_shorten := Or.inl (inr_10 _ (List.mem_of_getElem? (i := 18) rfl))
theorem ml_X5_65 : LkM RX5 65 yX9_at := Or.inr ⟨_, List.mem_of_getElem? (i := 17) rfl⟩
theorem ml_X5_69 : LkM RX5 69 yX9_put := Or.inr ⟨_, List.mem_of_getElem? (i := 18) rfl⟩
theorem ml_X5_73 : LkM RX5 73 yX5_hasTown := Or.inl (inr_17 _ (List.mem_of_getElem? (i := 12) rfl))
theorem ml_X5_77 : LkM RX5 77 yJ9_floorMod_7cf53 := Or.inl (inr_16 _ (List.mem_of_getElem? (i := 6) rfl))
theorem ml_X5_83 : LkM RX5 83 yJ9_max_7cf53 := Or.inl (inr_20 _ (List.mem_of_getElem? (i := 0) rfl))
theorem ml_X5_86 : LkM RX5 86 yX9_has := Or.inr ⟨_, List.mem_of_getElem? (i := 88) rfl⟩
theorem ml_X6_29 : LkM RX6 29 yX9_rowAt := Or.inr ⟨_, List.mem_of_getElem? (i := 46) rfl⟩
theorem ml_X6_33 : LkM RX6 33 yX9_copy := Or.inr ⟨_, List.mem_of_getElem? (i := 47) rfl⟩
theorem ml_X6_37 : LkM RX6 37 yJ9_min_7cf53 := Or.inl (inr_23 _ (List.mem_of_getElem? (i := 14) rfl))
theorem ml_X6_43 : LkM RX6 43 yJ9_floorMod_7cf53 := Or.inl (inr_29 _ (List.mem_of_getElem? (i := 7) rfl))
theorem ml_X7_22 : LkM RX7 22 yX9_put := Or.inr ⟨_, List.mem_of_getElem? (i := 12) rfl⟩
theorem ml_X7_32 : LkM RX7 32 yX5_clear := Or.inr ⟨_, List.mem_of_getElem? (i := 14) rfl⟩
theorem ml_X7_37 : LkM RX7 37 yX7_skipBlanks := Or.inl (inr_8 _ (List.mem_of_getElem? (i := 21) rfl))
theorem ml_X7_40 : LkM RX7 40 yX7_readClause := Or.inl (inr_9 _ (List.mem_of_getElem? (i := 3) rfl))
theorem ml_X7_44 : LkM RX7 44 yX5_joinRoads := Or.inr ⟨_, List.mem_of_getElem? (i := 19) rfl⟩
theorem ml_X7_47 : LkM RX7 47 yX9_at := Or.inr ⟨_, List.mem_of_getElem? (i := 15) rfl⟩
theorem ml_X7_54 : LkM RX7 54 yX7_blame := Or.inl (inr_9 _ (List.mem_of_getElem? (i := 7) rfl))
theorem ml_X7_58 : LkM RX7 58 yX7_isOneTooMany := Or.inl (inr_9 _ (List.mem_of_getElem? (i := 11) rfl))
theorem ml_X7_62 : LkM RX7 62 yX7_readTowns := Or.inl (inr_9 _ (List.mem_of_getElem? (i := 15) rfl))
theorem ml_X7_65 : LkM RX7 65 yX7_readRoad := Or.inl (inr_10 _ (List.mem_of_getElem? (i := 11) rfl))
theorem ml_X7_68 : LkM RX7 68 yX7_readKeeper := Or.inl (inr_10 _ (List.mem_of_getElem? (i := 22) rfl))
theorem ml_X7_71 : LkM RX7 71 yX7_readPromise := Or.inl (inr_11 _ (List.mem_of_getElem? (i := 2) rfl))
theorem ml_X7_74 : LkM RX7 74 yX7_readWinter := Or.inl (inr_11 _ (List.mem_of_getElem? (i := 6) rfl))
theorem ml_X7_89 : LkM RX7 89 yX7_number := Or.inl (inr_9 _ (List.mem_of_getElem? (i := 19) rfl))
theorem ml_X7_93 : LkM RX7 93 yX7_isEnd := Or.inl (inr_10 _ (List.mem_of_getElem? (i := 7) rfl))
theorem ml_X7_100 : LkM RX7 100 yX5_addRoad := Or.inr ⟨_, List.mem_of_getElem? (i := 16) rfl⟩
theorem ml_X7_133 : LkM RX7 133 yX7_isFigure := Or.inl (inr_10 _ (List.mem_of_getElem? (i := 4) rfl))
theorem ml_X7_137 : LkM RX7 137 yJ9_min_7cf53 := Or.inl (inr_10 _ (List.mem_of_getElem? (i := 0) rfl))
theorem ml_X8_35 : LkM RX8 35 yX9_put := Or.inr ⟨_, List.mem_of_getElem? (i := 63) rfl⟩
theorem ml_X8_43 : LkM RX8 43 yX9_at := Or.inr ⟨_, List.mem_of_getElem? (i := 62) rfl⟩
theorem ml_X8_54 : LkM RX8 54 yX8_prepare := Or.inl (inr_30 _ (List.mem_of_getElem? (i := 8) rfl))
theorem ml_X8_58 : LkM RX8 58 yX1_townOf := Or.inr ⟨_, List.mem_of_getElem? (i := 65) rfl⟩
theorem ml_X8_64 : LkM RX8 64 yX1_today := Or.inr ⟨_, List.mem_of_getElem? (i := 66) rfl⟩
theorem ml_X8_68 : LkM RX8 68 yX8_extend := Or.inl (inr_30 _ (List.mem_of_getElem? (i := 14) rfl))
theorem ml_X8_77 : LkM RX8 77 yX9_has := Or.inr ⟨_, List.mem_of_getElem? (i := 61) rfl⟩
theorem ml_X8_83 : LkM RX8 83 yX1_ripeOn := Or.inr ⟨_, List.mem_of_getElem? (i := 64) rfl⟩
theorem ml_X8_89 : LkM RX8 89 yX8_cannotBeBetter := Or.inl (inr_30 _ (List.mem_of_getElem? (i := 18) rfl))
theorem ml_X8_92 : LkM RX8 92 yX8_takeAsBest := Or.inl (inr_30 _ (List.mem_of_getElem? (i := 22) rfl))
theorem ml_X8_96 : LkM RX8 96 yX8_misses := Or.inl (inr_31 _ (List.mem_of_getElem? (i := 2) rfl))
theorem ml_X8_100 : LkM RX8 100 yX5_distance := Or.inr ⟨_, List.mem_of_getElem? (i := 68) rfl⟩
theorem ml_X8_104 : LkM RX8 104 yJ9_max_7cf53 := Or.inl (inr_30 _ (List.mem_of_getElem? (i := 17) rfl))
theorem ml_X8_109 : LkM RX8 109 yX8_ripen := Or.inl (inr_31 _ (List.mem_of_getElem? (i := 6) rfl))
theorem ml_X8_113 : LkM RX8 113 yX9_copy := Or.inr ⟨_, List.mem_of_getElem? (i := 67) rfl⟩
theorem ml_X8_120 : LkM RX8 120 yX5_ripeDay := Or.inr ⟨_, List.mem_of_getElem? (i := 69) rfl⟩
theorem ml_X8_123 : LkM RX8 123 yX1_openOf := Or.inr ⟨_, List.mem_of_getElem? (i := 72) rfl⟩
theorem ml_X8_126 : LkM RX8 126 yX8_withOlder := Or.inl (inr_33 _ (List.mem_of_getElem? (i := 13) rfl))
theorem ml_X8_129 : LkM RX8 129 yX8_canKeepAll := Or.inl (inr_33 _ (List.mem_of_getElem? (i := 17) rfl))
theorem ml_X9_82 : LkM RX9 82 yX7_isFull := Or.inr ⟨_, List.mem_of_getElem? (i := 10) rfl⟩
theorem ml_X9_87 : LkM RX9 87 yX7_add := Or.inr ⟨_, List.mem_of_getElem? (i := 11) rfl⟩
theorem ml_X9_91 : LkM RX9 91 yX7_readInto := Or.inr ⟨_, List.mem_of_getElem? (i := 13) rfl⟩
theorem ml_X9_95 : LkM RX9 95 yX1_begin := Or.inr ⟨_, List.mem_of_getElem? (i := 20) rfl⟩
theorem ml_X9_98 : LkM RX9 98 yX6_forget := Or.inr ⟨_, List.mem_of_getElem? (i := 23) rfl⟩
theorem ml_X9_101 : LkM RX9 101 yX4_forget := Or.inr ⟨_, List.mem_of_getElem? (i := 24) rfl⟩
theorem ml_X9_102 : LkM RX9 102 yX0_empty := Or.inr ⟨_, List.mem_of_getElem? (i := 25) rfl⟩
theorem ml_X9_105 : LkM RX9 105 yX7_empty := Or.inr ⟨_, List.mem_of_getElem? (i := 26) rfl⟩
theorem ml_X9_125 : LkM RX9 125 yX1_today := Or.inr ⟨_, List.mem_of_getElem? (i := 27) rfl⟩
theorem ml_X9_129 : LkM RX9 129 yX1_setOf := Or.inr ⟨_, List.mem_of_getElem? (i := 28) rfl⟩
theorem ml_X9_138 : LkM RX9 138 yX5_isWinter := Or.inr ⟨_, List.mem_of_getElem? (i := 29) rfl⟩
theorem ml_X9_142 : LkM RX9 142 yX5_hasTown := Or.inr ⟨_, List.mem_of_getElem? (i := 30) rfl⟩
theorem ml_X9_146 : LkM RX9 146 yX5_distance := Or.inr ⟨_, List.mem_of_getElem? (i := 31) rfl⟩
theorem ml_X9_150 : LkM RX9 150 yX5_hasKeeper := Or.inr ⟨_, List.mem_of_getElem? (i := 32) rfl⟩
theorem ml_X9_153 : LkM RX9 153 yX1_townOf := Or.inr ⟨_, List.mem_of_getElem? (i := 33) rfl⟩
theorem ml_X9_160 : LkM RX9 160 yX9_at := Or.inl (inr_18 _ (List.mem_of_getElem? (i := 8) rfl))
theorem ml_X9_164 : LkM RX9 164 yX1_thereOn := Or.inr ⟨_, List.mem_of_getElem? (i := 34) rfl⟩
theorem ml_X9_167 : LkM RX9 167 yX1_heldBy := Or.inr ⟨_, List.mem_of_getElem? (i := 35) rfl⟩
theorem ml_X9_170 : LkM RX9 170 yX5_hasPromise := Or.inr ⟨_, List.mem_of_getElem? (i := 36) rfl⟩
theorem ml_X9_173 : LkM RX9 173 yX1_holderOf := Or.inr ⟨_, List.mem_of_getElem? (i := 37) rfl⟩
theorem ml_X9_191 : LkM RX9 191 yX1_how := Or.inr ⟨_, List.mem_of_getElem? (i := 38) rfl⟩
theorem ml_X9_194 : LkM RX9 194 yX1_ripeOn := Or.inr ⟨_, List.mem_of_getElem? (i := 39) rfl⟩
theorem ml_X9_197 : LkM RX9 197 yX1_endedOn := Or.inr ⟨_, List.mem_of_getElem? (i := 41) rfl⟩
theorem ml_X9_200 : LkM RX9 200 yX1_fellOn := Or.inr ⟨_, List.mem_of_getElem? (i := 42) rfl⟩
theorem ml_X9_203 : LkM RX9 203 yX1_depart := Or.inr ⟨_, List.mem_of_getElem? (i := 43) rfl⟩
theorem ml_X9_208 : LkM RX9 208 yX9_refusalOfDays := Or.inl (inr_23 _ (List.mem_of_getElem? (i := 2) rfl))
theorem ml_X9_211 : LkM RX9 211 yX9_endDay := Or.inl (inr_23 _ (List.mem_of_getElem? (i := 6) rfl))
theorem ml_X9_214 : LkM RX9 214 yX1_canKeep := Or.inr ⟨_, List.mem_of_getElem? (i := 50) rfl⟩
theorem ml_X9_217 : LkM RX9 217 yX1_end := Or.inr ⟨_, List.mem_of_getElem? (i := 51) rfl⟩
theorem ml_X9_221 : LkM RX9 221 yX1_isOpen := Or.inr ⟨_, List.mem_of_getElem? (i := 52) rfl⟩
theorem ml_X9_224 : LkM RX9 224 yX1_isRipe := Or.inr ⟨_, List.mem_of_getElem? (i := 53) rfl⟩
theorem ml_X9_227 : LkM RX9 227 yX1_lose := Or.inr ⟨_, List.mem_of_getElem? (i := 54) rfl⟩
theorem ml_X9_230 : LkM RX9 230 yX1_exchange := Or.inr ⟨_, List.mem_of_getElem? (i := 55) rfl⟩
theorem ml_X9_234 : LkM RX9 234 yX9_drawFor := Or.inl (inr_27 _ (List.mem_of_getElem? (i := 20) rfl))
theorem ml_X9_238 : LkM RX9 238 yX6_takeBack := Or.inr ⟨_, List.mem_of_getElem? (i := 58) rfl⟩
theorem ml_X9_242 : LkM RX9 242 yX9_refusalOfTrying := Or.inl (inr_29 _ (List.mem_of_getElem? (i := 17) rfl))
theorem ml_X9_245 : LkM RX9 245 yX1_openOf := Or.inr ⟨_, List.mem_of_getElem? (i := 59) rfl⟩
theorem ml_X9_248 : LkM RX9 248 yX8_canKeepAll := Or.inr ⟨_, List.mem_of_getElem? (i := 60) rfl⟩
theorem ml_X9_255 : LkM RX9 255 yX8_bestAt := Or.inr ⟨_, List.mem_of_getElem? (i := 70) rfl⟩
theorem ml_X9_258 : LkM RX9 258 yX1_onTheWay := Or.inr ⟨_, List.mem_of_getElem? (i := 56) rfl⟩
theorem ml_X9_261 : LkM RX9 261 yX8_firstClash := Or.inr ⟨_, List.mem_of_getElem? (i := 71) rfl⟩
theorem ml_X9_264 : LkM RX9 264 yX5_ripeDay := Or.inr ⟨_, List.mem_of_getElem? (i := 73) rfl⟩
theorem ml_X9_267 : LkM RX9 267 yX8_tryOne := Or.inr ⟨_, List.mem_of_getElem? (i := 74) rfl⟩
theorem ml_X9_270 : LkM RX9 270 yX3_fillFits := Or.inr ⟨_, List.mem_of_getElem? (i := 75) rfl⟩
theorem ml_X9_273 : LkM RX9 273 yX3_fewest := Or.inr ⟨_, List.mem_of_getElem? (i := 78) rfl⟩
theorem ml_X9_279 : LkM RX9 279 yX1_dueOn := Or.inr ⟨_, List.mem_of_getElem? (i := 85) rfl⟩
theorem ml_X9_282 : LkM RX9 282 yX9_dueOfAll := Or.inl (inr_37 _ (List.mem_of_getElem? (i := 3) rfl))
theorem ml_X9_289 : LkM RX9 289 yX1_sizesOf := Or.inr ⟨_, List.mem_of_getElem? (i := 86) rfl⟩
theorem ml_X9_292 : LkM RX9 292 yX9_firstOfFamily := Or.inl (inr_38 _ (List.mem_of_getElem? (i := 9) rfl))
theorem ml_X9_295 : LkM RX9 295 yX5_sizesIn := Or.inr ⟨_, List.mem_of_getElem? (i := 89) rfl⟩
theorem ml_X9_298 : LkM RX9 298 yX0_add := Or.inr ⟨_, List.mem_of_getElem? (i := 90) rfl⟩
theorem ml_X9_300 : LkM RX9 300 yX0_firstWrong := Or.inr ⟨_, List.mem_of_getElem? (i := 92) rfl⟩
theorem ml_X9_307 : LkM RX9 307 yX4_take := Or.inr ⟨_, List.mem_of_getElem? (i := 104) rfl⟩
theorem ml_X9_311 : LkM RX9 311 yX4_giveBack := Or.inr ⟨_, List.mem_of_getElem? (i := 108) rfl⟩
theorem ml_X9_315 : LkM RX9 315 yX6_add := Or.inr ⟨_, List.mem_of_getElem? (i := 45) rfl⟩
theorem ml_X9_318 : LkM RX9 318 yX1_pass := Or.inr ⟨_, List.mem_of_getElem? (i := 48) rfl⟩
theorem ml_X9_321 : LkM RX9 321 yX2_draw := Or.inr ⟨_, List.mem_of_getElem? (i := 57) rfl⟩
