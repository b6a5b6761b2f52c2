theorem zr_1 : ∀ w ∈ wsL_law0_r1, w ∈ wsL_law0 := fun _ h => List.mem_append_left _ (List.mem_append_left _ (List.mem_append_left _ (List.mem_append_left _ (List.mem_append_left _ (List.mem_append_left _ (List.mem_append_left _ (List.mem_append_left _ (List.mem_append_left _ (List.mem_append_left _ (List.mem_append_left _ (List.mem_append_left _ (List.mem_append_left _ (List.mem_append_left _ (h))))))))))))))
theorem zr_2 : ∀ w ∈ wsL_law0_r2, w ∈ wsL_law0 := fun _ h => List.mem_append_left _ (List.mem_append_left _ (List.mem_append_left _ (List.mem_append_left _ (List.mem_append_left _ (List.mem_append_left _ (List.mem_append_left _ (List.mem_append_left _ (List.mem_append_left _ (List.mem_append_left _ (List.mem_append_left _ (List.mem_append_left _ (List.mem_append_left _ (List.mem_append_right _ (List.mem_append_left _ (h)))))))))))))))
theorem zr_3 : ∀ w ∈ wsL_law0_r3, w ∈ wsL_law0 := fun _ h => List.mem_append_left _ (List.mem_append_left _ (List.mem_append_left _ (List.mem_append_left _ (List.mem_append_left _ (List.mem_append_left _ (List.mem_append_left _ (List.mem_append_left _ (List.mem_append_left _ (List.mem_append_left _ (List.mem_append_left _ (List.mem_append_left _ (List.mem_append_left _ (List.mem_append_right _ (List.mem_append_right _ (List.mem_append_left _ (h))))))))))))))))
theorem zr_4 : ∀ w ∈ wsL_law0_r4, w ∈ wsL_law0 := fun _ h => List.mem_append_left _ (List.mem_append_left _ (List.mem_append_left _ (List.mem_append_left _ (List.mem_append_left _ (List.mem_append_left _ (List.mem_append_left _ (List.mem_append_left _ (List.mem_append_left _ (List.mem_append_left _ (List.mem_append_left _ (List.mem_append_left _ (List.mem_append_left _ (List.mem_append_right _ (List.mem_append_right _ (List.mem_append_right _ (List.mem_append_left _ (h)))))))))))))))))
theorem zr_5 : ∀ w ∈ wsL_law0_r5, w ∈ wsL_law0 := fun _ h => List.mem_append_left _ (List.mem_append_left _ (List.mem_append_left _ (List.mem_append_left _ (List.mem_append_left _ (List.mem_append_left _ (List.mem_append_left _ (List.mem_append_left _ (List.mem_append_left _ (List.mem_append_left _ (List.mem_append_left _ (List.mem_append_left _ (List.mem_append_left _ (List.mem_append_right _ (List.mem_append_right _ (List.mem_append_right _ (List.mem_append_right _ (List.mem_append_left _ (h))))))))))))))))))
theorem zr_6 : ∀ w ∈ wsL_law0_r6, w ∈ wsL_law0 := fun _ h => List.mem_append_left _ (List.mem_append_left _ (List.mem_append_left _ (List.mem_append_left _ (List.mem_append_left _ (List.mem_append_left _ (List.mem_append_left _ (List.mem_append_left _ (List.mem_append_left _ (List.mem_append_left _ (List.mem_append_left _ (List.mem_append_left _ (List.mem_append_left _ (List.mem_append_right _ (List.mem_append_right _ (List.mem_append_right _ (List.mem_append_right _ (List.mem_append_right _ (List.mem_append_left _ (h)))))))))))))))))))
theorem zr_7 : ∀ w ∈ wsL_law0_r7, w ∈ wsL_law0 := fun _ h => List.mem_append_left _ (List.mem_append_left _ (List.mem_append_left _ (List.mem_append_left _ (List.mem_append_left _ (List.mem_append_left _ (List.mem_append_left _ (List.mem_append_left _ (List.mem_append_left _ (List.mem_append_left _ (List.mem_append_left _ (List.mem_append_left _ (List.mem_append_left _ (List.mem_append_right _ (List.mem_append_right _ (List.mem_append_right _ (List.mem_append_right _ (List.mem_append_right _ (List.mem_append_right _ (List.mem_append_left _ (h))))))))))))))))))))
theorem zr_8 : ∀ w ∈ wsL_law0_r8, w ∈ wsL_law0 := fun _ h => List.mem_append_left _ (List.mem_append_left _ (List.mem_append_left _ (List.mem_append_left _ (List.mem_append_left _ (List.mem_append_left _ (List.mem_append_left _ (List.mem_append_left _ (List.mem_append_left _ (List.mem_append_left _ (List.mem_append_left _ (List.mem_append_left _ (List.mem_append_left _ (List.mem_append_right _ (List.mem_append_right _ (List.mem_append_right _ (List.mem_append_right _ (List.mem_append_right _ (List.mem_append_right _ (List.mem_append_right _ (List.mem_append_left _ (h)))))))))))))))))))))
theorem zr_9 : ∀ w ∈ wsL_law0_r9, w ∈ wsL_law0 := fun _ h => List.mem_append_left _ (List.mem_append_left _ (List.mem_append_left _ (List.mem_append_left _ (List.mem_append_left _ (List.mem_append_left _ (List.mem_append_left _ (List.mem_append_left _ (List.mem_append_left _ (List.mem_append_left _ (List.mem_append_left _ (List.mem_append_left _ (List.mem_append_left _ (List.mem_append_right _ (List.mem_append_right _ (List.mem_append_right _ (List.mem_append_right _ (List.mem_append_right _ (List.mem_append_right _ (List.mem_append_right _ (List.mem_append_right _ (List.mem_append_left _ (h))))))))))))))))))))))
theorem zr_10 : ∀ w ∈ wsL_law0_r10, w ∈ wsL_law0 := fun _ h => List.mem_append_left _ (List.mem_append_left _ (List.mem_append_left _ (List.mem_append_left _ (List.mem_append_left _ (List.mem_append_left _ (List.mem_append_left _ (List.mem_append_left _ (List.mem_append_left _ (List.mem_append_left _ (List.mem_append_left _ (List.mem_append_left _ (List.mem_append_left _ (List.mem_append_right _ (List.mem_append_right _ (List.mem_append_right _ (List.mem_append_right _ (List.mem_append_right _ (List.mem_append_right _ (List.mem_append_right _ (List.mem_append_right _ (List.mem_append_right _ (List.mem_append_left _ (h)))))))))))))))))))))))
theorem zr_11 : ∀ w ∈ wsL_law0_r11, w ∈ wsL_law0 := fun _ h => List.mem_append_left _ (List.mem_append_left _ (List.mem_append_left _ (List.mem_append_left _ (List.mem_append_left _ (List.mem_append_left _ (List.mem_append_left _ (List.mem_append_left _ (List.mem_append_left _ (List.mem_append_left _ (List.mem_append_left _ (List.mem_append_left _ (List.mem_append_left _ (List.mem_append_right _ (List.mem_append_right _ (List.mem_append_right _ (List.mem_append_right _ (List.mem_append_right _ (List.mem_append_right _ (List.mem_append_right _ (List.mem_append_right _ (List.mem_append_right _ (List.mem_append_right _ (List.mem_append_left _ (h))))))))))))))))))))))))
theorem zr_12 : ∀ w ∈ wsL_law0_r12, w ∈ wsL_law0 := fun _ h => List.mem_append_left _ (List.mem_append_left _ (List.mem_append_left _ (List.mem_append_left _ (List.mem_append_left _ (List.mem_append_left _ (List.mem_append_left _ (List.mem_append_left _ (List.mem_append_left _ (List.mem_append_left _ (List.mem_append_left _ (List.mem_append_left _ (List.mem_append_left _ (List.mem_append_right _ (List.mem_append_right _ (List.mem_append_right _ (List.mem_append_right _ (List.mem_append_right _ (List.mem_append_right _ (List.mem_append_right _ (List.mem_append_right _ (List.mem_append_right _ (List.mem_append_right _ (List.mem_append_right _ (List.mem_append_left _ (h)))))))))))))))))))))))))
theorem zr_13 : ∀ w ∈ wsL_law0_r13, w ∈ wsL_law0 := fun _ h => List.mem_append_left _ (List.mem_append_left _ (List.mem_append_left _ (List.mem_append_left _ (List.mem_append_left _ (List.mem_append_left _ (List.mem_append_left _ (List.mem_append_left _ (List.mem_append_left _ (List.mem_append_left _ (List.mem_append_left _ (List.mem_append_left _ (List.mem_append_left _ (List.mem_append_right _ (List.mem_append_right _ (List.mem_append_right _ (List.mem_append_right _ (List.mem_append_right _ (List.mem_append_right _ (List.mem_append_right _ (List.mem_append_right _ (List.mem_append_right _ (List.mem_append_right _ (List.mem_append_right _ (List.mem_append_right _ (List.mem_append_left _ (h))))))))))))))))))))))))))
theorem zr_14 : ∀ w ∈ wsL_law0_r14, w ∈ wsL_law0 := fun _ h => List.mem_append_left _ (List.mem_append_left _ (List.mem_append_left _ (List.mem_append_left _ (List.mem_append_left _ (List.mem_append_left _ (List.mem_append_left _ (List.mem_append_left _ (List.mem_append_left _ (List.mem_append_left _ (List.mem_append_left _ (List.mem_append_left _ (List.mem_append_left _ (List.mem_append_right _ (List.mem_append_right _ (List.mem_append_right _ (List.mem_append_right _ (List.mem_append_right _ (List.mem_append_right _ (List.mem_append_right _ (List.mem_append_right _ (List.mem_append_right _ (List.mem_append_right _ (List.mem_append_right _ (List.mem_append_right _ (List.mem_append_right _ (List.mem_append_left _ (h)))))))))))))))))))))))))))
theorem zr_15 : ∀ w ∈ wsL_law0_r15, w ∈ wsL_law0 := fun _ h => List.mem_append_left _ (List.mem_append_left _ (List.mem_append_left _ (List.mem_append_left _ (List.mem_append_left _ (List.mem_append_left _ (List.mem_append_left _ (List.mem_append_left _ (List.mem_append_left _ (List.mem_append_left _ (List.mem_append_left _ (List.mem_append_left _ (List.mem_append_left _ (List.mem_append_right _ (List.mem_append_right _ (List.mem_append_right _ (List.mem_append_right _ (List.mem_append_right _ (List.mem_append_right _ (List.mem_append_right _ (List.mem_append_right _ (List.mem_append_right _ (List.mem_append_right _ (List.mem_append_right _ (List.mem_append_right _ (List.mem_append_right _ (List.mem_append_right _ (List.mem_append_left _ (h))))))))))))))))))))))))))))
theorem zr_16 : ∀ w ∈ wsL_law0_r16, w ∈ wsL_law0 := fun _ h => List.mem_append_left _ (List.mem_append_left _ (List.mem_append_left _ (List.mem_append_left _ (List.mem_append_left _ (List.mem_append_left _ (List.mem_append_left _ (List.mem_append_left _ (List.mem_append_left _ (List.mem_append_left _ (List.mem_append_left _ (List.mem_append_left _ (List.mem_append_left _ (List.mem_append_right _ (List.mem_append_right _ (List.mem_append_right _ (List.mem_append_right _ (List.mem_append_right _ (List.mem_append_right _ (List.mem_append_right _ (List.mem_append_right _ (List.mem_append_right _ (List.mem_append_right _ (List.mem_append_right _ (List.mem_append_right _ (List.mem_append_right _ (List.mem_append_right _ (List.mem_append_right _ (List.mem_append_left _ (h)))))))))))))))))))))))))))))
theorem zr_17 : ∀ w ∈ wsL_law0_r17, w ∈ wsL_law0 := fun _ h => List.mem_append_left _ (List.mem_append_left _ (List.mem_append_left _ (List.mem_append_left _ (List.mem_append_left _ (List.mem_append_left _ (List.mem_append_left _ (List.mem_append_left _ (List.mem_append_left _ (List.mem_append_left _ (List.mem_append_left _ (List.mem_append_left _ (List.mem_append_left _ (List.mem_append_right _ (List.mem_append_right _ (List.mem_append_right _ (List.mem_append_right _ (List.mem_append_right _ (List.mem_append_right _ (List.mem_append_right _ (List.mem_append_right _ (List.mem_append_right _ (List.mem_append_right _ (List.mem_append_right _ (List.mem_append_right _ (List.mem_append_right _ (List.mem_append_right _ (List.mem_append_right _ (List.mem_append_right _ (List.mem_append_left _ (h))))))))))))))))))))))))))))))
theorem zr_18 : ∀ w ∈ wsL_law0_r18, w ∈ wsL_law0 := fun _ h => List.mem_append_left _ (List.mem_append_left _ (List.mem_append_left _ (List.mem_append_left _ (List.mem_append_left _ (List.mem_append_left _ (List.mem_append_left _ (List.mem_append_left _ (List.mem_append_left _ (List.mem_append_left _ (List.mem_append_left _ (List.mem_append_left _ (List.mem_append_left _ (List.mem_append_right _ (List.mem_append_right _ (List.mem_append_right _ (List.mem_append_right _ (List.mem_append_right _ (List.mem_append_right _ (List.mem_append_right _ (List.mem_append_right _ (List.mem_append_right _ (List.mem_append_right _ (List.mem_append_right _ (List.mem_append_right _ (List.mem_append_right _ (List.mem_append_right _ (List.mem_append_right _ (List.mem_append_right _ (List.mem_append_right _ (List.mem_append_left _ (h)))))))))))))))))))))))))))))))
theorem zr_19 : ∀ w ∈ wsL_law0_r19, w ∈ wsL_law0 := fun _ h => List.mem_append_left _ (List.mem_append_left _ (List.mem_append_left _ (List.mem_append_left _ (List.mem_append_left _ (List.mem_append_left _ (List.mem_append_left _ (List.mem_append_left _ (List.mem_append_left _ (List.mem_append_left _ (List.mem_append_left _ (List.mem_append_left _ (List.mem_append_left _ (List.mem_append_right _ (List.mem_append_right _ (List.mem_append_right _ (List.mem_append_right _ (List.mem_append_right _ (List.mem_append_right _ (List.mem_append_right _ (List.mem_append_right _ (List.mem_append_right _ (List.mem_append_right _ (List.mem_append_right _ (List.mem_append_right _ (List.mem_append_right _ (List.mem_append_right _ (List.mem_append_right _ (List.mem_append_right _ (List.mem_append_right _ (List.mem_append_right _ (List.mem_append_left _ (h))))))))))))))))))))))))))))))))
theorem zr_20 : ∀ w ∈ wsL_law0_r20, w ∈ wsL_law0 := fun _ h => List.mem_append_left _ (List.mem_append_left _ (List.mem_append_left _ (List.mem_append_left _ (List.mem_append_left _ (List.mem_append_left _ (List.mem_append_left _ (List.mem_append_left _ (List.mem_append_left _ (List.mem_append_left _ (List.mem_append_left _ (List.mem_append_left _ (List.mem_append_left _ (List.mem_append_right _ (List.mem_append_right _ (List.mem_append_right _ (List.mem_append_right _ (List.mem_append_right _ (List.mem_append_right _ (List.mem_append_right _ (List.mem_append_right _ (List.mem_append_right _ (List.mem_append_right _ (List.mem_append_right _ (List.mem_append_right _ (List.mem_append_right _ (List.mem_append_right _ (List.mem_append_right _ (List.mem_append_right _ (List.mem_append_right _ (List.mem_append_right _ (List.mem_append_right _ (List.mem_append_left _ (h)))))))))))))))))))))))))))))))))
theorem zr_21 : ∀ w ∈ wsL_law0_r21, w ∈ wsL_law0 := fun _ h => List.mem_append_left _ (List.mem_append_left _ (List.mem_append_left _ (List.mem_append_left _ (List.mem_append_left _ (List.mem_append_left _ (List.mem_append_left _ (List.mem_append_left _ (List.mem_append_left _ (List.mem_append_left _ (List.mem_append_left _ (List.mem_append_left _ (List.mem_append_left _ (List.mem_append_right _ (List.mem_append_right _ (List.mem_append_right _ (List.mem_append_right _ (List.mem_append_right _ (List.mem_append_right _ (List.mem_append_right _ (List.mem_append_right _ (List.mem_append_right _ (List.mem_append_right _ (List.mem_append_right _ (List.mem_append_right _ (List.mem_append_right _ (List.mem_append_right _ (List.mem_append_right _ (List.mem_append_right _ (List.mem_append_right _ (List.mem_append_right _ (List.mem_append_right _ (List.mem_append_right _ (List.mem_append_left _ (h))))))))))))))))))))))))))))))))))
theorem zr_22 : ∀ w ∈ wsL_law0_r22, w ∈ wsL_law0 := fun _ h => List.mem_append_left _ (List.mem_append_left _ (List.mem_append_left _ (List.mem_append_left _ (List.mem_append_left _ (List.mem_append_left _ (List.mem_append_left _ (List.mem_append_left _ (List.mem_append_left _ (List.mem_append_left _ (List.mem_append_left _ (List.mem_append_left _ (List.mem_append_left _ (List.mem_append_right _ (List.mem_append_right _ (List.mem_append_right _ (List.mem_append_right _ (List.mem_append_right _ (List.mem_append_right _ (List.mem_append_right _ (List.mem_append_right _ (List.mem_append_right _ (List.mem_append_right _ (List.mem_append_right _ (List.mem_append_right _ (List.mem_append_right _ (List.mem_append_right _ (List.mem_append_right _ (List.mem_append_right _ (List.mem_append_right _ (List.mem_append_right _ (List.mem_append_right _ (List.mem_append_right _ (List.mem_append_right _ (List.mem_append_left _ (h)))))))))))))))))))))))))))))))))))
theorem zr_23 : ∀ w ∈ wsL_law0_r23, w ∈ wsL_law0 := fun _ h => List.mem_append_left _ (List.mem_append_left _ (List.mem_append_left _ (List.mem_append_left _ (List.mem_append_left _ (List.mem_append_left _ (List.mem_append_left _ (List.mem_append_left _ (List.mem_append_left _ (List.mem_append_left _ (List.mem_append_left _ (List.mem_append_left _ (List.mem_append_left _ (List.mem_append_right _ (List.mem_append_right _ (List.mem_append_right _ (List.mem_append_right _ (List.mem_append_right _ (List.mem_append_right _ (List.mem_append_right _ (List.mem_append_right _ (List.mem_append_right _ (List.mem_append_right _ (List.mem_append_right _ (List.mem_append_right _ (List.mem_append_right _ (List.mem_append_right _ (List.mem_append_right _ (List.mem_append_right _ (List.mem_append_right _ (List.mem_append_right _ (List.mem_append_right _ (List.mem_append_right _ (List.mem_append_right _ (List.mem_append_right _ (List.mem_append_left _ (h))))))))))))))))))))))))))))))))))))
theorem zr_24 : ∀ w ∈ wsL_law0_r24, w ∈ wsL_law0 := fun _ h => List.mem_append_left _ (List.mem_append_left _ (List.mem_append_left _ (List.mem_append_left _ (List.mem_append_left _ (List.mem_append_left _ (List.mem_append_left _ (List.mem_append_left _ (List.mem_append_left _ (List.mem_append_left _ (List.mem_append_left _ (List.mem_append_left _ (List.mem_append_left _ (List.mem_append_right _ (List.mem_append_right _ (List.mem_append_right _ (List.mem_append_right _ (List.mem_append_right _ (List.mem_append_right _ (List.mem_append_right _ (List.mem_append_right _ (List.mem_append_right _ (List.mem_append_right _ (List.mem_append_right _ (List.mem_append_right _ (List.mem_append_right _ (List.mem_append_right _ (List.mem_append_right _ (List.mem_append_right _ (List.mem_append_right _ (List.mem_append_right _ (List.mem_append_right _ (List.mem_append_right _ (List.mem_append_right _ (List.mem_append_right _ (List.mem_append_right _ (List.mem_append_left _ (h)))))))))))))))))))))))))))))))))))))
theorem zr_25 : ∀ w ∈ wsL_law0_r25, w ∈ wsL_law0 := fun _ h => List.mem_append_left _ (List.mem_append_left _ (List.mem_append_left _ (List.mem_append_left _ (List.mem_append_left _ (List.mem_append_left _ (List.mem_append_left _ (List.mem_append_left _ (List.mem_append_left _ (List.mem_append_left _ (List.mem_append_left _ (List.mem_append_left _ (List.mem_append_left _ (List.mem_append_right _ (List.mem_append_right _ (List.mem_append_right _ (List.mem_append_right _ (List.mem_append_right _ (List.mem_append_right _ (List.mem_append_right _ (List.mem_append_right _ (List.mem_append_right _ (List.mem_append_right _ (List.mem_append_right _ (List.mem_append_right _ (List.mem_append_right _ (List.mem_append_right _ (List.mem_append_right _ (List.mem_append_right _ (List.mem_append_right _ (List.mem_append_right _ (List.mem_append_right _ (List.mem_append_right _ (List.mem_append_right _ (List.mem_append_right _ (List.mem_append_right _ (List.mem_append_right _ (List.mem_append_left _ (h))))))))))))))))))))))))))))))))))))))
theorem zr_26 : ∀ w ∈ wsL_law0_r26, w ∈ wsL_law0 := fun _ h => List.mem_append_left _ (List.mem_append_left _ (List.mem_append_left _ (List.mem_append_left _ (List.mem_append_left _ (List.mem_append_left _ (List.mem_append_left _ (List.mem_append_left _ (List.mem_append_left _ (List.mem_append_left _ (List.mem_append_left _ (List.mem_append_left _ (List.mem_append_left _ (List.mem_append_right _ (List.mem_append_right _ (List.mem_append_right _ (List.mem_append_right _ (List.mem_append_right _ (List.mem_append_right _ (List.mem_append_right _ (List.mem_append_right _ (List.mem_append_right _ (List.mem_append_right _ (List.mem_append_right _ (List.mem_append_right _ (List.mem_append_right _ (List.mem_append_right _ (List.mem_append_right _ (List.mem_append_right _ (List.mem_append_right _ (List.mem_append_right _ (List.mem_append_right _ (List.mem_append_right _ (List.mem_append_right _ (List.mem_append_right _ (List.mem_append_right _ (List.mem_append_right _ (List.mem_append_right _ (List.mem_append_left _ (h)))))))))))))))))))))))))))))))))))))))
theorem zr_27 : ∀ w ∈ wsL_law0_r27, w ∈ wsL_law0 := fun _ h => List.mem_append_left _ (List.mem_append_left _ (List.mem_append_left _ (List.mem_append_left _ (List.mem_append_left _ (List.mem_append_left _ (List.mem_append_left _ (List.mem_append_left _ (List.mem_append_left _ (List.mem_append_left _ (List.mem_append_left _ (List.mem_append_left _ (List.mem_append_left _ (List.mem_append_right _ (List.mem_append_right _ (List.mem_append_right _ (List.mem_append_right _ (List.mem_append_right _ (List.mem_append_right _ (List.mem_append_right _ (List.mem_append_right _ (List.mem_append_right _ (List.mem_append_right _ (List.mem_append_right _ (List.mem_append_right _ (List.mem_append_right _ (List.mem_append_right _ (List.mem_append_right _ (List.mem_append_right _ (List.mem_append_right _ (List.mem_append_right _ (List.mem_append_right _ (List.mem_append_right _ (List.mem_append_right _ (List.mem_append_right _ (List.mem_append_right _ (List.mem_append_right _ (List.mem_append_right _ (List.mem_append_right _ (List.mem_append_left _ (h))))))))))))))))))))))))))))))))))))))))
theorem zr_28 : ∀ w ∈ wsL_law0_r28, w ∈ wsL_law0 := fun _ h => List.mem_append_left _ (List.mem_append_left _ (List.mem_append_left _ (List.mem_append_left _ (List.mem_append_left _ (List.mem_append_left _ (List.mem_append_left _ (List.mem_append_left _ (List.mem_append_left _ (List.mem_append_left _ (List.mem_append_left _ (List.mem_append_left _ (List.mem_append_left _ (List.mem_append_right _ (List.mem_append_right _ (List.mem_append_right _ (List.mem_append_right _ (List.mem_append_right _ (List.mem_append_right _ (List.mem_append_right _ (List.mem_append_right _ (List.mem_append_right _ (List.mem_append_right _ (List.mem_append_right _ (List.mem_append_right _ (List.mem_append_right _ (List.mem_append_right _ (List.mem_append_right _ (List.mem_append_right _ (List.mem_append_right _ (List.mem_append_right _ (List.mem_append_right _ (List.mem_append_right _ (List.mem_append_right _ (List.mem_append_right _ (List.mem_append_right _ (List.mem_append_right _ (List.mem_append_right _ (List.mem_append_right _ (List.mem_append_right _ (List.mem_append_left _ (h)))))))))))))))))))))))))))))))))))))))))
theorem zr_29 : ∀ w ∈ wsL_law0_r29, w ∈ wsL_law0 := fun _ h => List.mem_append_left _ (List.mem_append_left _ (List.mem_append_left _ (List.mem_append_left _ (List.mem_append_left _ (List.mem_append_left _ (List.mem_append_left _ (List.mem_append_left _ (List.mem_append_left _ (List.mem_append_left _ (List.mem_append_left _ (List.mem_append_left _ (List.mem_append_left _ (List.mem_append_right _ (List.mem_append_right _ (List.mem_append_right _ (List.mem_append_right _ (List.mem_append_right _ (List.mem_append_right _ (List.mem_append_right _ (List.mem_append_right _ (List.mem_append_right _ (List.mem_append_right _ (List.mem_append_right _ (List.mem_append_right _ (List.mem_append_right _ (List.mem_append_right _ (List.mem_append_right _ (List.mem_append_right _ (List.mem_append_right _ (List.mem_append_right _ (List.mem_append_right _ (List.mem_append_right _ (List.mem_append_right _ (List.mem_append_right _ (List.mem_append_right _ (List.mem_append_right _ (List.mem_append_right _ (List.mem_append_right _ (List.mem_append_right _ (List.mem_append_right _ (List.mem_append_left _ (h))))))))))))))))))))))))))))))))))))))))))
theorem zr_30 : ∀ w ∈ wsL_law0_r30, w ∈ wsL_law0 := fun _ h => List.mem_append_left _ (List.mem_append_left _ (List.mem_append_left _ (List.mem_append_left _ (List.mem_append_left _ (List.mem_append_left _ (List.mem_append_left _ (List.mem_append_left _ (List.mem_append_left _ (List.mem_append_left _ (List.mem_append_left _ (List.mem_append_left _ (List.mem_append_left _ (List.mem_append_right _ (List.mem_append_right _ (List.mem_append_right _ (List.mem_append_right _ (List.mem_append_right _ (List.mem_append_right _ (List.mem_append_right _ (List.mem_append_right _ (List.mem_append_right _ (List.mem_append_right _ (List.mem_append_right _ (List.mem_append_right _ (List.mem_append_right _ (List.mem_append_right _ (List.mem_append_right _ (List.mem_append_right _ (List.mem_append_right _ (List.mem_append_right _ (List.mem_append_right _ (List.mem_append_right _ (List.mem_append_right _ (List.mem_append_right _ (List.mem_append_right _ (List.mem_append_right _ (List.mem_append_right _ (List.mem_append_right _ (List.mem_append_right _ (List.mem_append_right _ (List.mem_append_right _ (List.mem_append_left _ (h)))))))))))))))))))))))))))))))))))))))))))
theorem zr_31 : ∀ w ∈ wsL_law0_r31, w ∈ wsL_law0 := fun _ h => List.mem_append_left _ (List.mem_append_left _ (List.mem_append_left _ (List.mem_append_left _ (List.mem_append_left _ (List.mem_append_left _ (List.mem_append_left _ (List.mem_append_left _ (List.mem_append_left _ (List.mem_append_left _ (List.mem_append_left _ (List.mem_append_left _ (List.mem_append_left _ (List.mem_append_right _ (List.mem_append_right _ (List.mem_append_right _ (List.mem_append_right _ (List.mem_append_right _ (List.mem_append_right _ (List.mem_append_right _ (List.mem_append_right _ (List.mem_append_right _ (List.mem_append_right _ (List.mem_append_right _ (List.mem_append_right _ (List.mem_append_right _ (List.mem_append_right _ (List.mem_append_right _ (List.mem_append_right _ (List.mem_append_right _ (List.mem_append_right _ (List.mem_append_right _ (List.mem_append_right _ (List.mem_append_right _ (List.mem_append_right _ (List.mem_append_right _ (List.mem_append_right _ (List.mem_append_right _ (List.mem_append_right _ (List.mem_append_right _ (List.mem_append_right _ (List.mem_append_right _ (List.mem_append_right _ (List.mem_append_left _ (h))))))))))))))))))))))))))))))))))))))))))))
theorem zr_32 : ∀ w ∈ wsL_law0_r32, w ∈ wsL_law0 := fun _ h => List.mem_append_left _ (List.mem_append_left _ (List.mem_append_left _ (List.mem_append_left _ (List.mem_append_left _ (List.mem_append_left _ (List.mem_append_left _ (List.mem_append_left _ (List.mem_append_left _ (List.mem_append_left _ (List.mem_append_left _ (List.mem_append_left _ (List.mem_append_left _ (List.mem_append_right _ (List.mem_append_right _ (List.mem_append_right _ (List.mem_append_right _ (List.mem_append_right _ (List.mem_append_right _ (List.mem_append_right _ (List.mem_append_right _ (List.mem_append_right _ (List.mem_append_right _ (List.mem_append_right _ (List.mem_append_right _ (List.mem_append_right _ (List.mem_append_right _ (List.mem_append_right _ (List.mem_append_right _ (List.mem_append_right _ (List.mem_append_right _ (List.mem_append_right _ (List.mem_append_right _ (List.mem_append_right _ (List.mem_append_right _ (List.mem_append_right _ (List.mem_append_right _ (List.mem_append_right _ (List.mem_append_right _ (List.mem_append_right _ (List.mem_append_right _ (List.mem_append_right _ (List.mem_append_right _ (List.mem_append_right _ (List.mem_append_left _ (h)))))))))))))))))))))))))))))))))))))))))))))
theorem zr_33 : ∀ w ∈ wsL_law0_r33, w ∈ wsL_law0 := fun _ h => List.mem_append_left _ (List.mem_append_left _ (List.mem_append_left _ (List.mem_append_left _ (List.mem_append_left _ (List.mem_append_left _ (List.mem_append_left _ (List.mem_append_left _ (List.mem_append_left _ (List.mem_append_left _ (List.mem_append_left _ (List.mem_append_left _ (List.mem_append_left _ (List.mem_append_right _ (List.mem_append_right _ (List.mem_append_right _ (List.mem_append_right _ (List.mem_append_right _ (List.mem_append_right _ (List.mem_append_right _ (List.mem_append_right _ (List.mem_append_right _ (List.mem_append_right _ (List.mem_append_right _ (List.mem_append_right _ (List.mem_append_right _ (List.mem_append_right _ (List.mem_append_right _ (List.mem_append_right _ (List.mem_append_right _ (List.mem_append_right _ (List.mem_append_right _ (List.mem_append_right _ (List.mem_append_right _ (List.mem_append_right _ (List.mem_append_right _ (List.mem_append_right _ (List.mem_append_right _ (List.mem_append_right _ (List.mem_append_right _ (List.mem_append_right _ (List.mem_append_right _ (List.mem_append_right _ (List.mem_append_right _ (List.mem_append_right _ (List.mem_append_left _ (h))))))))))))))))))))))))))))))))))))))))))))))
theorem zr_34 : ∀ w ∈ wsL_law0_r34, w ∈ wsL_law0 := fun _ h => List.mem_append_left _ (List.mem_append_left _ (List.mem_append_left _ (List.mem_append_left _ (List.mem_append_left _ (List.mem_append_left _ (List.mem_append_left _ (List.mem_append_left _ (List.mem_append_left _ (List.mem_append_left _ (List.mem_append_left _ (List.mem_append_left _ (List.mem_append_left _ (List.mem_append_right _ (List.mem_append_right _ (List.mem_append_right _ (List.mem_append_right _ (List.mem_append_right _ (List.mem_append_right _ (List.mem_append_right _ (List.mem_append_right _ (List.mem_append_right _ (List.mem_append_right _ (List.mem_append_right _ (List.mem_append_right _ (List.mem_append_right _ (List.mem_append_right _ (List.mem_append_right _ (List.mem_append_right _ (List.mem_append_right _ (List.mem_append_right _ (List.mem_append_right _ (List.mem_append_right _ (List.mem_append_right _ (List.mem_append_right _ (List.mem_append_right _ (List.mem_append_right _ (List.mem_append_right _ (List.mem_append_right _ (List.mem_append_right _ (List.mem_append_right _ (List.mem_append_right _ (List.mem_append_right _ (List.mem_append_right _ (List.mem_append_right _ (List.mem_append_right _ (h))))))))))))))))))))))))))))))))))))))))))))))
theorem zw_1_2 : Cond.initialized RX11 ∈ wsL_law0 := zr_1 _ (List.mem_of_getElem? (i := 2) rfl)
theorem zw_1_5 : Cond.initialized RX12 ∈ wsL_law0 := zr_1 _ (List.mem_of_getElem? (i := 5) rfl)
theorem zw_1_10 : Cond.methodLink RX11 1 objectInit ∈ wsL_law0 := zr_1 _ (List.mem_of_getElem? (i := 10) rfl)
theorem zw_1_11 : Cond.instanceMethod objectInit ∈ wsL_law0 := zr_1 _ (List.mem_of_getElem? (i := 11) rfl)
theorem zw_1_12 : Cond.code objectInit ⟨#[0xb1]⟩ 1 none ∈ wsL_law0 := zr_1 _ (List.mem_of_getElem? (i := 12) rfl)
theorem zw_1_13 : Cond.classLink RX11 7 RX8 ∈ wsL_law0 := zr_1 _ (List.mem_of_getElem? (i := 13) rfl)
theorem zw_1_14 : Cond.instantiable RX8 1 ∈ wsL_law0 := zr_1 _ (List.mem_of_getElem? (i := 14) rfl)
theorem zw_1_15 : Cond.initialized RX8 ∈ wsL_law0 := zr_1 _ (List.mem_of_getElem? (i := 15) rfl)
theorem zw_1_16 : Cond.classLink RX11 10 RX1 ∈ wsL_law0 := zr_1 _ (List.mem_of_getElem? (i := 16) rfl)
theorem zw_1_17 : Cond.instantiable RX1 2 ∈ wsL_law0 := zr_1 _ (List.mem_of_getElem? (i := 17) rfl)
theorem zw_1_18 : Cond.initialized RX1 ∈ wsL_law0 := zr_1 _ (List.mem_of_getElem? (i := 18) rfl)
theorem zw_1_19 : Cond.fieldLink RX11 17 "FrameReel" "tape" "LFrameReel$Bytes;" ∈ wsL_law0 := zr_1 _ (List.mem_of_getElem? (i := 19) rfl)
theorem zw_1_20 : Cond.classLink RX11 21 RX4 ∈ wsL_law0 := zr_1 _ (List.mem_of_getElem? (i := 20) rfl)
theorem zw_1_21 : Cond.instantiable RX4 11 ∈ wsL_law0 := zr_1 _ (List.mem_of_getElem? (i := 21) rfl)
theorem zw_1_22 : Cond.initialized RX4 ∈ wsL_law0 := zr_1 _ (List.mem_of_getElem? (i := 22) rfl)
theorem zw_1_23 : Cond.fieldLink RX11 26 "FrameReel" "reader" "LFrameReel$Reader;" ∈ wsL_law0 := zr_1 _ (List.mem_of_getElem? (i := 23) rfl)
theorem zw_2_0 : Cond.classLink RX11 30 RX10 ∈ wsL_law0 := zr_2 _ (List.mem_of_getElem? (i := 0) rfl)
theorem zw_2_1 : Cond.instantiable RX10 4 ∈ wsL_law0 := zr_2 _ (List.mem_of_getElem? (i := 1) rfl)
theorem zw_2_2 : Cond.initialized RX10 ∈ wsL_law0 := zr_2 _ (List.mem_of_getElem? (i := 2) rfl)
theorem zw_2_3 : Cond.fieldLink RX11 35 "FrameReel" "writer" "LFrameReel$Writer;" ∈ wsL_law0 := zr_2 _ (List.mem_of_getElem? (i := 3) rfl)
theorem zw_2_4 : Cond.classLink RX11 39 RX7 ∈ wsL_law0 := zr_2 _ (List.mem_of_getElem? (i := 4) rfl)
theorem zw_2_5 : Cond.instantiable RX7 4 ∈ wsL_law0 := zr_2 _ (List.mem_of_getElem? (i := 5) rfl)
theorem zw_2_6 : Cond.initialized RX7 ∈ wsL_law0 := zr_2 _ (List.mem_of_getElem? (i := 6) rfl)
theorem zw_2_7 : Cond.fieldLink RX11 42 "FrameReel" "screen" "LFrameReel$Screen;" ∈ wsL_law0 := zr_2 _ (List.mem_of_getElem? (i := 7) rfl)
theorem zw_2_8 : Cond.classLink RX11 46 RX5 ∈ wsL_law0 := zr_2 _ (List.mem_of_getElem? (i := 8) rfl)
theorem zw_2_9 : Cond.instantiable RX5 8 ∈ wsL_law0 := zr_2 _ (List.mem_of_getElem? (i := 9) rfl)
theorem zw_2_10 : Cond.initialized RX5 ∈ wsL_law0 := zr_2 _ (List.mem_of_getElem? (i := 10) rfl)
theorem zw_2_11 : Cond.fieldLink RX11 49 "FrameReel" "reel" "LFrameReel$Reel;" ∈ wsL_law0 := zr_2 _ (List.mem_of_getElem? (i := 11) rfl)
theorem zw_2_12 : Cond.fieldLink RX11 53 "FrameReel" "faultPlace" "I" ∈ wsL_law0 := zr_2 _ (List.mem_of_getElem? (i := 12) rfl)
theorem zw_2_13 : Cond.methodLink RX11 9 yX8_init ∈ wsL_law0 := zr_2 _ (List.mem_of_getElem? (i := 13) rfl)
theorem zw_2_14 : Cond.instanceMethod yX8_init ∈ wsL_law0 := zr_2 _ (List.mem_of_getElem? (i := 14) rfl)
theorem zw_2_15 : Cond.code yX8_init cX8_init 4 none ∈ wsL_law0 := zr_2 _ (List.mem_of_getElem? (i := 15) rfl)
theorem zw_2_16 : Cond.methodLink RX8 1 objectInit ∈ wsL_law0 := zr_2 _ (List.mem_of_getElem? (i := 16) rfl)
theorem zw_2_17 : Cond.arrayClass .int ∈ wsL_law0 := zr_2 _ (List.mem_of_getElem? (i := 17) rfl)
theorem zw_2_18 : Cond.fieldLink RX8 7 "FrameReel$Sums" "table" "[I" ∈ wsL_law0 := zr_2 _ (List.mem_of_getElem? (i := 18) rfl)
theorem zw_2_19 : Cond.constant RX8 13 (-306674912) ∈ wsL_law0 := zr_2 _ (List.mem_of_getElem? (i := 19) rfl)
theorem zw_2_20 : Cond.methodLink RX11 14 yX1_init ∈ wsL_law0 := zr_2 _ (List.mem_of_getElem? (i := 20) rfl)
theorem zw_2_21 : Cond.instanceMethod yX1_init ∈ wsL_law0 := zr_2 _ (List.mem_of_getElem? (i := 21) rfl)
theorem zw_2_22 : Cond.code yX1_init cX1_init 2 none ∈ wsL_law0 := zr_2 _ (List.mem_of_getElem? (i := 22) rfl)
theorem zw_2_23 : Cond.methodLink RX1 3 objectInit ∈ wsL_law0 := zr_2 _ (List.mem_of_getElem? (i := 23) rfl)
theorem zw_3_0 : Cond.arrayClass .byte ∈ wsL_law0 := zr_3 _ (List.mem_of_getElem? (i := 0) rfl)
theorem zw_3_1 : Cond.fieldLink RX1 9 "FrameReel$Bytes" "cells" "[B" ∈ wsL_law0 := zr_3 _ (List.mem_of_getElem? (i := 1) rfl)
theorem zw_3_2 : Cond.methodLink RX11 23 yX4_init ∈ wsL_law0 := zr_3 _ (List.mem_of_getElem? (i := 2) rfl)
theorem zw_3_3 : Cond.instanceMethod yX4_init ∈ wsL_law0 := zr_3 _ (List.mem_of_getElem? (i := 3) rfl)
theorem zw_3_4 : Cond.code yX4_init cX4_init 3 none ∈ wsL_law0 := zr_3 _ (List.mem_of_getElem? (i := 4) rfl)
theorem zw_3_5 : Cond.methodLink RX4 3 objectInit ∈ wsL_law0 := zr_3 _ (List.mem_of_getElem? (i := 5) rfl)
theorem zw_3_6 : Cond.classLink RX4 9 RX9 ∈ wsL_law0 := zr_3 _ (List.mem_of_getElem? (i := 6) rfl)
theorem zw_3_7 : Cond.instantiable RX9 9 ∈ wsL_law0 := zr_3 _ (List.mem_of_getElem? (i := 7) rfl)
theorem zw_3_8 : Cond.initialized RX9 ∈ wsL_law0 := zr_3 _ (List.mem_of_getElem? (i := 8) rfl)
theorem zw_3_9 : Cond.fieldLink RX4 12 "FrameReel$Reader" "unpacker" "LFrameReel$Unpacker;" ∈ wsL_law0 := zr_3 _ (List.mem_of_getElem? (i := 9) rfl)
theorem zw_3_10 : Cond.classLink RX4 18 RX5 ∈ wsL_law0 := zr_3 _ (List.mem_of_getElem? (i := 10) rfl)
theorem zw_3_11 : Cond.fieldLink RX4 21 "FrameReel$Reader" "reel" "LFrameReel$Reel;" ∈ wsL_law0 := zr_3 _ (List.mem_of_getElem? (i := 11) rfl)
theorem zw_3_12 : Cond.fieldLink RX4 29 "FrameReel$Reader" "picture" "LFrameReel$Picture;" ∈ wsL_law0 := zr_3 _ (List.mem_of_getElem? (i := 12) rfl)
theorem zw_3_13 : Cond.fieldLink RX4 32 "FrameReel$Reader" "tape" "LFrameReel$Bytes;" ∈ wsL_law0 := zr_3 _ (List.mem_of_getElem? (i := 13) rfl)
theorem zw_3_14 : Cond.fieldLink RX4 36 "FrameReel$Reader" "sums" "LFrameReel$Sums;" ∈ wsL_law0 := zr_3 _ (List.mem_of_getElem? (i := 14) rfl)
theorem zw_3_15 : Cond.instanceMethod yX9_init ∈ wsL_law0 := zr_3 _ (List.mem_of_getElem? (i := 15) rfl)
theorem zw_3_16 : Cond.code yX9_init cX9_init 1 none ∈ wsL_law0 := zr_3 _ (List.mem_of_getElem? (i := 16) rfl)
theorem zw_3_17 : Cond.methodLink RX9 3 objectInit ∈ wsL_law0 := zr_3 _ (List.mem_of_getElem? (i := 17) rfl)
theorem zw_3_18 : Cond.classLink RX9 9 RX1 ∈ wsL_law0 := zr_3 _ (List.mem_of_getElem? (i := 18) rfl)
theorem zw_3_19 : Cond.fieldLink RX9 14 "FrameReel$Unpacker" "packed" "LFrameReel$Bytes;" ∈ wsL_law0 := zr_3 _ (List.mem_of_getElem? (i := 19) rfl)
theorem zw_3_20 : Cond.fieldLink RX9 20 "FrameReel$Unpacker" "raw" "LFrameReel$Bytes;" ∈ wsL_law0 := zr_3 _ (List.mem_of_getElem? (i := 20) rfl)
theorem zw_3_21 : Cond.classLink RX9 23 RX0 ∈ wsL_law0 := zr_3 _ (List.mem_of_getElem? (i := 21) rfl)
theorem zw_3_22 : Cond.instantiable RX0 2 ∈ wsL_law0 := zr_3 _ (List.mem_of_getElem? (i := 22) rfl)
theorem zw_3_23 : Cond.initialized RX0 ∈ wsL_law0 := zr_3 _ (List.mem_of_getElem? (i := 23) rfl)
theorem zw_4_0 : Cond.fieldLink RX9 28 "FrameReel$Unpacker" "bits" "LFrameReel$Bits;" ∈ wsL_law0 := zr_4 _ (List.mem_of_getElem? (i := 0) rfl)
theorem zw_4_1 : Cond.classLink RX9 32 RX2 ∈ wsL_law0 := zr_4 _ (List.mem_of_getElem? (i := 1) rfl)
theorem zw_4_2 : Cond.instantiable RX2 4 ∈ wsL_law0 := zr_4 _ (List.mem_of_getElem? (i := 2) rfl)
theorem zw_4_3 : Cond.initialized RX2 ∈ wsL_law0 := zr_4 _ (List.mem_of_getElem? (i := 3) rfl)
theorem zw_4_4 : Cond.fieldLink RX9 35 "FrameReel$Unpacker" "tellers" "LFrameReel$Codes;" ∈ wsL_law0 := zr_4 _ (List.mem_of_getElem? (i := 4) rfl)
theorem zw_4_5 : Cond.fieldLink RX9 39 "FrameReel$Unpacker" "symbols" "LFrameReel$Codes;" ∈ wsL_law0 := zr_4 _ (List.mem_of_getElem? (i := 5) rfl)
theorem zw_4_6 : Cond.fieldLink RX9 42 "FrameReel$Unpacker" "distances" "LFrameReel$Codes;" ∈ wsL_law0 := zr_4 _ (List.mem_of_getElem? (i := 6) rfl)
theorem zw_4_7 : Cond.fieldLink RX9 45 "FrameReel$Unpacker" "lengths" "[I" ∈ wsL_law0 := zr_4 _ (List.mem_of_getElem? (i := 7) rfl)
theorem zw_4_8 : Cond.methodLink RX9 11 yX1_init ∈ wsL_law0 := zr_4 _ (List.mem_of_getElem? (i := 8) rfl)
theorem zw_4_9 : Cond.methodLink RX9 25 yX0_init ∈ wsL_law0 := zr_4 _ (List.mem_of_getElem? (i := 9) rfl)
theorem zw_4_10 : Cond.instanceMethod yX0_init ∈ wsL_law0 := zr_4 _ (List.mem_of_getElem? (i := 10) rfl)
theorem zw_4_11 : Cond.code yX0_init cX0_init 2 none ∈ wsL_law0 := zr_4 _ (List.mem_of_getElem? (i := 11) rfl)
theorem zw_4_12 : Cond.methodLink RX0 3 objectInit ∈ wsL_law0 := zr_4 _ (List.mem_of_getElem? (i := 12) rfl)
theorem zw_4_13 : Cond.fieldLink RX0 9 "FrameReel$Bits" "source" "LFrameReel$Bytes;" ∈ wsL_law0 := zr_4 _ (List.mem_of_getElem? (i := 13) rfl)
theorem zw_4_14 : Cond.instanceMethod yX2_init ∈ wsL_law0 := zr_4 _ (List.mem_of_getElem? (i := 14) rfl)
theorem zw_4_15 : Cond.code yX2_init cX2_init 1 none ∈ wsL_law0 := zr_4 _ (List.mem_of_getElem? (i := 15) rfl)
theorem zw_4_16 : Cond.methodLink RX2 3 objectInit ∈ wsL_law0 := zr_4 _ (List.mem_of_getElem? (i := 16) rfl)
theorem zw_4_17 : Cond.fieldLink RX2 11 "FrameReel$Codes" "counts" "[I" ∈ wsL_law0 := zr_4 _ (List.mem_of_getElem? (i := 17) rfl)
theorem zw_4_18 : Cond.fieldLink RX2 15 "FrameReel$Codes" "starts" "[I" ∈ wsL_law0 := zr_4 _ (List.mem_of_getElem? (i := 18) rfl)
theorem zw_4_19 : Cond.fieldLink RX2 18 "FrameReel$Codes" "symbols" "[I" ∈ wsL_law0 := zr_4 _ (List.mem_of_getElem? (i := 19) rfl)
theorem zw_4_20 : Cond.methodLink RX4 20 yX5_init ∈ wsL_law0 := zr_4 _ (List.mem_of_getElem? (i := 20) rfl)
theorem zw_4_21 : Cond.instanceMethod yX5_init ∈ wsL_law0 := zr_4 _ (List.mem_of_getElem? (i := 21) rfl)
theorem zw_4_22 : Cond.code yX5_init cX5_init 2 none ∈ wsL_law0 := zr_4 _ (List.mem_of_getElem? (i := 22) rfl)
theorem zw_4_23 : Cond.methodLink RX5 3 objectInit ∈ wsL_law0 := zr_4 _ (List.mem_of_getElem? (i := 23) rfl)
theorem zw_5_0 : Cond.classLink RX5 9 RX3 ∈ wsL_law0 := zr_5 _ (List.mem_of_getElem? (i := 0) rfl)
theorem zw_5_1 : Cond.fieldLink RX5 11 "FrameReel$Reel" "frames" "[LFrameReel$Picture;" ∈ wsL_law0 := zr_5 _ (List.mem_of_getElem? (i := 1) rfl)
theorem zw_5_2 : Cond.instantiable RX3 7 ∈ wsL_law0 := zr_5 _ (List.mem_of_getElem? (i := 2) rfl)
theorem zw_5_3 : Cond.initialized RX3 ∈ wsL_law0 := zr_5 _ (List.mem_of_getElem? (i := 3) rfl)
theorem zw_5_4 : Cond.fieldLink RX5 18 "FrameReel$Reel" "own" "LFrameReel$Picture;" ∈ wsL_law0 := zr_5 _ (List.mem_of_getElem? (i := 4) rfl)
theorem zw_5_5 : Cond.instanceMethod yX3_init ∈ wsL_law0 := zr_5 _ (List.mem_of_getElem? (i := 5) rfl)
theorem zw_5_6 : Cond.code yX3_init cX3_init 1 none ∈ wsL_law0 := zr_5 _ (List.mem_of_getElem? (i := 6) rfl)
theorem zw_5_7 : Cond.methodLink RX3 3 objectInit ∈ wsL_law0 := zr_5 _ (List.mem_of_getElem? (i := 7) rfl)
theorem zw_5_8 : Cond.fieldLink RX3 9 "FrameReel$Picture" "pixels" "[I" ∈ wsL_law0 := zr_5 _ (List.mem_of_getElem? (i := 8) rfl)
theorem zw_5_9 : Cond.methodLink RX11 32 yX10_init ∈ wsL_law0 := zr_5 _ (List.mem_of_getElem? (i := 9) rfl)
theorem zw_5_10 : Cond.instanceMethod yX10_init ∈ wsL_law0 := zr_5 _ (List.mem_of_getElem? (i := 10) rfl)
theorem zw_5_11 : Cond.code yX10_init cX10_init 2 none ∈ wsL_law0 := zr_5 _ (List.mem_of_getElem? (i := 11) rfl)
theorem zw_5_12 : Cond.methodLink RX10 3 objectInit ∈ wsL_law0 := zr_5 _ (List.mem_of_getElem? (i := 12) rfl)
theorem zw_5_13 : Cond.classLink RX10 9 RX1 ∈ wsL_law0 := zr_5 _ (List.mem_of_getElem? (i := 13) rfl)
theorem zw_5_14 : Cond.fieldLink RX10 14 "FrameReel$Writer" "file" "LFrameReel$Bytes;" ∈ wsL_law0 := zr_5 _ (List.mem_of_getElem? (i := 14) rfl)
theorem zw_5_15 : Cond.fieldLink RX10 20 "FrameReel$Writer" "sums" "LFrameReel$Sums;" ∈ wsL_law0 := zr_5 _ (List.mem_of_getElem? (i := 15) rfl)
theorem zw_5_16 : Cond.methodLink RX10 11 yX1_init ∈ wsL_law0 := zr_5 _ (List.mem_of_getElem? (i := 16) rfl)
theorem zw_5_17 : Cond.instanceMethod yX7_init ∈ wsL_law0 := zr_5 _ (List.mem_of_getElem? (i := 17) rfl)
theorem zw_5_18 : Cond.code yX7_init cX7_init 1 none ∈ wsL_law0 := zr_5 _ (List.mem_of_getElem? (i := 18) rfl)
theorem zw_5_19 : Cond.methodLink RX7 3 objectInit ∈ wsL_law0 := zr_5 _ (List.mem_of_getElem? (i := 19) rfl)
theorem zw_5_20 : Cond.fieldLink RX7 9 "FrameReel$Screen" "pixels" "[I" ∈ wsL_law0 := zr_5 _ (List.mem_of_getElem? (i := 20) rfl)
theorem zw_5_21 : Cond.fieldLink RX7 15 "FrameReel$Screen" "saved" "[I" ∈ wsL_law0 := zr_5 _ (List.mem_of_getElem? (i := 21) rfl)
theorem zw_5_22 : Cond.methodLink RX11 48 yX5_init ∈ wsL_law0 := zr_5 _ (List.mem_of_getElem? (i := 22) rfl)
theorem zw_6_2 : Cond.methodLink RX12 1 objectInit ∈ wsL_law0 := zr_6 _ (List.mem_of_getElem? (i := 2) rfl)
theorem zw_6_3 : Cond.fieldLink RX12 7 "FrameReelModel" "tape" "[B" ∈ wsL_law0 := zr_6 _ (List.mem_of_getElem? (i := 3) rfl)
theorem zw_6_4 : Cond.fieldLink RX12 13 "FrameReelModel" "place" "I" ∈ wsL_law0 := zr_6 _ (List.mem_of_getElem? (i := 4) rfl)
theorem zw_6_5 : Cond.fieldLink RX12 17 "FrameReelModel" "about" "[I" ∈ wsL_law0 := zr_6 _ (List.mem_of_getElem? (i := 5) rfl)
theorem zw_6_6 : Cond.fieldLink RX12 21 "FrameReelModel" "regions" "[I" ∈ wsL_law0 := zr_6 _ (List.mem_of_getElem? (i := 6) rfl)
theorem zw_6_7 : Cond.fieldLink RX12 24 "FrameReelModel" "pixels" "[I" ∈ wsL_law0 := zr_6 _ (List.mem_of_getElem? (i := 7) rfl)
theorem zw_6_8 : Cond.fieldLink RX12 27 "FrameReelModel" "canvas" "[I" ∈ wsL_law0 := zr_6 _ (List.mem_of_getElem? (i := 8) rfl)
theorem zw_6_9 : Cond.fieldLink RX12 30 "FrameReelModel" "before" "[I" ∈ wsL_law0 := zr_6 _ (List.mem_of_getElem? (i := 9) rfl)
theorem zw_6_10 : Cond.fieldLink RX12 33 "FrameReelModel" "out" "[B" ∈ wsL_law0 := zr_6 _ (List.mem_of_getElem? (i := 10) rfl)
theorem zw_6_11 : Cond.fieldLink RX12 36 "FrameReelModel" "pack" "[B" ∈ wsL_law0 := zr_6 _ (List.mem_of_getElem? (i := 11) rfl)
theorem zw_6_12 : Cond.fieldLink RX12 39 "FrameReelModel" "made" "[B" ∈ wsL_law0 := zr_6 _ (List.mem_of_getElem? (i := 12) rfl)
theorem zw_6_13 : Cond.fieldLink RX12 42 "FrameReelModel" "lengths" "[I" ∈ wsL_law0 := zr_6 _ (List.mem_of_getElem? (i := 13) rfl)
theorem zw_6_14 : Cond.fieldLink RX12 45 "FrameReelModel" "codes" "[I" ∈ wsL_law0 := zr_6 _ (List.mem_of_getElem? (i := 14) rfl)
theorem zw_6_15 : Cond.fieldLink RX12 48 "FrameReelModel" "taped" "I" ∈ wsL_law0 := zr_6 _ (List.mem_of_getElem? (i := 15) rfl)
theorem zw_6_20 : Cond.methodLink RX11 57 yX1_fits ∈ wsL_law0 := zr_6 _ (List.mem_of_getElem? (i := 20) rfl)
theorem zw_6_21 : Cond.instanceMethod yX1_fits ∈ wsL_law0 := zr_6 _ (List.mem_of_getElem? (i := 21) rfl)
theorem zw_6_22 : Cond.selects RX1 yX1_fits yX1_fits ∈ wsL_law0 := zr_6 _ (List.mem_of_getElem? (i := 22) rfl)
theorem zw_6_23 : Cond.code yX1_fits cX1_fits 2 (some .boolean) ∈ wsL_law0 := zr_6 _ (List.mem_of_getElem? (i := 23) rfl)
theorem zw_7_0 : Cond.fieldLink RX1 15 "FrameReel$Bytes" "size" "I" ∈ wsL_law0 := zr_7 _ (List.mem_of_getElem? (i := 0) rfl)
theorem zw_7_1 : Cond.methodLink RX11 61 yX1_add ∈ wsL_law0 := zr_7 _ (List.mem_of_getElem? (i := 1) rfl)
theorem zw_7_2 : Cond.instanceMethod yX1_add ∈ wsL_law0 := zr_7 _ (List.mem_of_getElem? (i := 2) rfl)
theorem zw_7_3 : Cond.selects RX1 yX1_add yX1_add ∈ wsL_law0 := zr_7 _ (List.mem_of_getElem? (i := 3) rfl)
theorem zw_7_4 : Cond.code yX1_add cX1_add 2 none ∈ wsL_law0 := zr_7 _ (List.mem_of_getElem? (i := 4) rfl)
theorem zw_7_6 : Cond.instanceMethod yX12_type ∈ wsL_law0 := zr_7 _ (List.mem_of_getElem? (i := 6) rfl)
theorem zw_7_7 : Cond.selects RX12 yX12_type yX12_type ∈ wsL_law0 := zr_7 _ (List.mem_of_getElem? (i := 7) rfl)
theorem zw_7_8 : Cond.code yX12_type cX12_type 4 (some .int) ∈ wsL_law0 := zr_7 _ (List.mem_of_getElem? (i := 8) rfl)
theorem zw_7_9 : Cond.fieldLink RX12 51 "FrameReelModel" "thrown" "I" ∈ wsL_law0 := zr_7 _ (List.mem_of_getElem? (i := 9) rfl)
theorem zw_7_14 : Cond.methodLink RX11 67 yX1_addNumber ∈ wsL_law0 := zr_7 _ (List.mem_of_getElem? (i := 14) rfl)
theorem zw_7_15 : Cond.instanceMethod yX1_addNumber ∈ wsL_law0 := zr_7 _ (List.mem_of_getElem? (i := 15) rfl)
theorem zw_7_16 : Cond.selects RX1 yX1_addNumber yX1_addNumber ∈ wsL_law0 := zr_7 _ (List.mem_of_getElem? (i := 16) rfl)
theorem zw_7_17 : Cond.code yX1_addNumber cX1_addNumber 2 none ∈ wsL_law0 := zr_7 _ (List.mem_of_getElem? (i := 17) rfl)
theorem zw_7_18 : Cond.methodLink RX1 19 yX1_add ∈ wsL_law0 := zr_7 _ (List.mem_of_getElem? (i := 18) rfl)
theorem zw_7_23 : Cond.methodLink RX12 54 yX12_type ∈ wsL_law0 := zr_7 _ (List.mem_of_getElem? (i := 23) rfl)
theorem zw_8_4 : Cond.methodLink RX11 70 yX4_run ∈ wsL_law0 := zr_8 _ (List.mem_of_getElem? (i := 4) rfl)
theorem zw_8_5 : Cond.instanceMethod yX4_run ∈ wsL_law0 := zr_8 _ (List.mem_of_getElem? (i := 5) rfl)
theorem zw_8_6 : Cond.selects RX4 yX4_run yX4_run ∈ wsL_law0 := zr_8 _ (List.mem_of_getElem? (i := 6) rfl)
theorem zw_8_7 : Cond.code yX4_run cX4_run 3 (some .int) ∈ wsL_law0 := zr_8 _ (List.mem_of_getElem? (i := 7) rfl)
theorem zw_8_8 : Cond.fieldLink RX4 40 "FrameReel$Reader" "before" "I" ∈ wsL_law0 := zr_8 _ (List.mem_of_getElem? (i := 8) rfl)
theorem zw_8_9 : Cond.fieldLink RX4 44 "FrameReel$Reader" "serial" "I" ∈ wsL_law0 := zr_8 _ (List.mem_of_getElem? (i := 9) rfl)
theorem zw_8_10 : Cond.fieldLink RX4 47 "FrameReel$Reader" "told" "I" ∈ wsL_law0 := zr_8 _ (List.mem_of_getElem? (i := 10) rfl)
theorem zw_8_11 : Cond.fieldLink RX4 50 "FrameReel$Reader" "hasData" "Z" ∈ wsL_law0 := zr_8 _ (List.mem_of_getElem? (i := 11) rfl)
theorem zw_8_12 : Cond.fieldLink RX4 58 "FrameReel$Reader" "at" "I" ∈ wsL_law0 := zr_8 _ (List.mem_of_getElem? (i := 12) rfl)
theorem zw_8_13 : Cond.constant RX4 61 (1229278788) ∈ wsL_law0 := zr_8 _ (List.mem_of_getElem? (i := 13) rfl)
theorem zw_8_14 : Cond.fieldLink RX4 66 "FrameReel$Reader" "faultPlace" "I" ∈ wsL_law0 := zr_8 _ (List.mem_of_getElem? (i := 14) rfl)
theorem zw_8_15 : Cond.methodLink RX4 54 yX4_startsAsFile ∈ wsL_law0 := zr_8 _ (List.mem_of_getElem? (i := 15) rfl)
theorem zw_8_16 : Cond.instanceMethod yX4_startsAsFile ∈ wsL_law0 := zr_8 _ (List.mem_of_getElem? (i := 16) rfl)
theorem zw_8_17 : Cond.selects RX4 yX4_startsAsFile yX4_startsAsFile ∈ wsL_law0 := zr_8 _ (List.mem_of_getElem? (i := 17) rfl)
theorem zw_8_18 : Cond.code yX4_startsAsFile cX4_startsAsFile 3 (some .boolean) ∈ wsL_law0 := zr_8 _ (List.mem_of_getElem? (i := 18) rfl)
theorem zw_8_19 : Cond.constant RX4 74 (-1991225785) ∈ wsL_law0 := zr_8 _ (List.mem_of_getElem? (i := 19) rfl)
theorem zw_8_20 : Cond.constant RX4 75 (218765834) ∈ wsL_law0 := zr_8 _ (List.mem_of_getElem? (i := 20) rfl)
theorem zw_8_21 : Cond.methodLink RX4 76 yX1_at ∈ wsL_law0 := zr_8 _ (List.mem_of_getElem? (i := 21) rfl)
theorem zw_8_22 : Cond.instanceMethod yX1_at ∈ wsL_law0 := zr_8 _ (List.mem_of_getElem? (i := 22) rfl)
theorem zw_8_23 : Cond.selects RX1 yX1_at yX1_at ∈ wsL_law0 := zr_8 _ (List.mem_of_getElem? (i := 23) rfl)
theorem zw_9_0 : Cond.code yX1_at cX1_at 2 (some .int) ∈ wsL_law0 := zr_9 _ (List.mem_of_getElem? (i := 0) rfl)
theorem zw_9_1 : Cond.methodLink RX4 62 yX4_chunkFault ∈ wsL_law0 := zr_9 _ (List.mem_of_getElem? (i := 1) rfl)
theorem zw_9_2 : Cond.instanceMethod yX4_chunkFault ∈ wsL_law0 := zr_9 _ (List.mem_of_getElem? (i := 2) rfl)
theorem zw_9_3 : Cond.selects RX4 yX4_chunkFault yX4_chunkFault ∈ wsL_law0 := zr_9 _ (List.mem_of_getElem? (i := 3) rfl)
theorem zw_9_4 : Cond.code yX4_chunkFault cX4_chunkFault 5 (some .int) ∈ wsL_law0 := zr_9 _ (List.mem_of_getElem? (i := 4) rfl)
theorem zw_9_5 : Cond.constant RX4 88 (1229209940) ∈ wsL_law0 := zr_9 _ (List.mem_of_getElem? (i := 5) rfl)
theorem zw_9_6 : Cond.constant RX4 89 (1717846356) ∈ wsL_law0 := zr_9 _ (List.mem_of_getElem? (i := 6) rfl)
theorem zw_9_7 : Cond.methodLink RX4 79 yX1_number ∈ wsL_law0 := zr_9 _ (List.mem_of_getElem? (i := 7) rfl)
theorem zw_9_8 : Cond.instanceMethod yX1_number ∈ wsL_law0 := zr_9 _ (List.mem_of_getElem? (i := 8) rfl)
theorem zw_9_9 : Cond.selects RX1 yX1_number yX1_number ∈ wsL_law0 := zr_9 _ (List.mem_of_getElem? (i := 9) rfl)
theorem zw_9_10 : Cond.code yX1_number cX1_number 2 (some .int) ∈ wsL_law0 := zr_9 _ (List.mem_of_getElem? (i := 10) rfl)
theorem zw_9_11 : Cond.methodLink RX4 82 yX8_ofChunk ∈ wsL_law0 := zr_9 _ (List.mem_of_getElem? (i := 11) rfl)
theorem zw_9_12 : Cond.instanceMethod yX8_ofChunk ∈ wsL_law0 := zr_9 _ (List.mem_of_getElem? (i := 12) rfl)
theorem zw_9_13 : Cond.selects RX8 yX8_ofChunk yX8_ofChunk ∈ wsL_law0 := zr_9 _ (List.mem_of_getElem? (i := 13) rfl)
theorem zw_9_14 : Cond.code yX8_ofChunk cX8_ofChunk 6 (some .int) ∈ wsL_law0 := zr_9 _ (List.mem_of_getElem? (i := 14) rfl)
theorem zw_9_15 : Cond.methodLink RX8 14 yX1_at ∈ wsL_law0 := zr_9 _ (List.mem_of_getElem? (i := 15) rfl)
theorem zw_9_16 : Cond.methodLink RX4 90 yX9_unpack ∈ wsL_law0 := zr_9 _ (List.mem_of_getElem? (i := 16) rfl)
theorem zw_9_17 : Cond.instanceMethod yX9_unpack ∈ wsL_law0 := zr_9 _ (List.mem_of_getElem? (i := 17) rfl)
theorem zw_9_18 : Cond.selects RX9 yX9_unpack yX9_unpack ∈ wsL_law0 := zr_9 _ (List.mem_of_getElem? (i := 18) rfl)
theorem zw_9_19 : Cond.code yX9_unpack cX9_unpack 6 (some .boolean) ∈ wsL_law0 := zr_9 _ (List.mem_of_getElem? (i := 19) rfl)
theorem zw_9_20 : Cond.methodLink RX9 49 yX1_clear ∈ wsL_law0 := zr_9 _ (List.mem_of_getElem? (i := 20) rfl)
theorem zw_9_21 : Cond.instanceMethod yX1_clear ∈ wsL_law0 := zr_9 _ (List.mem_of_getElem? (i := 21) rfl)
theorem zw_9_22 : Cond.selects RX1 yX1_clear yX1_clear ∈ wsL_law0 := zr_9 _ (List.mem_of_getElem? (i := 22) rfl)
theorem zw_9_23 : Cond.code yX1_clear cX1_clear 1 none ∈ wsL_law0 := zr_9 _ (List.mem_of_getElem? (i := 23) rfl)
theorem zw_10_0 : Cond.methodLink RX9 52 yX9_startsAsPacked ∈ wsL_law0 := zr_10 _ (List.mem_of_getElem? (i := 0) rfl)
theorem zw_10_1 : Cond.instanceMethod yX9_startsAsPacked ∈ wsL_law0 := zr_10 _ (List.mem_of_getElem? (i := 1) rfl)
theorem zw_10_2 : Cond.selects RX9 yX9_startsAsPacked yX9_startsAsPacked ∈ wsL_law0 := zr_10 _ (List.mem_of_getElem? (i := 2) rfl)
theorem zw_10_3 : Cond.code yX9_startsAsPacked cX9_startsAsPacked 2 (some .boolean) ∈ wsL_law0 := zr_10 _ (List.mem_of_getElem? (i := 3) rfl)
theorem zw_10_4 : Cond.methodLink RX9 80 yX1_at ∈ wsL_law0 := zr_10 _ (List.mem_of_getElem? (i := 4) rfl)
theorem zw_10_5 : Cond.methodLink RX9 63 yX0_take ∈ wsL_law0 := zr_10 _ (List.mem_of_getElem? (i := 5) rfl)
theorem zw_10_6 : Cond.instanceMethod yX0_take ∈ wsL_law0 := zr_10 _ (List.mem_of_getElem? (i := 6) rfl)
theorem zw_10_7 : Cond.selects RX0 yX0_take yX0_take ∈ wsL_law0 := zr_10 _ (List.mem_of_getElem? (i := 7) rfl)
theorem zw_10_8 : Cond.code yX0_take cX0_take 4 (some .int) ∈ wsL_law0 := zr_10 _ (List.mem_of_getElem? (i := 8) rfl)
theorem zw_10_9 : Cond.fieldLink RX0 21 "FrameReel$Bits" "at" "I" ∈ wsL_law0 := zr_10 _ (List.mem_of_getElem? (i := 9) rfl)
theorem zw_10_10 : Cond.methodLink RX9 67 yX9_copyPlain ∈ wsL_law0 := zr_10 _ (List.mem_of_getElem? (i := 10) rfl)
theorem zw_10_11 : Cond.instanceMethod yX9_copyPlain ∈ wsL_law0 := zr_10 _ (List.mem_of_getElem? (i := 11) rfl)
theorem zw_10_12 : Cond.selects RX9 yX9_copyPlain yX9_copyPlain ∈ wsL_law0 := zr_10 _ (List.mem_of_getElem? (i := 12) rfl)
theorem zw_10_13 : Cond.code yX9_copyPlain cX9_copyPlain 4 (some .boolean) ∈ wsL_law0 := zr_10 _ (List.mem_of_getElem? (i := 13) rfl)
theorem zw_10_14 : Cond.constant RX9 106 (65535) ∈ wsL_law0 := zr_10 _ (List.mem_of_getElem? (i := 14) rfl)
theorem zw_10_15 : Cond.methodLink RX9 94 yX0_skipToByte ∈ wsL_law0 := zr_10 _ (List.mem_of_getElem? (i := 15) rfl)
theorem zw_10_16 : Cond.instanceMethod yX0_skipToByte ∈ wsL_law0 := zr_10 _ (List.mem_of_getElem? (i := 16) rfl)
theorem zw_10_17 : Cond.selects RX0 yX0_skipToByte yX0_skipToByte ∈ wsL_law0 := zr_10 _ (List.mem_of_getElem? (i := 17) rfl)
theorem zw_10_18 : Cond.code yX0_skipToByte cX0_skipToByte 1 none ∈ wsL_law0 := zr_10 _ (List.mem_of_getElem? (i := 18) rfl)
theorem zw_10_19 : Cond.methodLink RX9 107 yX1_fits ∈ wsL_law0 := zr_10 _ (List.mem_of_getElem? (i := 19) rfl)
theorem zw_10_20 : Cond.methodLink RX9 110 yX1_addPart ∈ wsL_law0 := zr_10 _ (List.mem_of_getElem? (i := 20) rfl)
theorem zw_10_21 : Cond.instanceMethod yX1_addPart ∈ wsL_law0 := zr_10 _ (List.mem_of_getElem? (i := 21) rfl)
theorem zw_10_22 : Cond.selects RX1 yX1_addPart yX1_addPart ∈ wsL_law0 := zr_10 _ (List.mem_of_getElem? (i := 22) rfl)
theorem zw_10_23 : Cond.code yX1_addPart cX1_addPart 5 none ∈ wsL_law0 := zr_10 _ (List.mem_of_getElem? (i := 23) rfl)
theorem zw_11_0 : Cond.methodLink RX1 23 yX1_at ∈ wsL_law0 := zr_11 _ (List.mem_of_getElem? (i := 0) rfl)
theorem zw_11_1 : Cond.methodLink RX9 70 yX9_hasCodes ∈ wsL_law0 := zr_11 _ (List.mem_of_getElem? (i := 1) rfl)
theorem zw_11_2 : Cond.instanceMethod yX9_hasCodes ∈ wsL_law0 := zr_11 _ (List.mem_of_getElem? (i := 2) rfl)
theorem zw_11_3 : Cond.selects RX9 yX9_hasCodes yX9_hasCodes ∈ wsL_law0 := zr_11 _ (List.mem_of_getElem? (i := 3) rfl)
theorem zw_11_4 : Cond.code yX9_hasCodes cX9_hasCodes 2 (some .boolean) ∈ wsL_law0 := zr_11 _ (List.mem_of_getElem? (i := 4) rfl)
theorem zw_11_5 : Cond.methodLink RX9 82 yX9_fixCodes ∈ wsL_law0 := zr_11 _ (List.mem_of_getElem? (i := 5) rfl)
theorem zw_11_6 : Cond.instanceMethod yX9_fixCodes ∈ wsL_law0 := zr_11 _ (List.mem_of_getElem? (i := 6) rfl)
theorem zw_11_7 : Cond.selects RX9 yX9_fixCodes yX9_fixCodes ∈ wsL_law0 := zr_11 _ (List.mem_of_getElem? (i := 7) rfl)
theorem zw_11_8 : Cond.code yX9_fixCodes cX9_fixCodes 2 none ∈ wsL_law0 := zr_11 _ (List.mem_of_getElem? (i := 8) rfl)
theorem zw_11_9 : Cond.methodLink RX9 114 yX2_build ∈ wsL_law0 := zr_11 _ (List.mem_of_getElem? (i := 9) rfl)
theorem zw_11_10 : Cond.instanceMethod yX2_build ∈ wsL_law0 := zr_11 _ (List.mem_of_getElem? (i := 10) rfl)
theorem zw_11_11 : Cond.selects RX2 yX2_build yX2_build ∈ wsL_law0 := zr_11 _ (List.mem_of_getElem? (i := 11) rfl)
theorem zw_11_12 : Cond.code yX2_build cX2_build 7 (some .int) ∈ wsL_law0 := zr_11 _ (List.mem_of_getElem? (i := 12) rfl)
theorem zw_11_13 : Cond.fieldLink RX2 27 "FrameReel$Codes" "used" "I" ∈ wsL_law0 := zr_11 _ (List.mem_of_getElem? (i := 13) rfl)
theorem zw_11_14 : Cond.methodLink RX2 21 yJ7_fill_53178 ∈ wsL_law0 := zr_11 _ (List.mem_of_getElem? (i := 14) rfl)
theorem zw_11_15 : Cond.static yJ7_fill_53178 ∈ wsL_law0 := zr_11 _ (List.mem_of_getElem? (i := 15) rfl)
theorem zw_11_16 : Cond.initialized RJ7 ∈ wsL_law0 := zr_11 _ (List.mem_of_getElem? (i := 16) rfl)
theorem zw_11_17 : Cond.code yJ7_fill_53178 cJ7_fill_53178 4 none ∈ wsL_law0 := zr_11 _ (List.mem_of_getElem? (i := 17) rfl)
theorem zw_11_18 : Cond.methodLink RX9 85 yX9_takeTellers ∈ wsL_law0 := zr_11 _ (List.mem_of_getElem? (i := 18) rfl)
theorem zw_11_19 : Cond.instanceMethod yX9_takeTellers ∈ wsL_law0 := zr_11 _ (List.mem_of_getElem? (i := 19) rfl)
theorem zw_11_20 : Cond.selects RX9 yX9_takeTellers yX9_takeTellers ∈ wsL_law0 := zr_11 _ (List.mem_of_getElem? (i := 20) rfl)
theorem zw_11_21 : Cond.code yX9_takeTellers cX9_takeTellers 5 (some .boolean) ∈ wsL_law0 := zr_11 _ (List.mem_of_getElem? (i := 21) rfl)
theorem zw_11_22 : Cond.fieldLink RX9 118 "FrameReel$Unpacker" "symbolCount" "I" ∈ wsL_law0 := zr_11 _ (List.mem_of_getElem? (i := 22) rfl)
theorem zw_11_23 : Cond.fieldLink RX9 121 "FrameReel$Unpacker" "distanceCount" "I" ∈ wsL_law0 := zr_11 _ (List.mem_of_getElem? (i := 23) rfl)
theorem zw_12_0 : Cond.fieldLink RX9 130 "FrameReel$Unpacker" "TELLER_ORDER" "[I" ∈ wsL_law0 := zr_12 _ (List.mem_of_getElem? (i := 0) rfl)
theorem zw_12_1 : Cond.methodLink RX9 124 yJ7_fill_53178 ∈ wsL_law0 := zr_12 _ (List.mem_of_getElem? (i := 1) rfl)
theorem zw_12_2 : Cond.methodLink RX9 88 yX9_takeLengths ∈ wsL_law0 := zr_12 _ (List.mem_of_getElem? (i := 2) rfl)
theorem zw_12_3 : Cond.instanceMethod yX9_takeLengths ∈ wsL_law0 := zr_12 _ (List.mem_of_getElem? (i := 3) rfl)
theorem zw_12_4 : Cond.selects RX9 yX9_takeLengths yX9_takeLengths ∈ wsL_law0 := zr_12 _ (List.mem_of_getElem? (i := 4) rfl)
theorem zw_12_5 : Cond.code yX9_takeLengths cX9_takeLengths 10 (some .boolean) ∈ wsL_law0 := zr_12 _ (List.mem_of_getElem? (i := 5) rfl)
theorem zw_12_6 : Cond.fieldLink RX9 137 "FrameReel$Unpacker" "REPEAT_BITS" "[I" ∈ wsL_law0 := zr_12 _ (List.mem_of_getElem? (i := 6) rfl)
theorem zw_12_7 : Cond.fieldLink RX9 140 "FrameReel$Unpacker" "REPEAT_BASES" "[I" ∈ wsL_law0 := zr_12 _ (List.mem_of_getElem? (i := 7) rfl)
theorem zw_12_8 : Cond.methodLink RX9 133 yX0_symbol ∈ wsL_law0 := zr_12 _ (List.mem_of_getElem? (i := 8) rfl)
theorem zw_12_9 : Cond.instanceMethod yX0_symbol ∈ wsL_law0 := zr_12 _ (List.mem_of_getElem? (i := 9) rfl)
theorem zw_12_10 : Cond.selects RX0 yX0_symbol yX0_symbol ∈ wsL_law0 := zr_12 _ (List.mem_of_getElem? (i := 10) rfl)
theorem zw_12_11 : Cond.code yX0_symbol cX0_symbol 8 (some .int) ∈ wsL_law0 := zr_12 _ (List.mem_of_getElem? (i := 11) rfl)
theorem zw_12_12 : Cond.methodLink RX9 91 yX9_buildCodes ∈ wsL_law0 := zr_12 _ (List.mem_of_getElem? (i := 12) rfl)
theorem zw_12_13 : Cond.instanceMethod yX9_buildCodes ∈ wsL_law0 := zr_12 _ (List.mem_of_getElem? (i := 13) rfl)
theorem zw_12_14 : Cond.selects RX9 yX9_buildCodes yX9_buildCodes ∈ wsL_law0 := zr_12 _ (List.mem_of_getElem? (i := 14) rfl)
theorem zw_12_15 : Cond.code yX9_buildCodes cX9_buildCodes 2 (some .boolean) ∈ wsL_law0 := zr_12 _ (List.mem_of_getElem? (i := 15) rfl)
theorem zw_12_16 : Cond.methodLink RX9 143 yX2_isNoneOrOneBit ∈ wsL_law0 := zr_12 _ (List.mem_of_getElem? (i := 16) rfl)
theorem zw_12_17 : Cond.instanceMethod yX2_isNoneOrOneBit ∈ wsL_law0 := zr_12 _ (List.mem_of_getElem? (i := 17) rfl)
theorem zw_12_18 : Cond.selects RX2 yX2_isNoneOrOneBit yX2_isNoneOrOneBit ∈ wsL_law0 := zr_12 _ (List.mem_of_getElem? (i := 18) rfl)
theorem zw_12_19 : Cond.code yX2_isNoneOrOneBit cX2_isNoneOrOneBit 1 (some .boolean) ∈ wsL_law0 := zr_12 _ (List.mem_of_getElem? (i := 19) rfl)
theorem zw_12_20 : Cond.methodLink RX9 74 yX9_unpackCoded ∈ wsL_law0 := zr_12 _ (List.mem_of_getElem? (i := 20) rfl)
theorem zw_12_21 : Cond.instanceMethod yX9_unpackCoded ∈ wsL_law0 := zr_12 _ (List.mem_of_getElem? (i := 21) rfl)
theorem zw_12_22 : Cond.selects RX9 yX9_unpackCoded yX9_unpackCoded ∈ wsL_law0 := zr_12 _ (List.mem_of_getElem? (i := 22) rfl)
theorem zw_12_23 : Cond.code yX9_unpackCoded cX9_unpackCoded 3 (some .boolean) ∈ wsL_law0 := zr_12 _ (List.mem_of_getElem? (i := 23) rfl)
theorem zw_13_0 : Cond.methodLink RX9 146 yX1_add ∈ wsL_law0 := zr_13 _ (List.mem_of_getElem? (i := 0) rfl)
theorem zw_13_1 : Cond.methodLink RX9 149 yX9_copyMatch ∈ wsL_law0 := zr_13 _ (List.mem_of_getElem? (i := 1) rfl)
theorem zw_13_2 : Cond.instanceMethod yX9_copyMatch ∈ wsL_law0 := zr_13 _ (List.mem_of_getElem? (i := 2) rfl)
theorem zw_13_3 : Cond.selects RX9 yX9_copyMatch yX9_copyMatch ∈ wsL_law0 := zr_13 _ (List.mem_of_getElem? (i := 3) rfl)
theorem zw_13_4 : Cond.code yX9_copyMatch cX9_copyMatch 8 (some .boolean) ∈ wsL_law0 := zr_13 _ (List.mem_of_getElem? (i := 4) rfl)
theorem zw_13_5 : Cond.fieldLink RX9 152 "FrameReel$Unpacker" "LENGTH_BASES" "[I" ∈ wsL_law0 := zr_13 _ (List.mem_of_getElem? (i := 5) rfl)
theorem zw_13_6 : Cond.fieldLink RX9 155 "FrameReel$Unpacker" "LENGTH_BITS" "[I" ∈ wsL_law0 := zr_13 _ (List.mem_of_getElem? (i := 6) rfl)
theorem zw_13_7 : Cond.fieldLink RX9 158 "FrameReel$Unpacker" "DISTANCE_BASES" "[I" ∈ wsL_law0 := zr_13 _ (List.mem_of_getElem? (i := 7) rfl)
theorem zw_13_8 : Cond.fieldLink RX9 161 "FrameReel$Unpacker" "DISTANCE_BITS" "[I" ∈ wsL_law0 := zr_13 _ (List.mem_of_getElem? (i := 8) rfl)
theorem zw_13_9 : Cond.methodLink RX9 77 yX9_endsWithSum ∈ wsL_law0 := zr_13 _ (List.mem_of_getElem? (i := 9) rfl)
theorem zw_13_10 : Cond.instanceMethod yX9_endsWithSum ∈ wsL_law0 := zr_13 _ (List.mem_of_getElem? (i := 10) rfl)
theorem zw_13_11 : Cond.selects RX9 yX9_endsWithSum yX9_endsWithSum ∈ wsL_law0 := zr_13 _ (List.mem_of_getElem? (i := 11) rfl)
theorem zw_13_12 : Cond.code yX9_endsWithSum cX9_endsWithSum 2 (some .boolean) ∈ wsL_law0 := zr_13 _ (List.mem_of_getElem? (i := 12) rfl)
theorem zw_13_13 : Cond.methodLink RX9 97 yX1_number ∈ wsL_law0 := zr_13 _ (List.mem_of_getElem? (i := 13) rfl)
theorem zw_13_14 : Cond.methodLink RX9 100 yX8_ofRaw ∈ wsL_law0 := zr_13 _ (List.mem_of_getElem? (i := 14) rfl)
theorem zw_13_15 : Cond.static yX8_ofRaw ∈ wsL_law0 := zr_13 _ (List.mem_of_getElem? (i := 15) rfl)
theorem zw_13_16 : Cond.code yX8_ofRaw cX8_ofRaw 6 (some .int) ∈ wsL_law0 := zr_13 _ (List.mem_of_getElem? (i := 16) rfl)
theorem zw_13_17 : Cond.constant RX8 20 (65521) ∈ wsL_law0 := zr_13 _ (List.mem_of_getElem? (i := 17) rfl)
theorem zw_13_18 : Cond.methodLink RX4 96 yX6_fill ∈ wsL_law0 := zr_13 _ (List.mem_of_getElem? (i := 18) rfl)
theorem zw_13_19 : Cond.static yX6_fill ∈ wsL_law0 := zr_13 _ (List.mem_of_getElem? (i := 19) rfl)
theorem zw_13_20 : Cond.initialized RX6 ∈ wsL_law0 := zr_13 _ (List.mem_of_getElem? (i := 20) rfl)
theorem zw_13_21 : Cond.code yX6_fill cX6_fill 6 (some .boolean) ∈ wsL_law0 := zr_13 _ (List.mem_of_getElem? (i := 21) rfl)
theorem zw_13_22 : Cond.methodLink RX6 21 yX1_at ∈ wsL_law0 := zr_13 _ (List.mem_of_getElem? (i := 22) rfl)
theorem zw_13_23 : Cond.methodLink RX6 25 yX6_unfilter ∈ wsL_law0 := zr_13 _ (List.mem_of_getElem? (i := 23) rfl)
theorem zw_14_0 : Cond.static yX6_unfilter ∈ wsL_law0 := zr_14 _ (List.mem_of_getElem? (i := 0) rfl)
theorem zw_14_1 : Cond.code yX6_unfilter cX6_unfilter 10 none ∈ wsL_law0 := zr_14 _ (List.mem_of_getElem? (i := 1) rfl)
theorem zw_14_2 : Cond.methodLink RX6 42 yX6_guess ∈ wsL_law0 := zr_14 _ (List.mem_of_getElem? (i := 2) rfl)
theorem zw_14_3 : Cond.static yX6_guess ∈ wsL_law0 := zr_14 _ (List.mem_of_getElem? (i := 3) rfl)
theorem zw_14_4 : Cond.code yX6_guess cX6_guess 4 (some .int) ∈ wsL_law0 := zr_14 _ (List.mem_of_getElem? (i := 4) rfl)
theorem zw_14_5 : Cond.methodLink RX6 46 yX6_nearest ∈ wsL_law0 := zr_14 _ (List.mem_of_getElem? (i := 5) rfl)
theorem zw_14_6 : Cond.static yX6_nearest ∈ wsL_law0 := zr_14 _ (List.mem_of_getElem? (i := 6) rfl)
theorem zw_14_7 : Cond.code yX6_nearest cX6_nearest 6 (some .int) ∈ wsL_law0 := zr_14 _ (List.mem_of_getElem? (i := 7) rfl)
theorem zw_14_8 : Cond.methodLink RX6 50 Lib.Math.abs.name ∈ wsL_law0 := zr_14 _ (List.mem_of_getElem? (i := 8) rfl)
theorem zw_14_9 : Cond.static Lib.Math.abs.name ∈ wsL_law0 := zr_14 _ (List.mem_of_getElem? (i := 9) rfl)
theorem zw_14_10 : Cond.initialized "java/lang/Math" ∈ wsL_law0 := zr_14 _ (List.mem_of_getElem? (i := 10) rfl)
theorem zw_14_11 : Cond.code Lib.Math.abs.name Lib.Math.abs.code 1 (some .int) ∈ wsL_law0 := zr_14 _ (List.mem_of_getElem? (i := 11) rfl)
theorem zw_14_12 : Cond.methodLink RX6 35 yX1_number ∈ wsL_law0 := zr_14 _ (List.mem_of_getElem? (i := 12) rfl)
theorem zw_14_13 : Cond.methodLink RX4 102 yX4_takesChunk ∈ wsL_law0 := zr_14 _ (List.mem_of_getElem? (i := 13) rfl)
theorem zw_14_14 : Cond.instanceMethod yX4_takesChunk ∈ wsL_law0 := zr_14 _ (List.mem_of_getElem? (i := 14) rfl)
theorem zw_14_15 : Cond.selects RX4 yX4_takesChunk yX4_takesChunk ∈ wsL_law0 := zr_14 _ (List.mem_of_getElem? (i := 15) rfl)
theorem zw_14_16 : Cond.code yX4_takesChunk cX4_takesChunk 3 (some .boolean) ∈ wsL_law0 := zr_14 _ (List.mem_of_getElem? (i := 16) rfl)
theorem zw_14_17 : Cond.constant RX4 106 (1229472850) ∈ wsL_law0 := zr_14 _ (List.mem_of_getElem? (i := 17) rfl)
theorem zw_14_18 : Cond.constant RX4 123 (1717785676) ∈ wsL_law0 := zr_14 _ (List.mem_of_getElem? (i := 18) rfl)
theorem zw_14_19 : Cond.methodLink RX4 107 yX4_takesHead ∈ wsL_law0 := zr_14 _ (List.mem_of_getElem? (i := 19) rfl)
theorem zw_14_20 : Cond.instanceMethod yX4_takesHead ∈ wsL_law0 := zr_14 _ (List.mem_of_getElem? (i := 20) rfl)
theorem zw_14_21 : Cond.selects RX4 yX4_takesHead yX4_takesHead ∈ wsL_law0 := zr_14 _ (List.mem_of_getElem? (i := 21) rfl)
theorem zw_14_22 : Cond.code yX4_takesHead cX4_takesHead 4 (some .boolean) ∈ wsL_law0 := zr_14 _ (List.mem_of_getElem? (i := 22) rfl)
theorem zw_14_23 : Cond.methodLink RX4 130 yX5_start ∈ wsL_law0 := zr_14 _ (List.mem_of_getElem? (i := 23) rfl)
theorem zw_15_0 : Cond.instanceMethod yX5_start ∈ wsL_law0 := zr_15 _ (List.mem_of_getElem? (i := 0) rfl)
theorem zw_15_1 : Cond.selects RX5 yX5_start yX5_start ∈ wsL_law0 := zr_15 _ (List.mem_of_getElem? (i := 1) rfl)
theorem zw_15_2 : Cond.code yX5_start cX5_start 3 none ∈ wsL_law0 := zr_15 _ (List.mem_of_getElem? (i := 2) rfl)
theorem zw_15_3 : Cond.fieldLink RX5 22 "FrameReel$Reel" "there" "Z" ∈ wsL_law0 := zr_15 _ (List.mem_of_getElem? (i := 3) rfl)
theorem zw_15_4 : Cond.fieldLink RX5 26 "FrameReel$Reel" "firstIsDefault" "Z" ∈ wsL_law0 := zr_15 _ (List.mem_of_getElem? (i := 4) rfl)
theorem zw_15_5 : Cond.fieldLink RX5 29 "FrameReel$Reel" "width" "I" ∈ wsL_law0 := zr_15 _ (List.mem_of_getElem? (i := 5) rfl)
theorem zw_15_6 : Cond.fieldLink RX5 33 "FrameReel$Reel" "height" "I" ∈ wsL_law0 := zr_15 _ (List.mem_of_getElem? (i := 6) rfl)
theorem zw_15_7 : Cond.fieldLink RX5 38 "FrameReel$Reel" "count" "I" ∈ wsL_law0 := zr_15 _ (List.mem_of_getElem? (i := 7) rfl)
theorem zw_15_8 : Cond.methodLink RX4 111 yX4_takesCounts ∈ wsL_law0 := zr_15 _ (List.mem_of_getElem? (i := 8) rfl)
theorem zw_15_9 : Cond.instanceMethod yX4_takesCounts ∈ wsL_law0 := zr_15 _ (List.mem_of_getElem? (i := 9) rfl)
theorem zw_15_10 : Cond.selects RX4 yX4_takesCounts yX4_takesCounts ∈ wsL_law0 := zr_15 _ (List.mem_of_getElem? (i := 10) rfl)
theorem zw_15_11 : Cond.code yX4_takesCounts cX4_takesCounts 3 (some .boolean) ∈ wsL_law0 := zr_15 _ (List.mem_of_getElem? (i := 11) rfl)
theorem zw_15_12 : Cond.methodLink RX4 114 yX4_takesControl ∈ wsL_law0 := zr_15 _ (List.mem_of_getElem? (i := 12) rfl)
theorem zw_15_13 : Cond.instanceMethod yX4_takesControl ∈ wsL_law0 := zr_15 _ (List.mem_of_getElem? (i := 13) rfl)
theorem zw_15_14 : Cond.selects RX4 yX4_takesControl yX4_takesControl ∈ wsL_law0 := zr_15 _ (List.mem_of_getElem? (i := 14) rfl)
theorem zw_15_15 : Cond.code yX4_takesControl cX4_takesControl 8 (some .boolean) ∈ wsL_law0 := zr_15 _ (List.mem_of_getElem? (i := 15) rfl)
theorem zw_15_16 : Cond.methodLink RX4 137 yX4_takesSerial ∈ wsL_law0 := zr_15 _ (List.mem_of_getElem? (i := 16) rfl)
theorem zw_15_17 : Cond.instanceMethod yX4_takesSerial ∈ wsL_law0 := zr_15 _ (List.mem_of_getElem? (i := 17) rfl)
theorem zw_15_18 : Cond.selects RX4 yX4_takesSerial yX4_takesSerial ∈ wsL_law0 := zr_15 _ (List.mem_of_getElem? (i := 18) rfl)
theorem zw_15_19 : Cond.code yX4_takesSerial cX4_takesSerial 3 (some .boolean) ∈ wsL_law0 := zr_15 _ (List.mem_of_getElem? (i := 19) rfl)
theorem zw_15_20 : Cond.methodLink RX4 140 yX5_allows ∈ wsL_law0 := zr_15 _ (List.mem_of_getElem? (i := 20) rfl)
theorem zw_15_21 : Cond.instanceMethod yX5_allows ∈ wsL_law0 := zr_15 _ (List.mem_of_getElem? (i := 21) rfl)
theorem zw_15_22 : Cond.selects RX5 yX5_allows yX5_allows ∈ wsL_law0 := zr_15 _ (List.mem_of_getElem? (i := 22) rfl)
theorem zw_15_23 : Cond.code yX5_allows cX5_allows 7 (some .boolean) ∈ wsL_law0 := zr_15 _ (List.mem_of_getElem? (i := 23) rfl)
theorem zw_16_0 : Cond.methodLink RX4 144 yX5_add ∈ wsL_law0 := zr_16 _ (List.mem_of_getElem? (i := 0) rfl)
theorem zw_16_1 : Cond.instanceMethod yX5_add ∈ wsL_law0 := zr_16 _ (List.mem_of_getElem? (i := 1) rfl)
theorem zw_16_2 : Cond.selects RX5 yX5_add yX5_add ∈ wsL_law0 := zr_16 _ (List.mem_of_getElem? (i := 2) rfl)
theorem zw_16_3 : Cond.code yX5_add cX5_add 8 none ∈ wsL_law0 := zr_16 _ (List.mem_of_getElem? (i := 3) rfl)
theorem zw_16_4 : Cond.methodLink RX4 151 yX5_firstIsCanvas ∈ wsL_law0 := zr_16 _ (List.mem_of_getElem? (i := 4) rfl)
theorem zw_16_5 : Cond.instanceMethod yX5_firstIsCanvas ∈ wsL_law0 := zr_16 _ (List.mem_of_getElem? (i := 5) rfl)
theorem zw_16_6 : Cond.selects RX5 yX5_firstIsCanvas yX5_firstIsCanvas ∈ wsL_law0 := zr_16 _ (List.mem_of_getElem? (i := 6) rfl)
theorem zw_16_7 : Cond.code yX5_firstIsCanvas cX5_firstIsCanvas 1 (some .boolean) ∈ wsL_law0 := zr_16 _ (List.mem_of_getElem? (i := 7) rfl)
theorem zw_16_8 : Cond.methodLink RX4 117 yX4_takesDefaultData ∈ wsL_law0 := zr_16 _ (List.mem_of_getElem? (i := 8) rfl)
theorem zw_16_9 : Cond.instanceMethod yX4_takesDefaultData ∈ wsL_law0 := zr_16 _ (List.mem_of_getElem? (i := 9) rfl)
theorem zw_16_10 : Cond.selects RX4 yX4_takesDefaultData yX4_takesDefaultData ∈ wsL_law0 := zr_16 _ (List.mem_of_getElem? (i := 10) rfl)
theorem zw_16_11 : Cond.code yX4_takesDefaultData cX4_takesDefaultData 2 (some .boolean) ∈ wsL_law0 := zr_16 _ (List.mem_of_getElem? (i := 11) rfl)
theorem zw_16_12 : Cond.methodLink RX4 154 yX5_defaultPicture ∈ wsL_law0 := zr_16 _ (List.mem_of_getElem? (i := 12) rfl)
theorem zw_16_13 : Cond.instanceMethod yX5_defaultPicture ∈ wsL_law0 := zr_16 _ (List.mem_of_getElem? (i := 13) rfl)
theorem zw_16_14 : Cond.selects RX5 yX5_defaultPicture yX5_defaultPicture ∈ wsL_law0 := zr_16 _ (List.mem_of_getElem? (i := 14) rfl)
theorem zw_16_15 : Cond.code yX5_defaultPicture cX5_defaultPicture 1 (some (.object "FrameReel$Picture")) ∈ wsL_law0 := zr_16 _ (List.mem_of_getElem? (i := 15) rfl)
theorem zw_16_16 : Cond.methodLink RX4 161 yX1_clear ∈ wsL_law0 := zr_16 _ (List.mem_of_getElem? (i := 16) rfl)
theorem zw_16_17 : Cond.methodLink RX4 164 yX1_addPart ∈ wsL_law0 := zr_16 _ (List.mem_of_getElem? (i := 17) rfl)
theorem zw_16_18 : Cond.methodLink RX4 120 yX4_takesFrameData ∈ wsL_law0 := zr_16 _ (List.mem_of_getElem? (i := 18) rfl)
theorem zw_16_19 : Cond.instanceMethod yX4_takesFrameData ∈ wsL_law0 := zr_16 _ (List.mem_of_getElem? (i := 19) rfl)
theorem zw_16_20 : Cond.selects RX4 yX4_takesFrameData yX4_takesFrameData ∈ wsL_law0 := zr_16 _ (List.mem_of_getElem? (i := 20) rfl)
theorem zw_16_21 : Cond.code yX4_takesFrameData cX4_takesFrameData 2 (some .boolean) ∈ wsL_law0 := zr_16 _ (List.mem_of_getElem? (i := 21) rfl)
theorem zw_16_22 : Cond.methodLink RX4 127 yX4_mayBeLeftOut ∈ wsL_law0 := zr_16 _ (List.mem_of_getElem? (i := 22) rfl)
theorem zw_16_23 : Cond.instanceMethod yX4_mayBeLeftOut ∈ wsL_law0 := zr_16 _ (List.mem_of_getElem? (i := 23) rfl)
theorem zw_17_0 : Cond.selects RX4 yX4_mayBeLeftOut yX4_mayBeLeftOut ∈ wsL_law0 := zr_17 _ (List.mem_of_getElem? (i := 0) rfl)
theorem zw_17_1 : Cond.code yX4_mayBeLeftOut cX4_mayBeLeftOut 5 (some .boolean) ∈ wsL_law0 := zr_17 _ (List.mem_of_getElem? (i := 1) rfl)
theorem zw_17_2 : Cond.methodLink RX11 74 yX1_clear ∈ wsL_law0 := zr_17 _ (List.mem_of_getElem? (i := 2) rfl)
theorem zw_17_3 : Cond.methodLink RX11 78 yX4_exchange ∈ wsL_law0 := zr_17 _ (List.mem_of_getElem? (i := 3) rfl)
theorem zw_17_4 : Cond.instanceMethod yX4_exchange ∈ wsL_law0 := zr_17 _ (List.mem_of_getElem? (i := 4) rfl)
theorem zw_17_5 : Cond.selects RX4 yX4_exchange yX4_exchange ∈ wsL_law0 := zr_17 _ (List.mem_of_getElem? (i := 5) rfl)
theorem zw_17_6 : Cond.code yX4_exchange cX4_exchange 3 (some (.object "FrameReel$Reel")) ∈ wsL_law0 := zr_17 _ (List.mem_of_getElem? (i := 6) rfl)
theorem zw_17_7 : Cond.methodLink RX11 82 yX7_forget ∈ wsL_law0 := zr_17 _ (List.mem_of_getElem? (i := 7) rfl)
theorem zw_17_8 : Cond.instanceMethod yX7_forget ∈ wsL_law0 := zr_17 _ (List.mem_of_getElem? (i := 8) rfl)
theorem zw_17_9 : Cond.selects RX7 yX7_forget yX7_forget ∈ wsL_law0 := zr_17 _ (List.mem_of_getElem? (i := 9) rfl)
theorem zw_17_10 : Cond.code yX7_forget cX7_forget 1 none ∈ wsL_law0 := zr_17 _ (List.mem_of_getElem? (i := 10) rfl)
theorem zw_17_11 : Cond.fieldLink RX7 18 "FrameReel$Screen" "width" "I" ∈ wsL_law0 := zr_17 _ (List.mem_of_getElem? (i := 11) rfl)
theorem zw_17_12 : Cond.fieldLink RX7 22 "FrameReel$Screen" "height" "I" ∈ wsL_law0 := zr_17 _ (List.mem_of_getElem? (i := 12) rfl)
theorem zw_17_17 : Cond.fieldLink RX12 160 "FrameReelModel" "firstIs" "Z" ∈ wsL_law0 := zr_17 _ (List.mem_of_getElem? (i := 17) rfl)
theorem zw_17_18 : Cond.fieldLink RX12 219 "FrameReelModel" "shown" "Z" ∈ wsL_law0 := zr_17 _ (List.mem_of_getElem? (i := 18) rfl)
theorem zw_17_19 : Cond.methodLink RX12 216 yX12_readAll ∈ wsL_law0 := zr_17 _ (List.mem_of_getElem? (i := 19) rfl)
theorem zw_17_20 : Cond.instanceMethod yX12_readAll ∈ wsL_law0 := zr_17 _ (List.mem_of_getElem? (i := 20) rfl)
theorem zw_17_21 : Cond.selects RX12 yX12_readAll yX12_readAll ∈ wsL_law0 := zr_17 _ (List.mem_of_getElem? (i := 21) rfl)
theorem zw_17_22 : Cond.code yX12_readAll cX12_readAll 9 (some .int) ∈ wsL_law0 := zr_17 _ (List.mem_of_getElem? (i := 22) rfl)
theorem zw_17_23 : Cond.fieldLink RX12 137 "FrameReelModel" "hasActl" "Z" ∈ wsL_law0 := zr_17 _ (List.mem_of_getElem? (i := 23) rfl)
theorem zw_18_0 : Cond.fieldLink RX12 146 "FrameReelModel" "fctls" "I" ∈ wsL_law0 := zr_18 _ (List.mem_of_getElem? (i := 0) rfl)
theorem zw_18_1 : Cond.fieldLink RX12 143 "FrameReelModel" "wants" "I" ∈ wsL_law0 := zr_18 _ (List.mem_of_getElem? (i := 1) rfl)
theorem zw_18_2 : Cond.fieldLink RX12 149 "FrameReelModel" "serial" "I" ∈ wsL_law0 := zr_18 _ (List.mem_of_getElem? (i := 2) rfl)
theorem zw_18_3 : Cond.fieldLink RX12 140 "FrameReelModel" "hasIdat" "Z" ∈ wsL_law0 := zr_18 _ (List.mem_of_getElem? (i := 3) rfl)
theorem zw_18_4 : Cond.fieldLink RX12 183 "FrameReelModel" "idatOver" "Z" ∈ wsL_law0 := zr_18 _ (List.mem_of_getElem? (i := 4) rfl)
theorem zw_18_5 : Cond.fieldLink RX12 166 "FrameReelModel" "open" "I" ∈ wsL_law0 := zr_18 _ (List.mem_of_getElem? (i := 5) rfl)
theorem zw_18_6 : Cond.fieldLink RX12 163 "FrameReelModel" "waits" "Z" ∈ wsL_law0 := zr_18 _ (List.mem_of_getElem? (i := 6) rfl)
theorem zw_18_7 : Cond.methodLink RX12 58 yX12_byteAt ∈ wsL_law0 := zr_18 _ (List.mem_of_getElem? (i := 7) rfl)
theorem zw_18_8 : Cond.instanceMethod yX12_byteAt ∈ wsL_law0 := zr_18 _ (List.mem_of_getElem? (i := 8) rfl)
theorem zw_18_9 : Cond.selects RX12 yX12_byteAt yX12_byteAt ∈ wsL_law0 := zr_18 _ (List.mem_of_getElem? (i := 9) rfl)
theorem zw_18_10 : Cond.code yX12_byteAt cX12_byteAt 2 (some .int) ∈ wsL_law0 := zr_18 _ (List.mem_of_getElem? (i := 10) rfl)
theorem zw_18_11 : Cond.methodLink RX12 200 yX12_mark ∈ wsL_law0 := zr_18 _ (List.mem_of_getElem? (i := 11) rfl)
theorem zw_18_12 : Cond.static yX12_mark ∈ wsL_law0 := zr_18 _ (List.mem_of_getElem? (i := 12) rfl)
theorem zw_18_13 : Cond.code yX12_mark cX12_mark 1 (some .int) ∈ wsL_law0 := zr_18 _ (List.mem_of_getElem? (i := 13) rfl)
theorem zw_18_14 : Cond.methodLink RX12 134 yX12_number ∈ wsL_law0 := zr_18 _ (List.mem_of_getElem? (i := 14) rfl)
theorem zw_18_15 : Cond.instanceMethod yX12_number ∈ wsL_law0 := zr_18 _ (List.mem_of_getElem? (i := 15) rfl)
theorem zw_18_16 : Cond.selects RX12 yX12_number yX12_number ∈ wsL_law0 := zr_18 _ (List.mem_of_getElem? (i := 16) rfl)
theorem zw_18_17 : Cond.code yX12_number cX12_number 2 (some .int) ∈ wsL_law0 := zr_18 _ (List.mem_of_getElem? (i := 17) rfl)
theorem zw_18_18 : Cond.methodLink RX12 203 yX12_nextSum ∈ wsL_law0 := zr_18 _ (List.mem_of_getElem? (i := 18) rfl)
theorem zw_18_19 : Cond.static yX12_nextSum ∈ wsL_law0 := zr_18 _ (List.mem_of_getElem? (i := 19) rfl)
theorem zw_18_20 : Cond.code yX12_nextSum cX12_nextSum 4 (some .int) ∈ wsL_law0 := zr_18 _ (List.mem_of_getElem? (i := 20) rfl)
theorem zw_18_21 : Cond.constant RX12 62 (-306674912) ∈ wsL_law0 := zr_18 _ (List.mem_of_getElem? (i := 21) rfl)
theorem zw_18_22 : Cond.methodLink RX12 180 yX12_isType ∈ wsL_law0 := zr_18 _ (List.mem_of_getElem? (i := 22) rfl)
theorem zw_18_23 : Cond.instanceMethod yX12_isType ∈ wsL_law0 := zr_18 _ (List.mem_of_getElem? (i := 23) rfl)
theorem zw_19_0 : Cond.selects RX12 yX12_isType yX12_isType ∈ wsL_law0 := zr_19 _ (List.mem_of_getElem? (i := 0) rfl)
theorem zw_19_1 : Cond.code yX12_isType cX12_isType 6 (some .boolean) ∈ wsL_law0 := zr_19 _ (List.mem_of_getElem? (i := 1) rfl)
theorem zw_19_2 : Cond.methodLink RX12 206 yX12_finishPicture ∈ wsL_law0 := zr_19 _ (List.mem_of_getElem? (i := 2) rfl)
theorem zw_19_3 : Cond.instanceMethod yX12_finishPicture ∈ wsL_law0 := zr_19 _ (List.mem_of_getElem? (i := 3) rfl)
theorem zw_19_4 : Cond.selects RX12 yX12_finishPicture yX12_finishPicture ∈ wsL_law0 := zr_19 _ (List.mem_of_getElem? (i := 4) rfl)
theorem zw_19_5 : Cond.code yX12_finishPicture cX12_finishPicture 4 (some .int) ∈ wsL_law0 := zr_19 _ (List.mem_of_getElem? (i := 5) rfl)
theorem zw_19_6 : Cond.methodLink RX12 169 yX12_unpack ∈ wsL_law0 := zr_19 _ (List.mem_of_getElem? (i := 6) rfl)
theorem zw_19_7 : Cond.instanceMethod yX12_unpack ∈ wsL_law0 := zr_19 _ (List.mem_of_getElem? (i := 7) rfl)
theorem zw_19_8 : Cond.selects RX12 yX12_unpack yX12_unpack ∈ wsL_law0 := zr_19 _ (List.mem_of_getElem? (i := 8) rfl)
theorem zw_19_9 : Cond.code yX12_unpack cX12_unpack 7 (some .boolean) ∈ wsL_law0 := zr_19 _ (List.mem_of_getElem? (i := 9) rfl)
theorem zw_19_10 : Cond.fieldLink RX12 63 "FrameReelModel" "at" "I" ∈ wsL_law0 := zr_19 _ (List.mem_of_getElem? (i := 10) rfl)
theorem zw_19_11 : Cond.fieldLink RX12 73 "FrameReelModel" "bit" "I" ∈ wsL_law0 := zr_19 _ (List.mem_of_getElem? (i := 11) rfl)
theorem zw_19_12 : Cond.fieldLink RX12 66 "FrameReelModel" "packed" "I" ∈ wsL_law0 := zr_19 _ (List.mem_of_getElem? (i := 12) rfl)
theorem zw_19_13 : Cond.fieldLink RX12 69 "FrameReelModel" "bad" "Z" ∈ wsL_law0 := zr_19 _ (List.mem_of_getElem? (i := 13) rfl)
theorem zw_19_14 : Cond.fieldLink RX12 76 "FrameReelModel" "madeSize" "I" ∈ wsL_law0 := zr_19 _ (List.mem_of_getElem? (i := 14) rfl)
theorem zw_19_15 : Cond.constant RX12 129 (65521) ∈ wsL_law0 := zr_19 _ (List.mem_of_getElem? (i := 15) rfl)
theorem zw_19_16 : Cond.methodLink RX12 80 yX12_bits ∈ wsL_law0 := zr_19 _ (List.mem_of_getElem? (i := 16) rfl)
theorem zw_19_17 : Cond.instanceMethod yX12_bits ∈ wsL_law0 := zr_19 _ (List.mem_of_getElem? (i := 17) rfl)
theorem zw_19_18 : Cond.selects RX12 yX12_bits yX12_bits ∈ wsL_law0 := zr_19 _ (List.mem_of_getElem? (i := 18) rfl)
theorem zw_19_19 : Cond.code yX12_bits cX12_bits 4 (some .int) ∈ wsL_law0 := zr_19 _ (List.mem_of_getElem? (i := 19) rfl)
theorem zw_19_20 : Cond.methodLink RX12 120 yX12_plain ∈ wsL_law0 := zr_19 _ (List.mem_of_getElem? (i := 20) rfl)
theorem zw_19_21 : Cond.instanceMethod yX12_plain ∈ wsL_law0 := zr_19 _ (List.mem_of_getElem? (i := 21) rfl)
theorem zw_19_22 : Cond.selects RX12 yX12_plain yX12_plain ∈ wsL_law0 := zr_19 _ (List.mem_of_getElem? (i := 22) rfl)
theorem zw_19_23 : Cond.code yX12_plain cX12_plain 5 none ∈ wsL_law0 := zr_19 _ (List.mem_of_getElem? (i := 23) rfl)
theorem zw_20_0 : Cond.constant RX12 109 (65535) ∈ wsL_law0 := zr_20 _ (List.mem_of_getElem? (i := 0) rfl)
theorem zw_20_1 : Cond.methodLink RX12 106 yX12_evenOut ∈ wsL_law0 := zr_20 _ (List.mem_of_getElem? (i := 1) rfl)
theorem zw_20_2 : Cond.instanceMethod yX12_evenOut ∈ wsL_law0 := zr_20 _ (List.mem_of_getElem? (i := 2) rfl)
theorem zw_20_3 : Cond.selects RX12 yX12_evenOut yX12_evenOut ∈ wsL_law0 := zr_20 _ (List.mem_of_getElem? (i := 3) rfl)
theorem zw_20_4 : Cond.code yX12_evenOut cX12_evenOut 1 none ∈ wsL_law0 := zr_20 _ (List.mem_of_getElem? (i := 4) rfl)
theorem zw_20_5 : Cond.methodLink RX12 98 yX12_emit ∈ wsL_law0 := zr_20 _ (List.mem_of_getElem? (i := 5) rfl)
theorem zw_20_6 : Cond.instanceMethod yX12_emit ∈ wsL_law0 := zr_20 _ (List.mem_of_getElem? (i := 6) rfl)
theorem zw_20_7 : Cond.selects RX12 yX12_emit yX12_emit ∈ wsL_law0 := zr_20 _ (List.mem_of_getElem? (i := 7) rfl)
theorem zw_20_8 : Cond.code yX12_emit cX12_emit 2 none ∈ wsL_law0 := zr_20 _ (List.mem_of_getElem? (i := 8) rfl)
theorem zw_20_9 : Cond.methodLink RX12 123 yX12_fixed ∈ wsL_law0 := zr_20 _ (List.mem_of_getElem? (i := 9) rfl)
theorem zw_20_10 : Cond.instanceMethod yX12_fixed ∈ wsL_law0 := zr_20 _ (List.mem_of_getElem? (i := 10) rfl)
theorem zw_20_11 : Cond.selects RX12 yX12_fixed yX12_fixed ∈ wsL_law0 := zr_20 _ (List.mem_of_getElem? (i := 11) rfl)
theorem zw_20_12 : Cond.code yX12_fixed cX12_fixed 2 none ∈ wsL_law0 := zr_20 _ (List.mem_of_getElem? (i := 12) rfl)
theorem zw_20_13 : Cond.methodLink RX12 110 yX12_makeCodes ∈ wsL_law0 := zr_20 _ (List.mem_of_getElem? (i := 13) rfl)
theorem zw_20_14 : Cond.instanceMethod yX12_makeCodes ∈ wsL_law0 := zr_20 _ (List.mem_of_getElem? (i := 14) rfl)
theorem zw_20_15 : Cond.selects RX12 yX12_makeCodes yX12_makeCodes ∈ wsL_law0 := zr_20 _ (List.mem_of_getElem? (i := 15) rfl)
theorem zw_20_16 : Cond.code yX12_makeCodes cX12_makeCodes 9 none ∈ wsL_law0 := zr_20 _ (List.mem_of_getElem? (i := 16) rfl)
theorem zw_20_17 : Cond.constant RX12 79 (32768) ∈ wsL_law0 := zr_20 _ (List.mem_of_getElem? (i := 17) rfl)
theorem zw_20_18 : Cond.methodLink RX12 114 yX12_coded ∈ wsL_law0 := zr_20 _ (List.mem_of_getElem? (i := 18) rfl)
theorem zw_20_19 : Cond.instanceMethod yX12_coded ∈ wsL_law0 := zr_20 _ (List.mem_of_getElem? (i := 19) rfl)
theorem zw_20_20 : Cond.selects RX12 yX12_coded yX12_coded ∈ wsL_law0 := zr_20 _ (List.mem_of_getElem? (i := 20) rfl)
theorem zw_20_21 : Cond.code yX12_coded cX12_coded 5 none ∈ wsL_law0 := zr_20 _ (List.mem_of_getElem? (i := 21) rfl)
theorem zw_20_22 : Cond.methodLink RX12 92 yX12_symbol ∈ wsL_law0 := zr_20 _ (List.mem_of_getElem? (i := 22) rfl)
theorem zw_20_23 : Cond.instanceMethod yX12_symbol ∈ wsL_law0 := zr_20 _ (List.mem_of_getElem? (i := 23) rfl)
theorem zw_21_0 : Cond.selects RX12 yX12_symbol yX12_symbol ∈ wsL_law0 := zr_21 _ (List.mem_of_getElem? (i := 0) rfl)
theorem zw_21_1 : Cond.code yX12_symbol cX12_symbol 6 (some .int) ∈ wsL_law0 := zr_21 _ (List.mem_of_getElem? (i := 1) rfl)
theorem zw_21_2 : Cond.methodLink RX12 102 yX12_match ∈ wsL_law0 := zr_21 _ (List.mem_of_getElem? (i := 2) rfl)
theorem zw_21_3 : Cond.instanceMethod yX12_match ∈ wsL_law0 := zr_21 _ (List.mem_of_getElem? (i := 3) rfl)
theorem zw_21_4 : Cond.selects RX12 yX12_match yX12_match ∈ wsL_law0 := zr_21 _ (List.mem_of_getElem? (i := 4) rfl)
theorem zw_21_5 : Cond.code yX12_match cX12_match 7 none ∈ wsL_law0 := zr_21 _ (List.mem_of_getElem? (i := 5) rfl)
theorem zw_21_6 : Cond.methodLink RX12 89 yX12_lengthBase ∈ wsL_law0 := zr_21 _ (List.mem_of_getElem? (i := 6) rfl)
theorem zw_21_7 : Cond.static yX12_lengthBase ∈ wsL_law0 := zr_21 _ (List.mem_of_getElem? (i := 7) rfl)
theorem zw_21_8 : Cond.code yX12_lengthBase cX12_lengthBase 3 (some .int) ∈ wsL_law0 := zr_21 _ (List.mem_of_getElem? (i := 8) rfl)
theorem zw_21_9 : Cond.methodLink RX12 83 yX12_lengthBits ∈ wsL_law0 := zr_21 _ (List.mem_of_getElem? (i := 9) rfl)
theorem zw_21_10 : Cond.static yX12_lengthBits ∈ wsL_law0 := zr_21 _ (List.mem_of_getElem? (i := 10) rfl)
theorem zw_21_11 : Cond.code yX12_lengthBits cX12_lengthBits 1 (some .int) ∈ wsL_law0 := zr_21 _ (List.mem_of_getElem? (i := 11) rfl)
theorem zw_21_12 : Cond.methodLink RX12 95 yX12_distanceBase ∈ wsL_law0 := zr_21 _ (List.mem_of_getElem? (i := 12) rfl)
theorem zw_21_13 : Cond.static yX12_distanceBase ∈ wsL_law0 := zr_21 _ (List.mem_of_getElem? (i := 13) rfl)
theorem zw_21_14 : Cond.code yX12_distanceBase cX12_distanceBase 3 (some .int) ∈ wsL_law0 := zr_21 _ (List.mem_of_getElem? (i := 14) rfl)
theorem zw_21_15 : Cond.methodLink RX12 86 yX12_distanceBits ∈ wsL_law0 := zr_21 _ (List.mem_of_getElem? (i := 15) rfl)
theorem zw_21_16 : Cond.static yX12_distanceBits ∈ wsL_law0 := zr_21 _ (List.mem_of_getElem? (i := 16) rfl)
theorem zw_21_17 : Cond.code yX12_distanceBits cX12_distanceBits 1 (some .int) ∈ wsL_law0 := zr_21 _ (List.mem_of_getElem? (i := 17) rfl)
theorem zw_21_18 : Cond.methodLink RX12 126 yX12_told ∈ wsL_law0 := zr_21 _ (List.mem_of_getElem? (i := 18) rfl)
theorem zw_21_19 : Cond.instanceMethod yX12_told ∈ wsL_law0 := zr_21 _ (List.mem_of_getElem? (i := 19) rfl)
theorem zw_21_20 : Cond.selects RX12 yX12_told yX12_told ∈ wsL_law0 := zr_21 _ (List.mem_of_getElem? (i := 20) rfl)
theorem zw_21_21 : Cond.code yX12_told cX12_told 10 none ∈ wsL_law0 := zr_21 _ (List.mem_of_getElem? (i := 21) rfl)
theorem zw_21_22 : Cond.methodLink RX12 117 yX12_orderOf ∈ wsL_law0 := zr_21 _ (List.mem_of_getElem? (i := 22) rfl)
theorem zw_21_23 : Cond.static yX12_orderOf ∈ wsL_law0 := zr_21 _ (List.mem_of_getElem? (i := 23) rfl)
theorem zw_22_0 : Cond.code yX12_orderOf cX12_orderOf 1 (some .int) ∈ wsL_law0 := zr_22 _ (List.mem_of_getElem? (i := 0) rfl)
theorem zw_22_1 : Cond.methodLink RX12 173 yX12_region ∈ wsL_law0 := zr_22 _ (List.mem_of_getElem? (i := 1) rfl)
theorem zw_22_2 : Cond.instanceMethod yX12_region ∈ wsL_law0 := zr_22 _ (List.mem_of_getElem? (i := 2) rfl)
theorem zw_22_3 : Cond.selects RX12 yX12_region yX12_region ∈ wsL_law0 := zr_22 _ (List.mem_of_getElem? (i := 3) rfl)
theorem zw_22_4 : Cond.code yX12_region cX12_region 4 (some .int) ∈ wsL_law0 := zr_22 _ (List.mem_of_getElem? (i := 4) rfl)
theorem zw_22_5 : Cond.methodLink RX12 176 yX12_unfilter ∈ wsL_law0 := zr_22 _ (List.mem_of_getElem? (i := 5) rfl)
theorem zw_22_6 : Cond.instanceMethod yX12_unfilter ∈ wsL_law0 := zr_22 _ (List.mem_of_getElem? (i := 6) rfl)
theorem zw_22_7 : Cond.selects RX12 yX12_unfilter yX12_unfilter ∈ wsL_law0 := zr_22 _ (List.mem_of_getElem? (i := 7) rfl)
theorem zw_22_8 : Cond.code yX12_unfilter cX12_unfilter 12 (some .boolean) ∈ wsL_law0 := zr_22 _ (List.mem_of_getElem? (i := 8) rfl)
theorem zw_22_9 : Cond.methodLink RX12 130 yX12_nearest ∈ wsL_law0 := zr_22 _ (List.mem_of_getElem? (i := 9) rfl)
theorem zw_22_10 : Cond.static yX12_nearest ∈ wsL_law0 := zr_22 _ (List.mem_of_getElem? (i := 10) rfl)
theorem zw_22_11 : Cond.code yX12_nearest cX12_nearest 7 (some .int) ∈ wsL_law0 := zr_22 _ (List.mem_of_getElem? (i := 11) rfl)
theorem zw_22_12 : Cond.methodLink RX12 210 yX12_takeHead ∈ wsL_law0 := zr_22 _ (List.mem_of_getElem? (i := 12) rfl)
theorem zw_22_13 : Cond.instanceMethod yX12_takeHead ∈ wsL_law0 := zr_22 _ (List.mem_of_getElem? (i := 13) rfl)
theorem zw_22_14 : Cond.selects RX12 yX12_takeHead yX12_takeHead ∈ wsL_law0 := zr_22 _ (List.mem_of_getElem? (i := 14) rfl)
theorem zw_22_15 : Cond.code yX12_takeHead cX12_takeHead 5 (some .boolean) ∈ wsL_law0 := zr_22 _ (List.mem_of_getElem? (i := 15) rfl)
theorem zw_22_16 : Cond.methodLink RX12 213 yX12_takeChunk ∈ wsL_law0 := zr_22 _ (List.mem_of_getElem? (i := 16) rfl)
theorem zw_22_17 : Cond.instanceMethod yX12_takeChunk ∈ wsL_law0 := zr_22 _ (List.mem_of_getElem? (i := 17) rfl)
theorem zw_22_18 : Cond.selects RX12 yX12_takeChunk yX12_takeChunk ∈ wsL_law0 := zr_22 _ (List.mem_of_getElem? (i := 18) rfl)
theorem zw_22_19 : Cond.code yX12_takeChunk cX12_takeChunk 7 (some .boolean) ∈ wsL_law0 := zr_22 _ (List.mem_of_getElem? (i := 19) rfl)
theorem zw_22_20 : Cond.methodLink RX12 186 yX12_append ∈ wsL_law0 := zr_22 _ (List.mem_of_getElem? (i := 20) rfl)
theorem zw_22_21 : Cond.instanceMethod yX12_append ∈ wsL_law0 := zr_22 _ (List.mem_of_getElem? (i := 21) rfl)
theorem zw_22_22 : Cond.selects RX12 yX12_append yX12_append ∈ wsL_law0 := zr_22 _ (List.mem_of_getElem? (i := 22) rfl)
theorem zw_22_23 : Cond.code yX12_append cX12_append 4 none ∈ wsL_law0 := zr_22 _ (List.mem_of_getElem? (i := 23) rfl)
theorem zw_23_0 : Cond.methodLink RX12 189 yX12_takeCount ∈ wsL_law0 := zr_23 _ (List.mem_of_getElem? (i := 0) rfl)
theorem zw_23_1 : Cond.instanceMethod yX12_takeCount ∈ wsL_law0 := zr_23 _ (List.mem_of_getElem? (i := 1) rfl)
theorem zw_23_2 : Cond.selects RX12 yX12_takeCount yX12_takeCount ∈ wsL_law0 := zr_23 _ (List.mem_of_getElem? (i := 2) rfl)
theorem zw_23_3 : Cond.code yX12_takeCount cX12_takeCount 3 (some .boolean) ∈ wsL_law0 := zr_23 _ (List.mem_of_getElem? (i := 3) rfl)
theorem zw_23_4 : Cond.methodLink RX12 193 yX12_takeControl ∈ wsL_law0 := zr_23 _ (List.mem_of_getElem? (i := 4) rfl)
theorem zw_23_5 : Cond.instanceMethod yX12_takeControl ∈ wsL_law0 := zr_23 _ (List.mem_of_getElem? (i := 5) rfl)
theorem zw_23_6 : Cond.selects RX12 yX12_takeControl yX12_takeControl ∈ wsL_law0 := zr_23 _ (List.mem_of_getElem? (i := 6) rfl)
theorem zw_23_7 : Cond.code yX12_takeControl cX12_takeControl 9 (some .boolean) ∈ wsL_law0 := zr_23 _ (List.mem_of_getElem? (i := 7) rfl)
theorem zw_23_8 : Cond.methodLink RX12 152 yX12_isRegion ∈ wsL_law0 := zr_23 _ (List.mem_of_getElem? (i := 8) rfl)
theorem zw_23_9 : Cond.instanceMethod yX12_isRegion ∈ wsL_law0 := zr_23 _ (List.mem_of_getElem? (i := 9) rfl)
theorem zw_23_10 : Cond.selects RX12 yX12_isRegion yX12_isRegion ∈ wsL_law0 := zr_23 _ (List.mem_of_getElem? (i := 10) rfl)
theorem zw_23_11 : Cond.code yX12_isRegion cX12_isRegion 8 (some .boolean) ∈ wsL_law0 := zr_23 _ (List.mem_of_getElem? (i := 11) rfl)
theorem zw_23_12 : Cond.methodLink RX12 156 yX12_setRegion ∈ wsL_law0 := zr_23 _ (List.mem_of_getElem? (i := 12) rfl)
theorem zw_23_13 : Cond.instanceMethod yX12_setRegion ∈ wsL_law0 := zr_23 _ (List.mem_of_getElem? (i := 13) rfl)
theorem zw_23_14 : Cond.selects RX12 yX12_setRegion yX12_setRegion ∈ wsL_law0 := zr_23 _ (List.mem_of_getElem? (i := 14) rfl)
theorem zw_23_15 : Cond.code yX12_setRegion cX12_setRegion 10 none ∈ wsL_law0 := zr_23 _ (List.mem_of_getElem? (i := 15) rfl)
theorem zw_23_16 : Cond.methodLink RX12 196 yX12_isLetter ∈ wsL_law0 := zr_23 _ (List.mem_of_getElem? (i := 16) rfl)
theorem zw_23_17 : Cond.static yX12_isLetter ∈ wsL_law0 := zr_23 _ (List.mem_of_getElem? (i := 17) rfl)
theorem zw_23_18 : Cond.code yX12_isLetter cX12_isLetter 1 (some .boolean) ∈ wsL_law0 := zr_23 _ (List.mem_of_getElem? (i := 18) rfl)
theorem zw_24_7 : Cond.methodLink RX11 88 yX5_start ∈ wsL_law0 := zr_24 _ (List.mem_of_getElem? (i := 7) rfl)
theorem zw_24_8 : Cond.methodLink RX11 99 yX3_clear ∈ wsL_law0 := zr_24 _ (List.mem_of_getElem? (i := 8) rfl)
theorem zw_24_9 : Cond.instanceMethod yX3_clear ∈ wsL_law0 := zr_24 _ (List.mem_of_getElem? (i := 9) rfl)
theorem zw_24_10 : Cond.selects RX3 yX3_clear yX3_clear ∈ wsL_law0 := zr_24 _ (List.mem_of_getElem? (i := 10) rfl)
theorem zw_24_11 : Cond.code yX3_clear cX3_clear 1 none ∈ wsL_law0 := zr_24 _ (List.mem_of_getElem? (i := 11) rfl)
theorem zw_24_12 : Cond.methodLink RX3 15 yJ7_fill_53178 ∈ wsL_law0 := zr_24 _ (List.mem_of_getElem? (i := 12) rfl)
theorem zw_24_17 : Cond.methodLink RX12 222 yX12_wipe ∈ wsL_law0 := zr_24 _ (List.mem_of_getElem? (i := 17) rfl)
theorem zw_24_18 : Cond.instanceMethod yX12_wipe ∈ wsL_law0 := zr_24 _ (List.mem_of_getElem? (i := 18) rfl)
theorem zw_24_19 : Cond.selects RX12 yX12_wipe yX12_wipe ∈ wsL_law0 := zr_24 _ (List.mem_of_getElem? (i := 19) rfl)
theorem zw_24_20 : Cond.code yX12_wipe cX12_wipe 3 none ∈ wsL_law0 := zr_24 _ (List.mem_of_getElem? (i := 20) rfl)
theorem zw_25_1 : Cond.methodLink RX11 106 yX5_allows ∈ wsL_law0 := zr_25 _ (List.mem_of_getElem? (i := 1) rfl)
theorem zw_25_2 : Cond.methodLink RX11 110 yX5_add ∈ wsL_law0 := zr_25 _ (List.mem_of_getElem? (i := 2) rfl)
theorem zw_25_11 : Cond.methodLink RX11 117 yX11_paintable ∈ wsL_law0 := zr_25 _ (List.mem_of_getElem? (i := 11) rfl)
theorem zw_25_12 : Cond.instanceMethod yX11_paintable ∈ wsL_law0 := zr_25 _ (List.mem_of_getElem? (i := 12) rfl)
theorem zw_25_13 : Cond.selects RX11 yX11_paintable yX11_paintable ∈ wsL_law0 := zr_25 _ (List.mem_of_getElem? (i := 13) rfl)
theorem zw_25_14 : Cond.code yX11_paintable cX11_paintable 2 (some (.object "FrameReel$Picture")) ∈ wsL_law0 := zr_25 _ (List.mem_of_getElem? (i := 14) rfl)
theorem zw_25_15 : Cond.methodLink RX11 131 yX5_hasFrame ∈ wsL_law0 := zr_25 _ (List.mem_of_getElem? (i := 15) rfl)
theorem zw_25_16 : Cond.instanceMethod yX5_hasFrame ∈ wsL_law0 := zr_25 _ (List.mem_of_getElem? (i := 16) rfl)
theorem zw_25_17 : Cond.selects RX5 yX5_hasFrame yX5_hasFrame ∈ wsL_law0 := zr_25 _ (List.mem_of_getElem? (i := 17) rfl)
theorem zw_25_18 : Cond.code yX5_hasFrame cX5_hasFrame 2 (some .boolean) ∈ wsL_law0 := zr_25 _ (List.mem_of_getElem? (i := 18) rfl)
theorem zw_26_3 : Cond.methodLink RX11 137 yX5_firstIsCanvas ∈ wsL_law0 := zr_26 _ (List.mem_of_getElem? (i := 3) rfl)
theorem zw_26_12 : Cond.methodLink RX11 141 yX5_fact ∈ wsL_law0 := zr_26 _ (List.mem_of_getElem? (i := 12) rfl)
theorem zw_26_13 : Cond.instanceMethod yX5_fact ∈ wsL_law0 := zr_26 _ (List.mem_of_getElem? (i := 13) rfl)
theorem zw_26_14 : Cond.selects RX5 yX5_fact yX5_fact ∈ wsL_law0 := zr_26 _ (List.mem_of_getElem? (i := 14) rfl)
theorem zw_26_15 : Cond.code yX5_fact cX5_fact 2 (some .int) ∈ wsL_law0 := zr_26 _ (List.mem_of_getElem? (i := 15) rfl)
theorem zw_26_16 : Cond.fieldLink RX5 53 "FrameReel$Reel" "plays" "I" ∈ wsL_law0 := zr_26 _ (List.mem_of_getElem? (i := 16) rfl)
theorem zw_26_17 : Cond.methodLink RX11 145 yX3_fact ∈ wsL_law0 := zr_26 _ (List.mem_of_getElem? (i := 17) rfl)
theorem zw_26_18 : Cond.instanceMethod yX3_fact ∈ wsL_law0 := zr_26 _ (List.mem_of_getElem? (i := 18) rfl)
theorem zw_26_19 : Cond.selects RX3 yX3_fact yX3_fact ∈ wsL_law0 := zr_26 _ (List.mem_of_getElem? (i := 19) rfl)
theorem zw_26_20 : Cond.code yX3_fact cX3_fact 2 (some .int) ∈ wsL_law0 := zr_26 _ (List.mem_of_getElem? (i := 20) rfl)
theorem zw_26_21 : Cond.fieldLink RX3 21 "FrameReel$Picture" "width" "I" ∈ wsL_law0 := zr_26 _ (List.mem_of_getElem? (i := 21) rfl)
theorem zw_26_22 : Cond.fieldLink RX3 25 "FrameReel$Picture" "height" "I" ∈ wsL_law0 := zr_26 _ (List.mem_of_getElem? (i := 22) rfl)
theorem zw_26_23 : Cond.fieldLink RX3 28 "FrameReel$Picture" "x" "I" ∈ wsL_law0 := zr_26 _ (List.mem_of_getElem? (i := 23) rfl)
theorem zw_27_0 : Cond.fieldLink RX3 31 "FrameReel$Picture" "y" "I" ∈ wsL_law0 := zr_27 _ (List.mem_of_getElem? (i := 0) rfl)
theorem zw_27_1 : Cond.fieldLink RX3 34 "FrameReel$Picture" "dispose" "I" ∈ wsL_law0 := zr_27 _ (List.mem_of_getElem? (i := 1) rfl)
theorem zw_27_2 : Cond.fieldLink RX3 37 "FrameReel$Picture" "blend" "I" ∈ wsL_law0 := zr_27 _ (List.mem_of_getElem? (i := 2) rfl)
theorem zw_27_11 : Cond.methodLink RX11 146 yX7_compose ∈ wsL_law0 := zr_27 _ (List.mem_of_getElem? (i := 11) rfl)
theorem zw_27_12 : Cond.instanceMethod yX7_compose ∈ wsL_law0 := zr_27 _ (List.mem_of_getElem? (i := 12) rfl)
theorem zw_27_13 : Cond.selects RX7 yX7_compose yX7_compose ∈ wsL_law0 := zr_27 _ (List.mem_of_getElem? (i := 13) rfl)
theorem zw_27_14 : Cond.code yX7_compose cX7_compose 5 none ∈ wsL_law0 := zr_27 _ (List.mem_of_getElem? (i := 14) rfl)
theorem zw_27_15 : Cond.methodLink RX7 30 arraycopyName ∈ wsL_law0 := zr_27 _ (List.mem_of_getElem? (i := 15) rfl)
theorem zw_27_16 : Cond.native arraycopyName ∈ wsL_law0 := zr_27 _ (List.mem_of_getElem? (i := 16) rfl)
theorem zw_27_17 : Cond.static arraycopyName ∈ wsL_law0 := zr_27 _ (List.mem_of_getElem? (i := 17) rfl)
theorem zw_27_18 : Cond.initialized "java/lang/System" ∈ wsL_law0 := zr_27 _ (List.mem_of_getElem? (i := 18) rfl)
theorem zw_27_19 : Cond.methodLink RX7 40 yJ7_fill_53178 ∈ wsL_law0 := zr_27 _ (List.mem_of_getElem? (i := 19) rfl)
theorem zw_27_20 : Cond.methodLink RX7 50 yX7_draw ∈ wsL_law0 := zr_27 _ (List.mem_of_getElem? (i := 20) rfl)
theorem zw_27_21 : Cond.instanceMethod yX7_draw ∈ wsL_law0 := zr_27 _ (List.mem_of_getElem? (i := 21) rfl)
theorem zw_27_22 : Cond.selects RX7 yX7_draw yX7_draw ∈ wsL_law0 := zr_27 _ (List.mem_of_getElem? (i := 22) rfl)
theorem zw_27_23 : Cond.code yX7_draw cX7_draw 6 none ∈ wsL_law0 := zr_27 _ (List.mem_of_getElem? (i := 23) rfl)
theorem zw_28_0 : Cond.methodLink RX7 66 yX7_blended ∈ wsL_law0 := zr_28 _ (List.mem_of_getElem? (i := 0) rfl)
theorem zw_28_1 : Cond.static yX7_blended ∈ wsL_law0 := zr_28 _ (List.mem_of_getElem? (i := 1) rfl)
theorem zw_28_2 : Cond.code yX7_blended cX7_blended 9 (some .int) ∈ wsL_law0 := zr_28 _ (List.mem_of_getElem? (i := 2) rfl)
theorem zw_28_3 : Cond.methodLink RX7 54 yX7_dispose ∈ wsL_law0 := zr_28 _ (List.mem_of_getElem? (i := 3) rfl)
theorem zw_28_4 : Cond.instanceMethod yX7_dispose ∈ wsL_law0 := zr_28 _ (List.mem_of_getElem? (i := 4) rfl)
theorem zw_28_5 : Cond.selects RX7 yX7_dispose yX7_dispose ∈ wsL_law0 := zr_28 _ (List.mem_of_getElem? (i := 5) rfl)
theorem zw_28_6 : Cond.code yX7_dispose cX7_dispose 5 none ∈ wsL_law0 := zr_28 _ (List.mem_of_getElem? (i := 6) rfl)
theorem zw_28_7 : Cond.methodLink RX11 150 yX5_defaultPicture ∈ wsL_law0 := zr_28 _ (List.mem_of_getElem? (i := 7) rfl)
theorem zw_28_8 : Cond.methodLink RX11 154 yX7_copy ∈ wsL_law0 := zr_28 _ (List.mem_of_getElem? (i := 8) rfl)
theorem zw_28_9 : Cond.instanceMethod yX7_copy ∈ wsL_law0 := zr_28 _ (List.mem_of_getElem? (i := 9) rfl)
theorem zw_28_10 : Cond.selects RX7 yX7_copy yX7_copy ∈ wsL_law0 := zr_28 _ (List.mem_of_getElem? (i := 10) rfl)
theorem zw_28_11 : Cond.code yX7_copy cX7_copy 2 none ∈ wsL_law0 := zr_28 _ (List.mem_of_getElem? (i := 11) rfl)
theorem zw_28_16 : Cond.fieldLink RX12 225 "FrameReelModel" "shownWidth" "I" ∈ wsL_law0 := zr_28 _ (List.mem_of_getElem? (i := 16) rfl)
theorem zw_28_17 : Cond.fieldLink RX12 231 "FrameReelModel" "shownHeight" "I" ∈ wsL_law0 := zr_28 _ (List.mem_of_getElem? (i := 17) rfl)
theorem zw_28_18 : Cond.methodLink RX12 234 yX12_lay ∈ wsL_law0 := zr_28 _ (List.mem_of_getElem? (i := 18) rfl)
theorem zw_28_19 : Cond.instanceMethod yX12_lay ∈ wsL_law0 := zr_28 _ (List.mem_of_getElem? (i := 19) rfl)
theorem zw_28_20 : Cond.selects RX12 yX12_lay yX12_lay ∈ wsL_law0 := zr_28 _ (List.mem_of_getElem? (i := 20) rfl)
theorem zw_28_21 : Cond.code yX12_lay cX12_lay 7 none ∈ wsL_law0 := zr_28 _ (List.mem_of_getElem? (i := 21) rfl)
theorem zw_28_22 : Cond.methodLink RX12 228 yX12_over ∈ wsL_law0 := zr_28 _ (List.mem_of_getElem? (i := 22) rfl)
theorem zw_28_23 : Cond.static yX12_over ∈ wsL_law0 := zr_28 _ (List.mem_of_getElem? (i := 23) rfl)
theorem zw_29_0 : Cond.code yX12_over cX12_over 8 (some .int) ∈ wsL_law0 := zr_29 _ (List.mem_of_getElem? (i := 0) rfl)
theorem zw_29_1 : Cond.methodLink RX12 237 yX12_dispose ∈ wsL_law0 := zr_29 _ (List.mem_of_getElem? (i := 1) rfl)
theorem zw_29_2 : Cond.instanceMethod yX12_dispose ∈ wsL_law0 := zr_29 _ (List.mem_of_getElem? (i := 2) rfl)
theorem zw_29_3 : Cond.selects RX12 yX12_dispose yX12_dispose ∈ wsL_law0 := zr_29 _ (List.mem_of_getElem? (i := 3) rfl)
theorem zw_29_4 : Cond.code yX12_dispose cX12_dispose 7 none ∈ wsL_law0 := zr_29 _ (List.mem_of_getElem? (i := 4) rfl)
theorem zw_30_8 : Cond.methodLink RX11 167 yX10_run ∈ wsL_law0 := zr_30 _ (List.mem_of_getElem? (i := 8) rfl)
theorem zw_30_9 : Cond.instanceMethod yX10_run ∈ wsL_law0 := zr_30 _ (List.mem_of_getElem? (i := 9) rfl)
theorem zw_30_10 : Cond.selects RX10 yX10_run yX10_run ∈ wsL_law0 := zr_30 _ (List.mem_of_getElem? (i := 10) rfl)
theorem zw_30_11 : Cond.code yX10_run cX10_run 3 none ∈ wsL_law0 := zr_30 _ (List.mem_of_getElem? (i := 11) rfl)
theorem zw_30_12 : Cond.fieldLink RX10 27 "FrameReel$Writer" "serial" "I" ∈ wsL_law0 := zr_30 _ (List.mem_of_getElem? (i := 12) rfl)
theorem zw_30_13 : Cond.constant RX10 31 (-1991225785) ∈ wsL_law0 := zr_30 _ (List.mem_of_getElem? (i := 13) rfl)
theorem zw_30_14 : Cond.constant RX10 35 (218765834) ∈ wsL_law0 := zr_30 _ (List.mem_of_getElem? (i := 14) rfl)
theorem zw_30_15 : Cond.constant RX10 40 (1633899596) ∈ wsL_law0 := zr_30 _ (List.mem_of_getElem? (i := 15) rfl)
theorem zw_30_16 : Cond.constant RX10 78 (1229278788) ∈ wsL_law0 := zr_30 _ (List.mem_of_getElem? (i := 16) rfl)
theorem zw_30_17 : Cond.methodLink RX10 24 yX1_clear ∈ wsL_law0 := zr_30 _ (List.mem_of_getElem? (i := 17) rfl)
theorem zw_30_18 : Cond.methodLink RX10 32 yX1_addNumber ∈ wsL_law0 := zr_30 _ (List.mem_of_getElem? (i := 18) rfl)
theorem zw_30_19 : Cond.methodLink RX10 36 yX10_addHead ∈ wsL_law0 := zr_30 _ (List.mem_of_getElem? (i := 19) rfl)
theorem zw_30_20 : Cond.instanceMethod yX10_addHead ∈ wsL_law0 := zr_30 _ (List.mem_of_getElem? (i := 20) rfl)
theorem zw_30_21 : Cond.selects RX10 yX10_addHead yX10_addHead ∈ wsL_law0 := zr_30 _ (List.mem_of_getElem? (i := 21) rfl)
theorem zw_30_22 : Cond.code yX10_addHead cX10_addHead 2 none ∈ wsL_law0 := zr_30 _ (List.mem_of_getElem? (i := 22) rfl)
theorem zw_30_23 : Cond.constant RX10 91 (1229472850) ∈ wsL_law0 := zr_30 _ (List.mem_of_getElem? (i := 23) rfl)
theorem zw_31_0 : Cond.constant RX10 98 (134610944) ∈ wsL_law0 := zr_31 _ (List.mem_of_getElem? (i := 0) rfl)
theorem zw_31_1 : Cond.methodLink RX10 41 yX10_openChunk ∈ wsL_law0 := zr_31 _ (List.mem_of_getElem? (i := 1) rfl)
theorem zw_31_2 : Cond.instanceMethod yX10_openChunk ∈ wsL_law0 := zr_31 _ (List.mem_of_getElem? (i := 2) rfl)
theorem zw_31_3 : Cond.selects RX10 yX10_openChunk yX10_openChunk ∈ wsL_law0 := zr_31 _ (List.mem_of_getElem? (i := 3) rfl)
theorem zw_31_4 : Cond.code yX10_openChunk cX10_openChunk 3 none ∈ wsL_law0 := zr_31 _ (List.mem_of_getElem? (i := 4) rfl)
theorem zw_31_5 : Cond.fieldLink RX10 82 "FrameReel$Writer" "typeAt" "I" ∈ wsL_law0 := zr_31 _ (List.mem_of_getElem? (i := 5) rfl)
theorem zw_31_6 : Cond.methodLink RX10 99 yX1_add ∈ wsL_law0 := zr_31 _ (List.mem_of_getElem? (i := 6) rfl)
theorem zw_31_7 : Cond.methodLink RX10 53 yX10_closeChunk ∈ wsL_law0 := zr_31 _ (List.mem_of_getElem? (i := 7) rfl)
theorem zw_31_8 : Cond.instanceMethod yX10_closeChunk ∈ wsL_law0 := zr_31 _ (List.mem_of_getElem? (i := 8) rfl)
theorem zw_31_9 : Cond.selects RX10 yX10_closeChunk yX10_closeChunk ∈ wsL_law0 := zr_31 _ (List.mem_of_getElem? (i := 9) rfl)
theorem zw_31_10 : Cond.code yX10_closeChunk cX10_closeChunk 1 none ∈ wsL_law0 := zr_31 _ (List.mem_of_getElem? (i := 10) rfl)
theorem zw_31_11 : Cond.methodLink RX10 85 yX8_ofChunk ∈ wsL_law0 := zr_31 _ (List.mem_of_getElem? (i := 11) rfl)
theorem zw_31_12 : Cond.methodLink RX10 64 yX10_addControl ∈ wsL_law0 := zr_31 _ (List.mem_of_getElem? (i := 12) rfl)
theorem zw_31_13 : Cond.instanceMethod yX10_addControl ∈ wsL_law0 := zr_31 _ (List.mem_of_getElem? (i := 13) rfl)
theorem zw_31_14 : Cond.selects RX10 yX10_addControl yX10_addControl ∈ wsL_law0 := zr_31 _ (List.mem_of_getElem? (i := 14) rfl)
theorem zw_31_15 : Cond.code yX10_addControl cX10_addControl 2 none ∈ wsL_law0 := zr_31 _ (List.mem_of_getElem? (i := 15) rfl)
theorem zw_31_16 : Cond.constant RX10 102 (1717785676) ∈ wsL_law0 := zr_31 _ (List.mem_of_getElem? (i := 16) rfl)
theorem zw_31_17 : Cond.constant RX10 116 (65546) ∈ wsL_law0 := zr_31 _ (List.mem_of_getElem? (i := 17) rfl)
theorem zw_31_18 : Cond.methodLink RX10 103 yX10_addSerial ∈ wsL_law0 := zr_31 _ (List.mem_of_getElem? (i := 18) rfl)
theorem zw_31_19 : Cond.instanceMethod yX10_addSerial ∈ wsL_law0 := zr_31 _ (List.mem_of_getElem? (i := 19) rfl)
theorem zw_31_20 : Cond.selects RX10 yX10_addSerial yX10_addSerial ∈ wsL_law0 := zr_31 _ (List.mem_of_getElem? (i := 20) rfl)
theorem zw_31_21 : Cond.code yX10_addSerial cX10_addSerial 1 none ∈ wsL_law0 := zr_31 _ (List.mem_of_getElem? (i := 21) rfl)
theorem zw_31_22 : Cond.methodLink RX10 68 yX5_defaultPicture ∈ wsL_law0 := zr_31 _ (List.mem_of_getElem? (i := 22) rfl)
theorem zw_31_23 : Cond.methodLink RX10 72 yX10_addDefaultData ∈ wsL_law0 := zr_31 _ (List.mem_of_getElem? (i := 23) rfl)
theorem zw_32_0 : Cond.instanceMethod yX10_addDefaultData ∈ wsL_law0 := zr_32 _ (List.mem_of_getElem? (i := 0) rfl)
theorem zw_32_1 : Cond.selects RX10 yX10_addDefaultData yX10_addDefaultData ∈ wsL_law0 := zr_32 _ (List.mem_of_getElem? (i := 1) rfl)
theorem zw_32_2 : Cond.code yX10_addDefaultData cX10_addDefaultData 2 none ∈ wsL_law0 := zr_32 _ (List.mem_of_getElem? (i := 2) rfl)
theorem zw_32_3 : Cond.constant RX10 127 (1229209940) ∈ wsL_law0 := zr_32 _ (List.mem_of_getElem? (i := 3) rfl)
theorem zw_32_4 : Cond.methodLink RX10 123 yX10_rawSize ∈ wsL_law0 := zr_32 _ (List.mem_of_getElem? (i := 4) rfl)
theorem zw_32_5 : Cond.static yX10_rawSize ∈ wsL_law0 := zr_32 _ (List.mem_of_getElem? (i := 5) rfl)
theorem zw_32_6 : Cond.code yX10_rawSize cX10_rawSize 1 (some .int) ∈ wsL_law0 := zr_32 _ (List.mem_of_getElem? (i := 6) rfl)
theorem zw_32_7 : Cond.methodLink RX10 128 yX10_addPacked ∈ wsL_law0 := zr_32 _ (List.mem_of_getElem? (i := 7) rfl)
theorem zw_32_8 : Cond.instanceMethod yX10_addPacked ∈ wsL_law0 := zr_32 _ (List.mem_of_getElem? (i := 8) rfl)
theorem zw_32_9 : Cond.selects RX10 yX10_addPacked yX10_addPacked ∈ wsL_law0 := zr_32 _ (List.mem_of_getElem? (i := 9) rfl)
theorem zw_32_10 : Cond.code yX10_addPacked cX10_addPacked 6 none ∈ wsL_law0 := zr_32 _ (List.mem_of_getElem? (i := 10) rfl)
theorem zw_32_11 : Cond.methodLink RX10 138 yX8_ofRaw ∈ wsL_law0 := zr_32 _ (List.mem_of_getElem? (i := 11) rfl)
theorem zw_32_12 : Cond.methodLink RX10 75 yX10_addFrameData ∈ wsL_law0 := zr_32 _ (List.mem_of_getElem? (i := 12) rfl)
theorem zw_32_13 : Cond.instanceMethod yX10_addFrameData ∈ wsL_law0 := zr_32 _ (List.mem_of_getElem? (i := 13) rfl)
theorem zw_32_14 : Cond.selects RX10 yX10_addFrameData yX10_addFrameData ∈ wsL_law0 := zr_32 _ (List.mem_of_getElem? (i := 14) rfl)
theorem zw_32_15 : Cond.code yX10_addFrameData cX10_addFrameData 2 none ∈ wsL_law0 := zr_32 _ (List.mem_of_getElem? (i := 15) rfl)
theorem zw_32_16 : Cond.constant RX10 131 (1717846356) ∈ wsL_law0 := zr_32 _ (List.mem_of_getElem? (i := 16) rfl)
theorem zw_32_21 : Cond.fieldLink RX12 240 "FrameReelModel" "outSize" "I" ∈ wsL_law0 := zr_32 _ (List.mem_of_getElem? (i := 21) rfl)
theorem zw_32_22 : Cond.methodLink RX12 243 yX12_put ∈ wsL_law0 := zr_32 _ (List.mem_of_getElem? (i := 22) rfl)
theorem zw_32_23 : Cond.instanceMethod yX12_put ∈ wsL_law0 := zr_32 _ (List.mem_of_getElem? (i := 23) rfl)
theorem zw_33_0 : Cond.selects RX12 yX12_put yX12_put ∈ wsL_law0 := zr_33 _ (List.mem_of_getElem? (i := 0) rfl)
theorem zw_33_1 : Cond.code yX12_put cX12_put 2 none ∈ wsL_law0 := zr_33 _ (List.mem_of_getElem? (i := 1) rfl)
theorem zw_33_2 : Cond.methodLink RX12 249 yX12_beginChunk ∈ wsL_law0 := zr_33 _ (List.mem_of_getElem? (i := 2) rfl)
theorem zw_33_3 : Cond.instanceMethod yX12_beginChunk ∈ wsL_law0 := zr_33 _ (List.mem_of_getElem? (i := 3) rfl)
theorem zw_33_4 : Cond.selects RX12 yX12_beginChunk yX12_beginChunk ∈ wsL_law0 := zr_33 _ (List.mem_of_getElem? (i := 4) rfl)
theorem zw_33_5 : Cond.code yX12_beginChunk cX12_beginChunk 6 (some .int) ∈ wsL_law0 := zr_33 _ (List.mem_of_getElem? (i := 5) rfl)
theorem zw_33_6 : Cond.methodLink RX12 246 yX12_putNumber ∈ wsL_law0 := zr_33 _ (List.mem_of_getElem? (i := 6) rfl)
theorem zw_33_7 : Cond.instanceMethod yX12_putNumber ∈ wsL_law0 := zr_33 _ (List.mem_of_getElem? (i := 7) rfl)
theorem zw_33_8 : Cond.selects RX12 yX12_putNumber yX12_putNumber ∈ wsL_law0 := zr_33 _ (List.mem_of_getElem? (i := 8) rfl)
theorem zw_33_9 : Cond.code yX12_putNumber cX12_putNumber 2 none ∈ wsL_law0 := zr_33 _ (List.mem_of_getElem? (i := 9) rfl)
theorem zw_33_10 : Cond.methodLink RX12 253 yX12_endChunk ∈ wsL_law0 := zr_33 _ (List.mem_of_getElem? (i := 10) rfl)
theorem zw_33_11 : Cond.instanceMethod yX12_endChunk ∈ wsL_law0 := zr_33 _ (List.mem_of_getElem? (i := 11) rfl)
theorem zw_33_12 : Cond.selects RX12 yX12_endChunk yX12_endChunk ∈ wsL_law0 := zr_33 _ (List.mem_of_getElem? (i := 12) rfl)
theorem zw_33_13 : Cond.code yX12_endChunk cX12_endChunk 5 none ∈ wsL_law0 := zr_33 _ (List.mem_of_getElem? (i := 13) rfl)
theorem zw_33_14 : Cond.methodLink RX12 256 yX12_putControl ∈ wsL_law0 := zr_33 _ (List.mem_of_getElem? (i := 14) rfl)
theorem zw_33_15 : Cond.instanceMethod yX12_putControl ∈ wsL_law0 := zr_33 _ (List.mem_of_getElem? (i := 15) rfl)
theorem zw_33_16 : Cond.selects RX12 yX12_putControl yX12_putControl ∈ wsL_law0 := zr_33 _ (List.mem_of_getElem? (i := 16) rfl)
theorem zw_33_17 : Cond.code yX12_putControl cX12_putControl 5 none ∈ wsL_law0 := zr_33 _ (List.mem_of_getElem? (i := 17) rfl)
theorem zw_33_18 : Cond.methodLink RX12 259 yX12_putPicture ∈ wsL_law0 := zr_33 _ (List.mem_of_getElem? (i := 18) rfl)
theorem zw_33_19 : Cond.instanceMethod yX12_putPicture ∈ wsL_law0 := zr_33 _ (List.mem_of_getElem? (i := 19) rfl)
theorem zw_33_20 : Cond.selects RX12 yX12_putPicture yX12_putPicture ∈ wsL_law0 := zr_33 _ (List.mem_of_getElem? (i := 20) rfl)
theorem zw_33_21 : Cond.code yX12_putPicture cX12_putPicture 9 none ∈ wsL_law0 := zr_33 _ (List.mem_of_getElem? (i := 21) rfl)
theorem zw_34_2 : Cond.methodLink RX11 173 yX1_at ∈ wsL_law0 := zr_34 _ (List.mem_of_getElem? (i := 2) rfl)
theorem znf_0 : ("FrameReel$Bits", 24, "FrameReel$Bytes", "cells", "[B", "FrameReel") ∈ znf := List.mem_of_getElem? (i := 0) rfl
theorem znf_1 : ("FrameReel$Rows", 38, "FrameReel$Bytes", "cells", "[B", "FrameReel") ∈ znf := List.mem_of_getElem? (i := 1) rfl
theorem znf_2 : ("FrameReel$Bits", 15, "FrameReel$Bytes", "size", "I", "FrameReel") ∈ znf := List.mem_of_getElem? (i := 2) rfl
theorem znf_3 : ("FrameReel$Rows", 13, "FrameReel$Bytes", "size", "I", "FrameReel") ∈ znf := List.mem_of_getElem? (i := 3) rfl
theorem znf_4 : ("FrameReel$Unpacker", 60, "FrameReel$Bytes", "size", "I", "FrameReel") ∈ znf := List.mem_of_getElem? (i := 4) rfl
theorem znf_5 : ("FrameReel", 64, "FrameReel$Bytes", "size", "I", "FrameReel") ∈ znf := List.mem_of_getElem? (i := 5) rfl
theorem znf_6 : ("FrameReel$Writer", 79, "FrameReel$Bytes", "size", "I", "FrameReel") ∈ znf := List.mem_of_getElem? (i := 6) rfl
theorem znf_7 : ("FrameReel$Reader", 69, "FrameReel$Bytes", "size", "I", "FrameReel") ∈ znf := List.mem_of_getElem? (i := 7) rfl
theorem znf_8 : ("FrameReel$Unpacker", 56, "FrameReel$Bits", "at", "I", "FrameReel") ∈ znf := List.mem_of_getElem? (i := 8) rfl
theorem znf_9 : ("FrameReel$Bits", 30, "FrameReel$Codes", "counts", "[I", "FrameReel") ∈ znf := List.mem_of_getElem? (i := 9) rfl
theorem znf_10 : ("FrameReel$Bits", 34, "FrameReel$Codes", "symbols", "[I", "FrameReel") ∈ znf := List.mem_of_getElem? (i := 10) rfl
theorem znf_11 : ("FrameReel$Reader", 158, "FrameReel$Unpacker", "packed", "LFrameReel$Bytes;", "FrameReel") ∈ znf := List.mem_of_getElem? (i := 11) rfl
theorem znf_12 : ("FrameReel$Reader", 93, "FrameReel$Unpacker", "raw", "LFrameReel$Bytes;", "FrameReel") ∈ znf := List.mem_of_getElem? (i := 12) rfl
theorem znf_13 : ("FrameReel$Rows", 31, "FrameReel$Picture", "pixels", "[I", "FrameReel") ∈ znf := List.mem_of_getElem? (i := 13) rfl
theorem znf_14 : ("FrameReel$Screen", 29, "FrameReel$Picture", "pixels", "[I", "FrameReel") ∈ znf := List.mem_of_getElem? (i := 14) rfl
theorem znf_15 : ("FrameReel", 127, "FrameReel$Picture", "pixels", "[I", "FrameReel") ∈ znf := List.mem_of_getElem? (i := 15) rfl
theorem znf_16 : ("FrameReel$Writer", 134, "FrameReel$Picture", "pixels", "[I", "FrameReel") ∈ znf := List.mem_of_getElem? (i := 16) rfl
theorem znf_17 : ("FrameReel$Rows", 7, "FrameReel$Picture", "width", "I", "FrameReel") ∈ znf := List.mem_of_getElem? (i := 17) rfl
theorem znf_18 : ("FrameReel$Reel", 36, "FrameReel$Picture", "width", "I", "FrameReel") ∈ znf := List.mem_of_getElem? (i := 18) rfl
theorem znf_19 : ("FrameReel$Screen", 25, "FrameReel$Picture", "width", "I", "FrameReel") ∈ znf := List.mem_of_getElem? (i := 19) rfl
theorem znf_20 : ("FrameReel$Writer", 106, "FrameReel$Picture", "width", "I", "FrameReel") ∈ znf := List.mem_of_getElem? (i := 20) rfl
theorem znf_21 : ("FrameReel", 121, "FrameReel$Picture", "width", "I", "FrameReel") ∈ znf := List.mem_of_getElem? (i := 21) rfl
theorem znf_22 : ("FrameReel$Rows", 18, "FrameReel$Picture", "height", "I", "FrameReel") ∈ znf := List.mem_of_getElem? (i := 22) rfl
theorem znf_23 : ("FrameReel$Reel", 37, "FrameReel$Picture", "height", "I", "FrameReel") ∈ znf := List.mem_of_getElem? (i := 23) rfl
theorem znf_24 : ("FrameReel$Screen", 28, "FrameReel$Picture", "height", "I", "FrameReel") ∈ znf := List.mem_of_getElem? (i := 24) rfl
theorem znf_25 : ("FrameReel$Writer", 109, "FrameReel$Picture", "height", "I", "FrameReel") ∈ znf := List.mem_of_getElem? (i := 25) rfl
theorem znf_26 : ("FrameReel", 124, "FrameReel$Picture", "height", "I", "FrameReel") ∈ znf := List.mem_of_getElem? (i := 26) rfl
theorem znf_27 : ("FrameReel$Reel", 41, "FrameReel$Picture", "x", "I", "FrameReel") ∈ znf := List.mem_of_getElem? (i := 27) rfl
theorem znf_28 : ("FrameReel$Screen", 60, "FrameReel$Picture", "x", "I", "FrameReel") ∈ znf := List.mem_of_getElem? (i := 28) rfl
theorem znf_29 : ("FrameReel$Writer", 110, "FrameReel$Picture", "x", "I", "FrameReel") ∈ znf := List.mem_of_getElem? (i := 29) rfl
theorem znf_30 : ("FrameReel$Reel", 44, "FrameReel$Picture", "y", "I", "FrameReel") ∈ znf := List.mem_of_getElem? (i := 30) rfl
theorem znf_31 : ("FrameReel$Screen", 57, "FrameReel$Picture", "y", "I", "FrameReel") ∈ znf := List.mem_of_getElem? (i := 31) rfl
theorem znf_32 : ("FrameReel$Writer", 113, "FrameReel$Picture", "y", "I", "FrameReel") ∈ znf := List.mem_of_getElem? (i := 32) rfl
theorem znf_33 : ("FrameReel$Reel", 47, "FrameReel$Picture", "dispose", "I", "FrameReel") ∈ znf := List.mem_of_getElem? (i := 33) rfl
theorem znf_34 : ("FrameReel$Screen", 70, "FrameReel$Picture", "dispose", "I", "FrameReel") ∈ znf := List.mem_of_getElem? (i := 34) rfl
theorem znf_35 : ("FrameReel$Writer", 117, "FrameReel$Picture", "dispose", "I", "FrameReel") ∈ znf := List.mem_of_getElem? (i := 35) rfl
theorem znf_36 : ("FrameReel$Reel", 50, "FrameReel$Picture", "blend", "I", "FrameReel") ∈ znf := List.mem_of_getElem? (i := 36) rfl
theorem znf_37 : ("FrameReel$Screen", 63, "FrameReel$Picture", "blend", "I", "FrameReel") ∈ znf := List.mem_of_getElem? (i := 37) rfl
theorem znf_38 : ("FrameReel$Writer", 120, "FrameReel$Picture", "blend", "I", "FrameReel") ∈ znf := List.mem_of_getElem? (i := 38) rfl
theorem znf_39 : ("FrameReel$Writer", 60, "FrameReel$Reel", "frames", "[LFrameReel$Picture;", "FrameReel") ∈ znf := List.mem_of_getElem? (i := 39) rfl
theorem znf_40 : ("FrameReel$Screen", 46, "FrameReel$Reel", "frames", "[LFrameReel$Picture;", "FrameReel") ∈ znf := List.mem_of_getElem? (i := 40) rfl
theorem znf_41 : ("FrameReel", 113, "FrameReel$Reel", "frames", "[LFrameReel$Picture;", "FrameReel") ∈ znf := List.mem_of_getElem? (i := 41) rfl
theorem znf_42 : ("FrameReel$Reader", 168, "FrameReel$Reel", "frames", "[LFrameReel$Picture;", "FrameReel") ∈ znf := List.mem_of_getElem? (i := 42) rfl
theorem znf_43 : ("FrameReel$Reader", 25, "FrameReel$Reel", "own", "LFrameReel$Picture;", "FrameReel") ∈ znf := List.mem_of_getElem? (i := 43) rfl
theorem znf_44 : ("FrameReel", 95, "FrameReel$Reel", "own", "LFrameReel$Picture;", "FrameReel") ∈ znf := List.mem_of_getElem? (i := 44) rfl
theorem znf_45 : ("FrameReel", 102, "FrameReel$Reel", "there", "Z", "FrameReel") ∈ znf := List.mem_of_getElem? (i := 45) rfl
theorem znf_46 : ("FrameReel$Writer", 56, "FrameReel$Reel", "firstIsDefault", "Z", "FrameReel") ∈ znf := List.mem_of_getElem? (i := 46) rfl
theorem znf_47 : ("FrameReel", 134, "FrameReel$Reel", "firstIsDefault", "Z", "FrameReel") ∈ znf := List.mem_of_getElem? (i := 47) rfl
theorem znf_48 : ("FrameReel$Reader", 148, "FrameReel$Reel", "firstIsDefault", "Z", "FrameReel") ∈ znf := List.mem_of_getElem? (i := 48) rfl
theorem znf_49 : ("FrameReel$Screen", 36, "FrameReel$Reel", "width", "I", "FrameReel") ∈ znf := List.mem_of_getElem? (i := 49) rfl
theorem znf_50 : ("FrameReel$Writer", 92, "FrameReel$Reel", "width", "I", "FrameReel") ∈ znf := List.mem_of_getElem? (i := 50) rfl
theorem znf_51 : ("FrameReel$Screen", 39, "FrameReel$Reel", "height", "I", "FrameReel") ∈ znf := List.mem_of_getElem? (i := 51) rfl
theorem znf_52 : ("FrameReel$Writer", 95, "FrameReel$Reel", "height", "I", "FrameReel") ∈ znf := List.mem_of_getElem? (i := 52) rfl
theorem znf_53 : ("FrameReel$Writer", 50, "FrameReel$Reel", "plays", "I", "FrameReel") ∈ znf := List.mem_of_getElem? (i := 53) rfl
theorem znf_54 : ("FrameReel", 92, "FrameReel$Reel", "plays", "I", "FrameReel") ∈ znf := List.mem_of_getElem? (i := 54) rfl
theorem znf_55 : ("FrameReel$Reader", 134, "FrameReel$Reel", "plays", "I", "FrameReel") ∈ znf := List.mem_of_getElem? (i := 55) rfl
theorem znf_56 : ("FrameReel$Writer", 45, "FrameReel$Reel", "count", "I", "FrameReel") ∈ znf := List.mem_of_getElem? (i := 56) rfl
theorem znf_57 : ("FrameReel", 85, "FrameReel$Reel", "count", "I", "FrameReel") ∈ znf := List.mem_of_getElem? (i := 57) rfl
theorem znf_58 : ("FrameReel$Reader", 124, "FrameReel$Reel", "count", "I", "FrameReel") ∈ znf := List.mem_of_getElem? (i := 58) rfl
theorem znf_59 : ("FrameReel", 77, "FrameReel$Reader", "faultPlace", "I", "FrameReel") ∈ znf := List.mem_of_getElem? (i := 59) rfl
theorem znf_60 : ("FrameReel", 170, "FrameReel$Writer", "file", "LFrameReel$Bytes;", "FrameReel") ∈ znf := List.mem_of_getElem? (i := 60) rfl
theorem znm_0 : ("FrameReel$Reader", 11, ⟨"FrameReel$Unpacker", "<init>", "()V"⟩, "FrameReel") ∈ znm := List.mem_of_getElem? (i := 0) rfl
theorem znm_1 : ("FrameReel$Unpacker", 34, ⟨"FrameReel$Codes", "<init>", "()V"⟩, "FrameReel") ∈ znm := List.mem_of_getElem? (i := 1) rfl
theorem znm_2 : ("FrameReel$Reel", 17, ⟨"FrameReel$Picture", "<init>", "()V"⟩, "FrameReel") ∈ znm := List.mem_of_getElem? (i := 2) rfl
theorem znm_3 : ("FrameReel", 41, ⟨"FrameReel$Screen", "<init>", "()V"⟩, "FrameReel") ∈ znm := List.mem_of_getElem? (i := 3) rfl
theorem zyX1_add : zYV RX1 yX1_add cX1_add 2 none 1 := ⟨zw_7_2, zw_7_3, zw_1_18, zw_7_4, by decide +kernel⟩
theorem zyX1_at : zYV RX1 yX1_at cX1_at 2 (some .int) 1 := ⟨zw_8_22, zw_8_23, zw_1_18, zw_9_0, by decide +kernel⟩
theorem zyJ7_fill_53178 : zYS yJ7_fill_53178 cJ7_fill_53178 4 none 2 := ⟨zw_11_15, zw_11_16, zw_11_17, by decide +kernel⟩
theorem zyX1_init : zYI yX1_init cX1_init 2 1 := ⟨zw_2_21, zw_1_18, zw_2_22, rfl, by decide +kernel⟩
theorem zyX0_init : zYI yX0_init cX0_init 2 1 := ⟨zw_4_10, zw_3_23, zw_4_11, rfl, by decide +kernel⟩
theorem zyX2_init : zYI yX2_init cX2_init 1 0 := ⟨zw_4_14, zw_4_3, zw_4_15, rfl, by decide +kernel⟩
theorem zyX3_init : zYI yX3_init cX3_init 1 0 := ⟨zw_5_5, zw_5_3, zw_5_6, rfl, by decide +kernel⟩
theorem zyX9_init : zYI yX9_init cX9_init 1 0 := ⟨zw_3_15, zw_3_8, zw_3_16, rfl, by decide +kernel⟩
theorem zyX5_init : zYI yX5_init cX5_init 2 0 := ⟨zw_4_21, zw_2_10, zw_4_22, rfl, by decide +kernel⟩
theorem zyX0_skipToByte : zYV RX0 yX0_skipToByte cX0_skipToByte 1 none 0 := ⟨zw_10_16, zw_10_17, zw_3_23, zw_10_18, by decide +kernel⟩
theorem zyX0_take : zYV RX0 yX0_take cX0_take 4 (some .int) 1 := ⟨zw_10_6, zw_10_7, zw_3_23, zw_10_8, by decide +kernel⟩
theorem zyX1_fits : zYV RX1 yX1_fits cX1_fits 2 (some .boolean) 1 := ⟨zw_6_21, zw_6_22, zw_1_18, zw_6_23, by decide +kernel⟩
theorem zyX1_addPart : zYV RX1 yX1_addPart cX1_addPart 5 none 3 := ⟨zw_10_21, zw_10_22, zw_1_18, zw_10_23, by decide +kernel⟩
theorem zyX2_build : zYV RX2 yX2_build cX2_build 7 (some .int) 3 := ⟨zw_11_10, zw_11_11, zw_4_3, zw_11_12, by decide +kernel⟩
theorem zyX0_symbol : zYV RX0 yX0_symbol cX0_symbol 8 (some .int) 1 := ⟨zw_12_9, zw_12_10, zw_3_23, zw_12_11, by decide +kernel⟩
theorem zyX2_isNoneOrOneBit : zYV RX2 yX2_isNoneOrOneBit cX2_isNoneOrOneBit 1 (some .boolean) 0 := ⟨zw_12_17, zw_12_18, zw_4_3, zw_12_19, by decide +kernel⟩
theorem zyX9_takeTellers : zYV RX9 yX9_takeTellers cX9_takeTellers 5 (some .boolean) 0 := ⟨zw_11_19, zw_11_20, zw_3_8, zw_11_21, by decide +kernel⟩
theorem zyX9_takeLengths : zYV RX9 yX9_takeLengths cX9_takeLengths 10 (some .boolean) 0 := ⟨zw_12_3, zw_12_4, zw_3_8, zw_12_5, by decide +kernel⟩
theorem zyX9_buildCodes : zYV RX9 yX9_buildCodes cX9_buildCodes 2 (some .boolean) 0 := ⟨zw_12_13, zw_12_14, zw_3_8, zw_12_15, by decide +kernel⟩
theorem zyX9_fixCodes : zYV RX9 yX9_fixCodes cX9_fixCodes 2 none 0 := ⟨zw_11_6, zw_11_7, zw_3_8, zw_11_8, by decide +kernel⟩
theorem zyX9_copyMatch : zYV RX9 yX9_copyMatch cX9_copyMatch 8 (some .boolean) 1 := ⟨zw_13_2, zw_13_3, zw_3_8, zw_13_4, by decide +kernel⟩
theorem zyX1_number : zYV RX1 yX1_number cX1_number 2 (some .int) 1 := ⟨zw_9_8, zw_9_9, zw_1_18, zw_9_10, by decide +kernel⟩
theorem zyX8_ofRaw : zYS yX8_ofRaw cX8_ofRaw 6 (some .int) 3 := ⟨zw_13_15, zw_1_15, zw_13_16, by decide +kernel⟩
theorem zyX1_clear : zYV RX1 yX1_clear cX1_clear 1 none 0 := ⟨zw_9_21, zw_9_22, zw_1_18, zw_9_23, by decide +kernel⟩
theorem zyX9_startsAsPacked : zYV RX9 yX9_startsAsPacked cX9_startsAsPacked 2 (some .boolean) 0 := ⟨zw_10_1, zw_10_2, zw_3_8, zw_10_3, by decide +kernel⟩
theorem zyX9_hasCodes : zYV RX9 yX9_hasCodes cX9_hasCodes 2 (some .boolean) 1 := ⟨zw_11_2, zw_11_3, zw_3_8, zw_11_4, by decide +kernel⟩
theorem zyX9_unpackCoded : zYV RX9 yX9_unpackCoded cX9_unpackCoded 3 (some .boolean) 0 := ⟨zw_12_21, zw_12_22, zw_3_8, zw_12_23, by decide +kernel⟩
theorem zyX9_copyPlain : zYV RX9 yX9_copyPlain cX9_copyPlain 4 (some .boolean) 0 := ⟨zw_10_11, zw_10_12, zw_3_8, zw_10_13, by decide +kernel⟩
theorem zyX9_endsWithSum : zYV RX9 yX9_endsWithSum cX9_endsWithSum 2 (some .boolean) 0 := ⟨zw_13_10, zw_13_11, zw_3_8, zw_13_12, by decide +kernel⟩
theorem zyX6_nearest : zYS yX6_nearest cX6_nearest 6 (some .int) 3 := ⟨zw_14_6, zw_13_20, zw_14_7, by decide +kernel⟩
theorem zyX6_guess : zYS yX6_guess cX6_guess 4 (some .int) 4 := ⟨zw_14_3, zw_13_20, zw_14_4, by decide +kernel⟩
theorem zyX6_unfilter : zYS yX6_unfilter cX6_unfilter 10 none 4 := ⟨zw_14_0, zw_13_20, zw_14_1, by decide +kernel⟩
theorem zyX5_start : zYV RX5 yX5_start cX5_start 3 none 2 := ⟨zw_15_0, zw_15_1, zw_2_10, zw_15_2, by decide +kernel⟩
theorem zyX4_takesSerial : zYV RX4 yX4_takesSerial cX4_takesSerial 3 (some .boolean) 1 := ⟨zw_15_17, zw_15_18, zw_1_22, zw_15_19, by decide +kernel⟩
theorem zyX5_allows : zYV RX5 yX5_allows cX5_allows 7 (some .boolean) 6 := ⟨zw_15_21, zw_15_22, zw_2_10, zw_15_23, by decide +kernel⟩
theorem zyX5_add : zYV RX5 yX5_add cX5_add 8 none 6 := ⟨zw_16_1, zw_16_2, zw_2_10, zw_16_3, by decide +kernel⟩
theorem zyX5_firstIsCanvas : zYV RX5 yX5_firstIsCanvas cX5_firstIsCanvas 1 (some .boolean) 0 := ⟨zw_16_5, zw_16_6, zw_2_10, zw_16_7, by decide +kernel⟩
theorem zyX5_defaultPicture : zYV RX5 yX5_defaultPicture cX5_defaultPicture 1 (some (.object "FrameReel$Picture")) 0 := ⟨zw_16_13, zw_16_14, zw_2_10, zw_16_15, by decide +kernel⟩
theorem zyX4_takesDefaultData : zYV RX4 yX4_takesDefaultData cX4_takesDefaultData 2 (some .boolean) 1 := ⟨zw_16_9, zw_16_10, zw_1_22, zw_16_11, by decide +kernel⟩
theorem zyX4_takesCounts : zYV RX4 yX4_takesCounts cX4_takesCounts 3 (some .boolean) 1 := ⟨zw_15_9, zw_15_10, zw_1_22, zw_15_11, by decide +kernel⟩
theorem zyX4_takesControl : zYV RX4 yX4_takesControl cX4_takesControl 8 (some .boolean) 1 := ⟨zw_15_13, zw_15_14, zw_1_22, zw_15_15, by decide +kernel⟩
theorem zyX4_takesFrameData : zYV RX4 yX4_takesFrameData cX4_takesFrameData 2 (some .boolean) 1 := ⟨zw_16_19, zw_16_20, zw_1_22, zw_16_21, by decide +kernel⟩
theorem zyX4_mayBeLeftOut : zYV RX4 yX4_mayBeLeftOut cX4_mayBeLeftOut 5 (some .boolean) 1 := ⟨zw_16_23, zw_17_0, zw_1_22, zw_17_1, by decide +kernel⟩
theorem zyX4_takesHead : zYV RX4 yX4_takesHead cX4_takesHead 4 (some .boolean) 1 := ⟨zw_14_20, zw_14_21, zw_1_22, zw_14_22, by decide +kernel⟩
theorem zyX8_ofChunk : zYV RX8 yX8_ofChunk cX8_ofChunk 6 (some .int) 3 := ⟨zw_9_12, zw_9_13, zw_1_15, zw_9_14, by decide +kernel⟩
theorem zyX4_takesChunk : zYV RX4 yX4_takesChunk cX4_takesChunk 3 (some .boolean) 2 := ⟨zw_14_14, zw_14_15, zw_1_22, zw_14_16, by decide +kernel⟩
theorem zyX9_unpack : zYV RX9 yX9_unpack cX9_unpack 6 (some .boolean) 0 := ⟨zw_9_17, zw_9_18, zw_3_8, zw_9_19, by decide +kernel⟩
theorem zyX6_fill : zYS yX6_fill cX6_fill 6 (some .boolean) 2 := ⟨zw_13_19, zw_13_20, zw_13_21, by decide +kernel⟩
theorem zyX4_startsAsFile : zYV RX4 yX4_startsAsFile cX4_startsAsFile 3 (some .boolean) 0 := ⟨zw_8_16, zw_8_17, zw_1_22, zw_8_18, by decide +kernel⟩
theorem zyX4_chunkFault : zYV RX4 yX4_chunkFault cX4_chunkFault 5 (some .int) 0 := ⟨zw_9_2, zw_9_3, zw_1_22, zw_9_4, by decide +kernel⟩
theorem zyX7_blended : zYS yX7_blended cX7_blended 9 (some .int) 2 := ⟨zw_28_1, zw_2_6, zw_28_2, by decide +kernel⟩
theorem zyX7_draw : zYV RX7 yX7_draw cX7_draw 6 none 1 := ⟨zw_27_21, zw_27_22, zw_2_6, zw_27_23, by decide +kernel⟩
theorem zyX7_dispose : zYV RX7 yX7_dispose cX7_dispose 5 none 1 := ⟨zw_28_4, zw_28_5, zw_2_6, zw_28_6, by decide +kernel⟩
theorem zyX1_addNumber : zYV RX1 yX1_addNumber cX1_addNumber 2 none 1 := ⟨zw_7_15, zw_7_16, zw_1_18, zw_7_17, by decide +kernel⟩
theorem zyX10_openChunk : zYV RX10 yX10_openChunk cX10_openChunk 3 none 2 := ⟨zw_31_2, zw_31_3, zw_2_2, zw_31_4, by decide +kernel⟩
theorem zyX10_closeChunk : zYV RX10 yX10_closeChunk cX10_closeChunk 1 none 0 := ⟨zw_31_8, zw_31_9, zw_2_2, zw_31_10, by decide +kernel⟩
theorem zyX10_addSerial : zYV RX10 yX10_addSerial cX10_addSerial 1 none 0 := ⟨zw_31_19, zw_31_20, zw_2_2, zw_31_21, by decide +kernel⟩
theorem zyX10_rawSize : zYS yX10_rawSize cX10_rawSize 1 (some .int) 1 := ⟨zw_32_5, zw_2_2, zw_32_6, by decide +kernel⟩
theorem zyX10_addPacked : zYV RX10 yX10_addPacked cX10_addPacked 6 none 1 := ⟨zw_32_8, zw_32_9, zw_2_2, zw_32_10, by decide +kernel⟩
theorem zyX10_addHead : zYV RX10 yX10_addHead cX10_addHead 2 none 1 := ⟨zw_30_20, zw_30_21, zw_2_2, zw_30_22, by decide +kernel⟩
theorem zyX10_addDefaultData : zYV RX10 yX10_addDefaultData cX10_addDefaultData 2 none 1 := ⟨zw_32_0, zw_32_1, zw_2_2, zw_32_2, by decide +kernel⟩
theorem zyX10_addControl : zYV RX10 yX10_addControl cX10_addControl 2 none 1 := ⟨zw_31_13, zw_31_14, zw_2_2, zw_31_15, by decide +kernel⟩
theorem zyX10_addFrameData : zYV RX10 yX10_addFrameData cX10_addFrameData 2 none 1 := ⟨zw_32_13, zw_32_14, zw_2_2, zw_32_15, by decide +kernel⟩
theorem zyX8_init : zYI yX8_init cX8_init 4 0 := ⟨zw_2_14, zw_1_15, zw_2_15, rfl, by decide +kernel⟩
theorem zyX4_init : zYI yX4_init cX4_init 3 2 := ⟨zw_3_3, zw_1_22, zw_3_4, rfl, by decide +kernel⟩
theorem zyX10_init : zYI yX10_init cX10_init 2 1 := ⟨zw_5_10, zw_2_2, zw_5_11, rfl, by decide +kernel⟩
theorem zyX7_init : zYI yX7_init cX7_init 1 0 := ⟨zw_5_17, zw_2_6, zw_5_18, rfl, by decide +kernel⟩
theorem zyX4_run : zYV RX4 yX4_run cX4_run 3 (some .int) 0 := ⟨zw_8_5, zw_8_6, zw_1_22, zw_8_7, by decide +kernel⟩
theorem zyX4_exchange : zYV RX4 yX4_exchange cX4_exchange 3 (some (.object "FrameReel$Reel")) 1 := ⟨zw_17_4, zw_17_5, zw_1_22, zw_17_6, by decide +kernel⟩
theorem zyX7_forget : zYV RX7 yX7_forget cX7_forget 1 none 0 := ⟨zw_17_8, zw_17_9, zw_2_6, zw_17_10, by decide +kernel⟩
theorem zyX3_clear : zYV RX3 yX3_clear cX3_clear 1 none 0 := ⟨zw_24_9, zw_24_10, zw_5_3, zw_24_11, by decide +kernel⟩
theorem zyX5_hasFrame : zYV RX5 yX5_hasFrame cX5_hasFrame 2 (some .boolean) 1 := ⟨zw_25_16, zw_25_17, zw_2_10, zw_25_18, by decide +kernel⟩
theorem zyX11_paintable : zYV RX11 yX11_paintable cX11_paintable 2 (some (.object "FrameReel$Picture")) 1 := ⟨zw_25_12, zw_25_13, zw_1_2, zw_25_14, by decide +kernel⟩
theorem zyX3_fact : zYV RX3 yX3_fact cX3_fact 2 (some .int) 1 := ⟨zw_26_18, zw_26_19, zw_5_3, zw_26_20, by decide +kernel⟩
theorem zyX5_fact : zYV RX5 yX5_fact cX5_fact 2 (some .int) 1 := ⟨zw_26_13, zw_26_14, zw_2_10, zw_26_15, by decide +kernel⟩
theorem zyX7_copy : zYV RX7 yX7_copy cX7_copy 2 none 1 := ⟨zw_28_9, zw_28_10, zw_2_6, zw_28_11, by decide +kernel⟩
theorem zyX7_compose : zYV RX7 yX7_compose cX7_compose 5 none 2 := ⟨zw_27_12, zw_27_13, zw_2_6, zw_27_14, by decide +kernel⟩
theorem zyX10_run : zYV RX10 yX10_run cX10_run 3 none 1 := ⟨zw_30_9, zw_30_10, zw_2_2, zw_30_11, by decide +kernel⟩
theorem zyX12_type : zYV RX12 yX12_type cX12_type 4 (some .int) 2 := ⟨zw_7_6, zw_7_7, zw_1_5, zw_7_8, by decide +kernel⟩
theorem zyX12_byteAt : zYV RX12 yX12_byteAt cX12_byteAt 2 (some .int) 1 := ⟨zw_18_8, zw_18_9, zw_1_5, zw_18_10, by decide +kernel⟩
theorem zyX12_bits : zYV RX12 yX12_bits cX12_bits 4 (some .int) 1 := ⟨zw_19_17, zw_19_18, zw_1_5, zw_19_19, by decide +kernel⟩
theorem zyX12_lengthBits : zYS yX12_lengthBits cX12_lengthBits 1 (some .int) 1 := ⟨zw_21_10, zw_1_5, zw_21_11, by decide +kernel⟩
theorem zyX12_distanceBits : zYS yX12_distanceBits cX12_distanceBits 1 (some .int) 1 := ⟨zw_21_16, zw_1_5, zw_21_17, by decide +kernel⟩
theorem zyX12_lengthBase : zYS yX12_lengthBase cX12_lengthBase 3 (some .int) 1 := ⟨zw_21_7, zw_1_5, zw_21_8, by decide +kernel⟩
theorem zyX12_symbol : zYV RX12 yX12_symbol cX12_symbol 6 (some .int) 2 := ⟨zw_20_23, zw_21_0, zw_1_5, zw_21_1, by decide +kernel⟩
theorem zyX12_distanceBase : zYS yX12_distanceBase cX12_distanceBase 3 (some .int) 1 := ⟨zw_21_13, zw_1_5, zw_21_14, by decide +kernel⟩
theorem zyX12_emit : zYV RX12 yX12_emit cX12_emit 2 none 1 := ⟨zw_20_6, zw_20_7, zw_1_5, zw_20_8, by decide +kernel⟩
theorem zyX12_match : zYV RX12 yX12_match cX12_match 7 none 2 := ⟨zw_21_3, zw_21_4, zw_1_5, zw_21_5, by decide +kernel⟩
theorem zyX12_evenOut : zYV RX12 yX12_evenOut cX12_evenOut 1 none 0 := ⟨zw_20_2, zw_20_3, zw_1_5, zw_20_4, by decide +kernel⟩
theorem zyX12_makeCodes : zYV RX12 yX12_makeCodes cX12_makeCodes 9 none 3 := ⟨zw_20_14, zw_20_15, zw_1_5, zw_20_16, by decide +kernel⟩
theorem zyX12_coded : zYV RX12 yX12_coded cX12_coded 5 none 2 := ⟨zw_20_19, zw_20_20, zw_1_5, zw_20_21, by decide +kernel⟩
theorem zyX12_orderOf : zYS yX12_orderOf cX12_orderOf 1 (some .int) 1 := ⟨zw_21_23, zw_1_5, zw_22_0, by decide +kernel⟩
theorem zyX12_told : zYV RX12 yX12_told cX12_told 10 none 0 := ⟨zw_21_19, zw_21_20, zw_1_5, zw_21_21, by decide +kernel⟩
theorem zyX12_fixed : zYV RX12 yX12_fixed cX12_fixed 2 none 0 := ⟨zw_20_10, zw_20_11, zw_1_5, zw_20_12, by decide +kernel⟩
theorem zyX12_plain : zYV RX12 yX12_plain cX12_plain 5 none 0 := ⟨zw_19_21, zw_19_22, zw_1_5, zw_19_23, by decide +kernel⟩
theorem zyX12_nearest : zYS yX12_nearest cX12_nearest 7 (some .int) 3 := ⟨zw_22_10, zw_1_5, zw_22_11, by decide +kernel⟩
theorem zyX12_number : zYV RX12 yX12_number cX12_number 2 (some .int) 1 := ⟨zw_18_15, zw_18_16, zw_1_5, zw_18_17, by decide +kernel⟩
theorem zyX12_isRegion : zYV RX12 yX12_isRegion cX12_isRegion 8 (some .boolean) 5 := ⟨zw_23_9, zw_23_10, zw_1_5, zw_23_11, by decide +kernel⟩
theorem zyX12_setRegion : zYV RX12 yX12_setRegion cX12_setRegion 10 none 8 := ⟨zw_23_13, zw_23_14, zw_1_5, zw_23_15, by decide +kernel⟩
theorem zyX12_unpack : zYV RX12 yX12_unpack cX12_unpack 7 (some .boolean) 0 := ⟨zw_19_7, zw_19_8, zw_1_5, zw_19_9, by decide +kernel⟩
theorem zyX12_region : zYV RX12 yX12_region cX12_region 4 (some .int) 3 := ⟨zw_22_2, zw_22_3, zw_1_5, zw_22_4, by decide +kernel⟩
theorem zyX12_unfilter : zYV RX12 yX12_unfilter cX12_unfilter 12 (some .boolean) 3 := ⟨zw_22_6, zw_22_7, zw_1_5, zw_22_8, by decide +kernel⟩
theorem zyX12_isType : zYV RX12 yX12_isType cX12_isType 6 (some .boolean) 5 := ⟨zw_18_23, zw_19_0, zw_1_5, zw_19_1, by decide +kernel⟩
theorem zyX12_isLetter : zYS yX12_isLetter cX12_isLetter 1 (some .boolean) 1 := ⟨zw_23_17, zw_1_5, zw_23_18, by decide +kernel⟩
theorem zyX12_takeControl : zYV RX12 yX12_takeControl cX12_takeControl 9 (some .boolean) 2 := ⟨zw_23_5, zw_23_6, zw_1_5, zw_23_7, by decide +kernel⟩
theorem zyX12_takeCount : zYV RX12 yX12_takeCount cX12_takeCount 3 (some .boolean) 2 := ⟨zw_23_1, zw_23_2, zw_1_5, zw_23_3, by decide +kernel⟩
theorem zyX12_append : zYV RX12 yX12_append cX12_append 4 none 2 := ⟨zw_22_21, zw_22_22, zw_1_5, zw_22_23, by decide +kernel⟩
theorem zyX12_mark : zYS yX12_mark cX12_mark 1 (some .int) 1 := ⟨zw_18_12, zw_1_5, zw_18_13, by decide +kernel⟩
theorem zyX12_nextSum : zYS yX12_nextSum cX12_nextSum 4 (some .int) 2 := ⟨zw_18_19, zw_1_5, zw_18_20, by decide +kernel⟩
theorem zyX12_takeChunk : zYV RX12 yX12_takeChunk cX12_takeChunk 7 (some .boolean) 2 := ⟨zw_22_17, zw_22_18, zw_1_5, zw_22_19, by decide +kernel⟩
theorem zyX12_takeHead : zYV RX12 yX12_takeHead cX12_takeHead 5 (some .boolean) 2 := ⟨zw_22_13, zw_22_14, zw_1_5, zw_22_15, by decide +kernel⟩
theorem zyX12_finishPicture : zYV RX12 yX12_finishPicture cX12_finishPicture 4 (some .int) 0 := ⟨zw_19_3, zw_19_4, zw_1_5, zw_19_5, by decide +kernel⟩
theorem zyX12_readAll : zYV RX12 yX12_readAll cX12_readAll 9 (some .int) 0 := ⟨zw_17_20, zw_17_21, zw_1_5, zw_17_22, by decide +kernel⟩
theorem zyX12_wipe : zYV RX12 yX12_wipe cX12_wipe 3 none 1 := ⟨zw_24_18, zw_24_19, zw_1_5, zw_24_20, by decide +kernel⟩
theorem zyX12_over : zYS yX12_over cX12_over 8 (some .int) 2 := ⟨zw_28_23, zw_1_5, zw_29_0, by decide +kernel⟩
theorem zyX12_lay : zYV RX12 yX12_lay cX12_lay 7 none 1 := ⟨zw_28_19, zw_28_20, zw_1_5, zw_28_21, by decide +kernel⟩
theorem zyX12_dispose : zYV RX12 yX12_dispose cX12_dispose 7 none 1 := ⟨zw_29_2, zw_29_3, zw_1_5, zw_29_4, by decide +kernel⟩
theorem zyX12_put : zYV RX12 yX12_put cX12_put 2 none 1 := ⟨zw_32_23, zw_33_0, zw_1_5, zw_33_1, by decide +kernel⟩
theorem zyX12_putNumber : zYV RX12 yX12_putNumber cX12_putNumber 2 none 1 := ⟨zw_33_7, zw_33_8, zw_1_5, zw_33_9, by decide +kernel⟩
theorem zyX12_beginChunk : zYV RX12 yX12_beginChunk cX12_beginChunk 6 (some .int) 4 := ⟨zw_33_3, zw_33_4, zw_1_5, zw_33_5, by decide +kernel⟩
theorem zyX12_endChunk : zYV RX12 yX12_endChunk cX12_endChunk 5 none 1 := ⟨zw_33_11, zw_33_12, zw_1_5, zw_33_13, by decide +kernel⟩
theorem zyX12_putPicture : zYV RX12 yX12_putPicture cX12_putPicture 9 none 3 := ⟨zw_33_19, zw_33_20, zw_1_5, zw_33_21, by decide +kernel⟩
theorem zyX12_putControl : zYV RX12 yX12_putControl cX12_putControl 5 none 2 := ⟨zw_33_15, zw_33_16, zw_1_5, zw_33_17, by decide +kernel⟩
