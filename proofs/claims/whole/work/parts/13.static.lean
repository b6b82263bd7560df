theorem sub_r1 : ∀ w ∈ wsL_law_r1, w ∈ Gw := fun w h => List.mem_append_left _ (List.mem_append_left _ (List.mem_append_left _ (List.mem_append_left _ (List.mem_append_left _ (List.mem_append_left _ (List.mem_append_left _ (List.mem_append_left _ (List.mem_append_left _ h))))))))
theorem sub_r2 : ∀ w ∈ wsL_law_r2, w ∈ Gw := fun w h => List.mem_append_left _ (List.mem_append_left _ (List.mem_append_left _ (List.mem_append_left _ (List.mem_append_left _ (List.mem_append_left _ (List.mem_append_left _ (List.mem_append_left _ (List.mem_append_right _ (List.mem_append_left _ h)))))))))
theorem sub_r3 : ∀ w ∈ wsL_law_r3, w ∈ Gw := fun w h => List.mem_append_left _ (List.mem_append_left _ (List.mem_append_left _ (List.mem_append_left _ (List.mem_append_left _ (List.mem_append_left _ (List.mem_append_left _ (List.mem_append_left _ (List.mem_append_right _ (List.mem_append_right _ (List.mem_append_left _ h))))))))))
theorem sub_r4 : ∀ w ∈ wsL_law_r4, w ∈ Gw := fun w h => List.mem_append_left _ (List.mem_append_left _ (List.mem_append_left _ (List.mem_append_left _ (List.mem_append_left _ (List.mem_append_left _ (List.mem_append_left _ (List.mem_append_left _ (List.mem_append_right _ (List.mem_append_right _ (List.mem_append_right _ (List.mem_append_left _ h)))))))))))
theorem sub_r5 : ∀ w ∈ wsL_law_r5, w ∈ Gw := fun w h => List.mem_append_left _ (List.mem_append_left _ (List.mem_append_left _ (List.mem_append_left _ (List.mem_append_left _ (List.mem_append_left _ (List.mem_append_left _ (List.mem_append_left _ (List.mem_append_right _ (List.mem_append_right _ (List.mem_append_right _ (List.mem_append_right _ (List.mem_append_left _ h))))))))))))
theorem sub_r6 : ∀ w ∈ wsL_law_r6, w ∈ Gw := fun w h => List.mem_append_left _ (List.mem_append_left _ (List.mem_append_left _ (List.mem_append_left _ (List.mem_append_left _ (List.mem_append_left _ (List.mem_append_left _ (List.mem_append_left _ (List.mem_append_right _ (List.mem_append_right _ (List.mem_append_right _ (List.mem_append_right _ (List.mem_append_right _ (List.mem_append_left _ h)))))))))))))
theorem sub_r7 : ∀ w ∈ wsL_law_r7, w ∈ Gw := fun w h => List.mem_append_left _ (List.mem_append_left _ (List.mem_append_left _ (List.mem_append_left _ (List.mem_append_left _ (List.mem_append_left _ (List.mem_append_left _ (List.mem_append_left _ (List.mem_append_right _ (List.mem_append_right _ (List.mem_append_right _ (List.mem_append_right _ (List.mem_append_right _ (List.mem_append_right _ (List.mem_append_left _ h))))))))))))))
theorem sub_r8 : ∀ w ∈ wsL_law_r8, w ∈ Gw := fun w h => List.mem_append_left _ (List.mem_append_left _ (List.mem_append_left _ (List.mem_append_left _ (List.mem_append_left _ (List.mem_append_left _ (List.mem_append_left _ (List.mem_append_left _ (List.mem_append_right _ (List.mem_append_right _ (List.mem_append_right _ (List.mem_append_right _ (List.mem_append_right _ (List.mem_append_right _ (List.mem_append_right _ (List.mem_append_left _ h)))))))))))))))
theorem sub_r9 : ∀ w ∈ wsL_law_r9, w ∈ Gw := fun w h => List.mem_append_left _ (List.mem_append_left _ (List.mem_append_left _ (List.mem_append_left _ (List.mem_append_left _ (List.mem_append_left _ (List.mem_append_left _ (List.mem_append_left _ (List.mem_append_right _ (List.mem_append_right _ (List.mem_append_right _ (List.mem_append_right _ (List.mem_append_right _ (List.mem_append_right _ (List.mem_append_right _ (List.mem_append_right _ (List.mem_append_left _ h))))))))))))))))
theorem sub_r10 : ∀ w ∈ wsL_law_r10, w ∈ Gw := fun w h => List.mem_append_left _ (List.mem_append_left _ (List.mem_append_left _ (List.mem_append_left _ (List.mem_append_left _ (List.mem_append_left _ (List.mem_append_left _ (List.mem_append_left _ (List.mem_append_right _ (List.mem_append_right _ (List.mem_append_right _ (List.mem_append_right _ (List.mem_append_right _ (List.mem_append_right _ (List.mem_append_right _ (List.mem_append_right _ (List.mem_append_right _ (List.mem_append_left _ h)))))))))))))))))
theorem sub_r11 : ∀ w ∈ wsL_law_r11, w ∈ Gw := fun w h => List.mem_append_left _ (List.mem_append_left _ (List.mem_append_left _ (List.mem_append_left _ (List.mem_append_left _ (List.mem_append_left _ (List.mem_append_left _ (List.mem_append_left _ (List.mem_append_right _ (List.mem_append_right _ (List.mem_append_right _ (List.mem_append_right _ (List.mem_append_right _ (List.mem_append_right _ (List.mem_append_right _ (List.mem_append_right _ (List.mem_append_right _ (List.mem_append_right _ (List.mem_append_left _ h))))))))))))))))))
theorem sub_r12 : ∀ w ∈ wsL_law_r12, w ∈ Gw := fun w h => List.mem_append_left _ (List.mem_append_left _ (List.mem_append_left _ (List.mem_append_left _ (List.mem_append_left _ (List.mem_append_left _ (List.mem_append_left _ (List.mem_append_left _ (List.mem_append_right _ (List.mem_append_right _ (List.mem_append_right _ (List.mem_append_right _ (List.mem_append_right _ (List.mem_append_right _ (List.mem_append_right _ (List.mem_append_right _ (List.mem_append_right _ (List.mem_append_right _ (List.mem_append_right _ (List.mem_append_left _ h)))))))))))))))))))
theorem sub_r13 : ∀ w ∈ wsL_law_r13, w ∈ Gw := fun w h => List.mem_append_left _ (List.mem_append_left _ (List.mem_append_left _ (List.mem_append_left _ (List.mem_append_left _ (List.mem_append_left _ (List.mem_append_left _ (List.mem_append_left _ (List.mem_append_right _ (List.mem_append_right _ (List.mem_append_right _ (List.mem_append_right _ (List.mem_append_right _ (List.mem_append_right _ (List.mem_append_right _ (List.mem_append_right _ (List.mem_append_right _ (List.mem_append_right _ (List.mem_append_right _ (List.mem_append_right _ (List.mem_append_left _ h))))))))))))))))))))
theorem sub_r14 : ∀ w ∈ wsL_law_r14, w ∈ Gw := fun w h => List.mem_append_left _ (List.mem_append_left _ (List.mem_append_left _ (List.mem_append_left _ (List.mem_append_left _ (List.mem_append_left _ (List.mem_append_left _ (List.mem_append_left _ (List.mem_append_right _ (List.mem_append_right _ (List.mem_append_right _ (List.mem_append_right _ (List.mem_append_right _ (List.mem_append_right _ (List.mem_append_right _ (List.mem_append_right _ (List.mem_append_right _ (List.mem_append_right _ (List.mem_append_right _ (List.mem_append_right _ (List.mem_append_right _ (List.mem_append_left _ h)))))))))))))))))))))
theorem sub_r15 : ∀ w ∈ wsL_law_r15, w ∈ Gw := fun w h => List.mem_append_left _ (List.mem_append_left _ (List.mem_append_left _ (List.mem_append_left _ (List.mem_append_left _ (List.mem_append_left _ (List.mem_append_left _ (List.mem_append_left _ (List.mem_append_right _ (List.mem_append_right _ (List.mem_append_right _ (List.mem_append_right _ (List.mem_append_right _ (List.mem_append_right _ (List.mem_append_right _ (List.mem_append_right _ (List.mem_append_right _ (List.mem_append_right _ (List.mem_append_right _ (List.mem_append_right _ (List.mem_append_right _ (List.mem_append_right _ (List.mem_append_left _ h))))))))))))))))))))))
theorem sub_r16 : ∀ w ∈ wsL_law_r16, w ∈ Gw := fun w h => List.mem_append_left _ (List.mem_append_left _ (List.mem_append_left _ (List.mem_append_left _ (List.mem_append_left _ (List.mem_append_left _ (List.mem_append_left _ (List.mem_append_left _ (List.mem_append_right _ (List.mem_append_right _ (List.mem_append_right _ (List.mem_append_right _ (List.mem_append_right _ (List.mem_append_right _ (List.mem_append_right _ (List.mem_append_right _ (List.mem_append_right _ (List.mem_append_right _ (List.mem_append_right _ (List.mem_append_right _ (List.mem_append_right _ (List.mem_append_right _ (List.mem_append_right _ (List.mem_append_left _ h)))))))))))))))))))))))
theorem sub_r17 : ∀ w ∈ wsL_law_r17, w ∈ Gw := fun w h => List.mem_append_left _ (List.mem_append_left _ (List.mem_append_left _ (List.mem_append_left _ (List.mem_append_left _ (List.mem_append_left _ (List.mem_append_left _ (List.mem_append_left _ (List.mem_append_right _ (List.mem_append_right _ (List.mem_append_right _ (List.mem_append_right _ (List.mem_append_right _ (List.mem_append_right _ (List.mem_append_right _ (List.mem_append_right _ (List.mem_append_right _ (List.mem_append_right _ (List.mem_append_right _ (List.mem_append_right _ (List.mem_append_right _ (List.mem_append_right _ (List.mem_append_right _ (List.mem_append_right _ (List.mem_append_left _ h))))))))))))))))))))))))
theorem sub_r18 : ∀ w ∈ wsL_law_r18, w ∈ Gw := fun w h => List.mem_append_left _ (List.mem_append_left _ (List.mem_append_left _ (List.mem_append_left _ (List.mem_append_left _ (List.mem_append_left _ (List.mem_append_left _ (List.mem_append_left _ (List.mem_append_right _ (List.mem_append_right _ (List.mem_append_right _ (List.mem_append_right _ (List.mem_append_right _ (List.mem_append_right _ (List.mem_append_right _ (List.mem_append_right _ (List.mem_append_right _ (List.mem_append_right _ (List.mem_append_right _ (List.mem_append_right _ (List.mem_append_right _ (List.mem_append_right _ (List.mem_append_right _ (List.mem_append_right _ (List.mem_append_right _ (List.mem_append_left _ h)))))))))))))))))))))))))
theorem sub_r19 : ∀ w ∈ wsL_law_r19, w ∈ Gw := fun w h => List.mem_append_left _ (List.mem_append_left _ (List.mem_append_left _ (List.mem_append_left _ (List.mem_append_left _ (List.mem_append_left _ (List.mem_append_left _ (List.mem_append_left _ (List.mem_append_right _ (List.mem_append_right _ (List.mem_append_right _ (List.mem_append_right _ (List.mem_append_right _ (List.mem_append_right _ (List.mem_append_right _ (List.mem_append_right _ (List.mem_append_right _ (List.mem_append_right _ (List.mem_append_right _ (List.mem_append_right _ (List.mem_append_right _ (List.mem_append_right _ (List.mem_append_right _ (List.mem_append_right _ (List.mem_append_right _ (List.mem_append_right _ (List.mem_append_left _ h))))))))))))))))))))))))))
theorem sub_r20 : ∀ w ∈ wsL_law_r20, w ∈ Gw := fun w h => List.mem_append_left _ (List.mem_append_left _ (List.mem_append_left _ (List.mem_append_left _ (List.mem_append_left _ (List.mem_append_left _ (List.mem_append_left _ (List.mem_append_left _ (List.mem_append_right _ (List.mem_append_right _ (List.mem_append_right _ (List.mem_append_right _ (List.mem_append_right _ (List.mem_append_right _ (List.mem_append_right _ (List.mem_append_right _ (List.mem_append_right _ (List.mem_append_right _ (List.mem_append_right _ (List.mem_append_right _ (List.mem_append_right _ (List.mem_append_right _ (List.mem_append_right _ (List.mem_append_right _ (List.mem_append_right _ (List.mem_append_right _ (List.mem_append_right _ (List.mem_append_left _ h)))))))))))))))))))))))))))
theorem sub_r21 : ∀ w ∈ wsL_law_r21, w ∈ Gw := fun w h => List.mem_append_left _ (List.mem_append_left _ (List.mem_append_left _ (List.mem_append_left _ (List.mem_append_left _ (List.mem_append_left _ (List.mem_append_left _ (List.mem_append_left _ (List.mem_append_right _ (List.mem_append_right _ (List.mem_append_right _ (List.mem_append_right _ (List.mem_append_right _ (List.mem_append_right _ (List.mem_append_right _ (List.mem_append_right _ (List.mem_append_right _ (List.mem_append_right _ (List.mem_append_right _ (List.mem_append_right _ (List.mem_append_right _ (List.mem_append_right _ (List.mem_append_right _ (List.mem_append_right _ (List.mem_append_right _ (List.mem_append_right _ (List.mem_append_right _ (List.mem_append_right _ (List.mem_append_left _ h))))))))))))))))))))))))))))
theorem sub_r22 : ∀ w ∈ wsL_law_r22, w ∈ Gw := fun w h => List.mem_append_left _ (List.mem_append_left _ (List.mem_append_left _ (List.mem_append_left _ (List.mem_append_left _ (List.mem_append_left _ (List.mem_append_left _ (List.mem_append_left _ (List.mem_append_right _ (List.mem_append_right _ (List.mem_append_right _ (List.mem_append_right _ (List.mem_append_right _ (List.mem_append_right _ (List.mem_append_right _ (List.mem_append_right _ (List.mem_append_right _ (List.mem_append_right _ (List.mem_append_right _ (List.mem_append_right _ (List.mem_append_right _ (List.mem_append_right _ (List.mem_append_right _ (List.mem_append_right _ (List.mem_append_right _ (List.mem_append_right _ (List.mem_append_right _ (List.mem_append_right _ (List.mem_append_right _ (List.mem_append_left _ h)))))))))))))))))))))))))))))
theorem sub_r23 : ∀ w ∈ wsL_law_r23, w ∈ Gw := fun w h => List.mem_append_left _ (List.mem_append_left _ (List.mem_append_left _ (List.mem_append_left _ (List.mem_append_left _ (List.mem_append_left _ (List.mem_append_left _ (List.mem_append_left _ (List.mem_append_right _ (List.mem_append_right _ (List.mem_append_right _ (List.mem_append_right _ (List.mem_append_right _ (List.mem_append_right _ (List.mem_append_right _ (List.mem_append_right _ (List.mem_append_right _ (List.mem_append_right _ (List.mem_append_right _ (List.mem_append_right _ (List.mem_append_right _ (List.mem_append_right _ (List.mem_append_right _ (List.mem_append_right _ (List.mem_append_right _ (List.mem_append_right _ (List.mem_append_right _ (List.mem_append_right _ (List.mem_append_right _ (List.mem_append_right _ (List.mem_append_left _ h))))))))))))))))))))))))))))))
theorem sub_r24 : ∀ w ∈ wsL_law_r24, w ∈ Gw := fun w h => List.mem_append_left _ (List.mem_append_left _ (List.mem_append_left _ (List.mem_append_left _ (List.mem_append_left _ (List.mem_append_left _ (List.mem_append_left _ (List.mem_append_left _ (List.mem_append_right _ (List.mem_append_right _ (List.mem_append_right _ (List.mem_append_right _ (List.mem_append_right _ (List.mem_append_right _ (List.mem_append_right _ (List.mem_append_right _ (List.mem_append_right _ (List.mem_append_right _ (List.mem_append_right _ (List.mem_append_right _ (List.mem_append_right _ (List.mem_append_right _ (List.mem_append_right _ (List.mem_append_right _ (List.mem_append_right _ (List.mem_append_right _ (List.mem_append_right _ (List.mem_append_right _ (List.mem_append_right _ (List.mem_append_right _ (List.mem_append_right _ (List.mem_append_left _ h)))))))))))))))))))))))))))))))
theorem sub_r25 : ∀ w ∈ wsL_law_r25, w ∈ Gw := fun w h => List.mem_append_left _ (List.mem_append_left _ (List.mem_append_left _ (List.mem_append_left _ (List.mem_append_left _ (List.mem_append_left _ (List.mem_append_left _ (List.mem_append_left _ (List.mem_append_right _ (List.mem_append_right _ (List.mem_append_right _ (List.mem_append_right _ (List.mem_append_right _ (List.mem_append_right _ (List.mem_append_right _ (List.mem_append_right _ (List.mem_append_right _ (List.mem_append_right _ (List.mem_append_right _ (List.mem_append_right _ (List.mem_append_right _ (List.mem_append_right _ (List.mem_append_right _ (List.mem_append_right _ (List.mem_append_right _ (List.mem_append_right _ (List.mem_append_right _ (List.mem_append_right _ (List.mem_append_right _ (List.mem_append_right _ (List.mem_append_right _ (List.mem_append_right _ (List.mem_append_left _ h))))))))))))))))))))))))))))))))
theorem sub_r26 : ∀ w ∈ wsL_law_r26, w ∈ Gw := fun w h => List.mem_append_left _ (List.mem_append_left _ (List.mem_append_left _ (List.mem_append_left _ (List.mem_append_left _ (List.mem_append_left _ (List.mem_append_left _ (List.mem_append_left _ (List.mem_append_right _ (List.mem_append_right _ (List.mem_append_right _ (List.mem_append_right _ (List.mem_append_right _ (List.mem_append_right _ (List.mem_append_right _ (List.mem_append_right _ (List.mem_append_right _ (List.mem_append_right _ (List.mem_append_right _ (List.mem_append_right _ (List.mem_append_right _ (List.mem_append_right _ (List.mem_append_right _ (List.mem_append_right _ (List.mem_append_right _ (List.mem_append_right _ (List.mem_append_right _ (List.mem_append_right _ (List.mem_append_right _ (List.mem_append_right _ (List.mem_append_right _ (List.mem_append_right _ (List.mem_append_right _ (List.mem_append_left _ h)))))))))))))))))))))))))))))))))
theorem sub_r27 : ∀ w ∈ wsL_law_r27, w ∈ Gw := fun w h => List.mem_append_left _ (List.mem_append_left _ (List.mem_append_left _ (List.mem_append_left _ (List.mem_append_left _ (List.mem_append_left _ (List.mem_append_left _ (List.mem_append_left _ (List.mem_append_right _ (List.mem_append_right _ (List.mem_append_right _ (List.mem_append_right _ (List.mem_append_right _ (List.mem_append_right _ (List.mem_append_right _ (List.mem_append_right _ (List.mem_append_right _ (List.mem_append_right _ (List.mem_append_right _ (List.mem_append_right _ (List.mem_append_right _ (List.mem_append_right _ (List.mem_append_right _ (List.mem_append_right _ (List.mem_append_right _ (List.mem_append_right _ (List.mem_append_right _ (List.mem_append_right _ (List.mem_append_right _ (List.mem_append_right _ (List.mem_append_right _ (List.mem_append_right _ (List.mem_append_right _ (List.mem_append_right _ (List.mem_append_left _ h))))))))))))))))))))))))))))))))))
theorem sub_r28 : ∀ w ∈ wsL_law_r28, w ∈ Gw := fun w h => List.mem_append_left _ (List.mem_append_left _ (List.mem_append_left _ (List.mem_append_left _ (List.mem_append_left _ (List.mem_append_left _ (List.mem_append_left _ (List.mem_append_left _ (List.mem_append_right _ (List.mem_append_right _ (List.mem_append_right _ (List.mem_append_right _ (List.mem_append_right _ (List.mem_append_right _ (List.mem_append_right _ (List.mem_append_right _ (List.mem_append_right _ (List.mem_append_right _ (List.mem_append_right _ (List.mem_append_right _ (List.mem_append_right _ (List.mem_append_right _ (List.mem_append_right _ (List.mem_append_right _ (List.mem_append_right _ (List.mem_append_right _ (List.mem_append_right _ (List.mem_append_right _ (List.mem_append_right _ (List.mem_append_right _ (List.mem_append_right _ (List.mem_append_right _ (List.mem_append_right _ (List.mem_append_right _ (List.mem_append_right _ (List.mem_append_left _ h)))))))))))))))))))))))))))))))))))
theorem sub_r29 : ∀ w ∈ wsL_law_r29, w ∈ Gw := fun w h => List.mem_append_left _ (List.mem_append_left _ (List.mem_append_left _ (List.mem_append_left _ (List.mem_append_left _ (List.mem_append_left _ (List.mem_append_left _ (List.mem_append_left _ (List.mem_append_right _ (List.mem_append_right _ (List.mem_append_right _ (List.mem_append_right _ (List.mem_append_right _ (List.mem_append_right _ (List.mem_append_right _ (List.mem_append_right _ (List.mem_append_right _ (List.mem_append_right _ (List.mem_append_right _ (List.mem_append_right _ (List.mem_append_right _ (List.mem_append_right _ (List.mem_append_right _ (List.mem_append_right _ (List.mem_append_right _ (List.mem_append_right _ (List.mem_append_right _ (List.mem_append_right _ (List.mem_append_right _ (List.mem_append_right _ (List.mem_append_right _ (List.mem_append_right _ (List.mem_append_right _ (List.mem_append_right _ (List.mem_append_right _ (List.mem_append_right _ (h))))))))))))))))))))))))))))))))))))
theorem gm_54 : Cond.methodLink RX3 1 objectInit ∈ Gw := sub_r3 _ (List.mem_of_getElem? (i := 6) rfl)
theorem gm_55 : Cond.methodLink RX3 7 Lib.Math.max.name ∈ Gw := sub_r3 _ (List.mem_of_getElem? (i := 7) rfl)
theorem gm_43 : Cond.static Lib.Math.max.name ∈ Gw := sub_r2 _ (List.mem_of_getElem? (i := 19) rfl)
theorem gm_44 : Cond.initialized "java/lang/Math" ∈ Gw := sub_r2 _ (List.mem_of_getElem? (i := 20) rfl)
theorem gm_45 : Cond.code Lib.Math.max.name Lib.Math.max.code 2 (some .int) ∈ Gw := sub_r2 _ (List.mem_of_getElem? (i := 21) rfl)
theorem gm_56 : Cond.classLink RX3 13 RX2 ∈ Gw := sub_r3 _ (List.mem_of_getElem? (i := 8) rfl)
theorem flX3_15 : FL RX3 15 3 0 2 true := ⟨RX3, TX3, 2, tyX3, rfl, inlX3, tyX3_ok, nmX3, by decide, rfl, sub_r3 _ (List.mem_of_getElem? (i := 9) rfl), rfl, vo_a _, rfl, (fun _ => rfl), by decide⟩
theorem gm_60 : Cond.methodLink RX0 3 objectInit ∈ Gw := sub_r3 _ (List.mem_of_getElem? (i := 12) rfl)
theorem gm_61 : Cond.arrayClass .long ∈ Gw := sub_r3 _ (List.mem_of_getElem? (i := 13) rfl)
theorem flX0_9 : FL RX0 9 0 4 2 true := ⟨RX0, TX0, 11, tyX0, rfl, inlX0, tyX0_ok, nmX0, by decide, rfl, sub_r3 _ (List.mem_of_getElem? (i := 14) rfl), rfl, vo_a _, rfl, (fun _ => rfl), by decide⟩
theorem gm_63 : Cond.arrayClass .int ∈ Gw := sub_r3 _ (List.mem_of_getElem? (i := 15) rfl)
theorem flX0_15 : FL RX0 15 0 5 2 true := ⟨RX0, TX0, 11, tyX0, rfl, inlX0, tyX0_ok, nmX0, by decide, rfl, sub_r3 _ (List.mem_of_getElem? (i := 16) rfl), rfl, vo_a _, rfl, (fun _ => rfl), by decide⟩
theorem flX0_19 : FL RX0 19 0 6 2 true := ⟨RX0, TX0, 11, tyX0, rfl, inlX0, tyX0_ok, nmX0, by decide, rfl, sub_r3 _ (List.mem_of_getElem? (i := 17) rfl), rfl, vo_a _, rfl, (fun _ => rfl), by decide⟩
theorem flX0_22 : FL RX0 22 0 7 2 true := ⟨RX0, TX0, 11, tyX0, rfl, inlX0, tyX0_ok, nmX0, by decide, rfl, sub_r3 _ (List.mem_of_getElem? (i := 18) rfl), rfl, vo_a _, rfl, (fun _ => rfl), by decide⟩
theorem flX0_25 : FL RX0 25 0 8 2 true := ⟨RX0, TX0, 11, tyX0, rfl, inlX0, tyX0_ok, nmX0, by decide, rfl, sub_r3 _ (List.mem_of_getElem? (i := 19) rfl), rfl, vo_a _, rfl, (fun _ => rfl), by decide⟩
theorem flX0_28 : FL RX0 28 0 9 2 true := ⟨RX0, TX0, 11, tyX0, rfl, inlX0, tyX0_ok, nmX0, by decide, rfl, sub_r3 _ (List.mem_of_getElem? (i := 20) rfl), rfl, vo_a _, rfl, (fun _ => rfl), by decide⟩
theorem flX0_31 : FL RX0 31 0 10 2 true := ⟨RX0, TX0, 11, tyX0, rfl, inlX0, tyX0_ok, nmX0, by decide, rfl, sub_r3 _ (List.mem_of_getElem? (i := 21) rfl), rfl, vo_a _, rfl, (fun _ => rfl), by decide⟩
theorem flX0_34 : FL RX0 34 0 0 0 false := ⟨RX0, TX0, 11, tyX0, rfl, inlX0, tyX0_ok, nmX0, by decide, rfl, sub_r4 _ (List.mem_of_getElem? (i := 2) rfl), rfl, vo_i, rfl, (fun h => by cases h), by decide⟩
theorem flX0_38 : FL RX0 38 0 1 0 false := ⟨RX0, TX0, 11, tyX0, rfl, inlX0, tyX0_ok, nmX0, by decide, rfl, sub_r4 _ (List.mem_of_getElem? (i := 3) rfl), rfl, vo_i, rfl, (fun h => by cases h), by decide⟩
theorem flX0_41 : FL RX0 41 0 2 0 false := ⟨RX0, TX0, 11, tyX0, rfl, inlX0, tyX0_ok, nmX0, by decide, rfl, sub_r4 _ (List.mem_of_getElem? (i := 4) rfl), rfl, vo_i, rfl, (fun h => by cases h), by decide⟩
theorem flX0_44 : FL RX0 44 0 3 0 false := ⟨RX0, TX0, 11, tyX0, rfl, inlX0, tyX0_ok, nmX0, by decide, rfl, sub_r4 _ (List.mem_of_getElem? (i := 5) rfl), rfl, vo_i, rfl, (fun h => by cases h), by decide⟩
theorem saX0_47 : SA RX0 47 := ⟨sub_r4 _ (List.mem_of_getElem? (i := 6) rfl), sub_r4 _ (List.mem_of_getElem? (i := 7) rfl), sub_r4 _ (List.mem_of_getElem? (i := 8) rfl), sub_r4 _ (List.mem_of_getElem? (i := 9) rfl)⟩
theorem gm_33 : Cond.methodLink RX4 3 objectInit ∈ Gw := sub_r2 _ (List.mem_of_getElem? (i := 9) rfl)
theorem clX4_9 : CL RX4 9 3 2 := ⟨RX3, TX3, tyX3, rfl, inlX3, tyX3_ok, sub_r2 _ (List.mem_of_getElem? (i := 10) rfl), sub_r2 _ (List.mem_of_getElem? (i := 3) rfl), sub_r2 _ (List.mem_of_getElem? (i := 4) rfl), by decide +kernel, by decide⟩
theorem mlX4_11 : ML RX4 11 yX3_init cX3_init 2 none 1 := ⟨sub_r3 _ (List.mem_of_getElem? (i := 3) rfl), sub_r3 _ (List.mem_of_getElem? (i := 5) rfl), sub_r2 _ (List.mem_of_getElem? (i := 4) rfl), by decide +kernel⟩
theorem gm_52 : Cond.instanceMethod yX3_init ∈ Gw := sub_r3 _ (List.mem_of_getElem? (i := 4) rfl)
theorem flX4_14 : FL RX4 14 4 1 2 true := ⟨RX4, TX4, 6, tyX4, rfl, inlX4, tyX4_ok, nmX4, by decide, rfl, sub_r2 _ (List.mem_of_getElem? (i := 11) rfl), rfl, vo_o _, rfl, (fun _ => rfl), by decide⟩
theorem gm_36 : Cond.classLink RX4 20 RX0 ∈ Gw := sub_r2 _ (List.mem_of_getElem? (i := 12) rfl)
theorem flX4_22 : FL RX4 22 4 2 2 true := ⟨RX4, TX4, 6, tyX4, rfl, inlX4, tyX4_ok, nmX4, by decide, rfl, sub_r2 _ (List.mem_of_getElem? (i := 13) rfl), rfl, vo_a _, rfl, (fun _ => rfl), by decide⟩
theorem flX4_26 : FL RX4 26 4 3 2 true := ⟨RX4, TX4, 6, tyX4, rfl, inlX4, tyX4_ok, nmX4, by decide, rfl, sub_r2 _ (List.mem_of_getElem? (i := 14) rfl), rfl, vo_a _, rfl, (fun _ => rfl), by decide⟩
theorem flX4_29 : FL RX4 29 4 4 3 false := ⟨RX4, TX4, 6, tyX4, rfl, inlX4, tyX4_ok, nmX4, by decide, rfl, sub_r2 _ (List.mem_of_getElem? (i := 15) rfl), rfl, vo_z, rfl, (fun h => by cases h), by decide⟩
theorem flX4_33 : FL RX4 33 4 5 3 false := ⟨RX4, TX4, 6, tyX4, rfl, inlX4, tyX4_ok, nmX4, by decide, rfl, sub_r2 _ (List.mem_of_getElem? (i := 16) rfl), rfl, vo_z, rfl, (fun h => by cases h), by decide⟩
theorem flX4_36 : FL RX4 36 4 0 0 true := ⟨RX4, TX4, 6, tyX4, rfl, inlX4, tyX4_ok, nmX4, by decide, rfl, sub_r2 _ (List.mem_of_getElem? (i := 17) rfl), rfl, vo_i, rfl, (fun _ => rfl), by decide⟩
theorem gm_42 : Cond.methodLink RX4 40 Lib.Math.max.name ∈ Gw := sub_r2 _ (List.mem_of_getElem? (i := 18) rfl)
theorem clX4_20 : CL RX4 20 0 11 := ⟨RX0, TX0, tyX0, rfl, inlX0, tyX0_ok, sub_r2 _ (List.mem_of_getElem? (i := 12) rfl), sub_r2 _ (List.mem_of_getElem? (i := 22) rfl), sub_r2 _ (List.mem_of_getElem? (i := 23) rfl), by decide +kernel, by decide⟩
theorem mn_X0_init : MN yX0_init cX0_init 1 none 0 := ⟨sub_r3 _ (List.mem_of_getElem? (i := 11) rfl), sub_r2 _ (List.mem_of_getElem? (i := 23) rfl), by decide +kernel⟩
theorem gm_58 : Cond.instanceMethod yX0_init ∈ Gw := sub_r3 _ (List.mem_of_getElem? (i := 10) rfl)
theorem flX4_47 : FL RX4 47 0 2 0 false := ⟨RX0, TX0, 11, tyX0, rfl, inlX0, tyX0_ok, nmX0, by decide, rfl, sub_r3 _ (List.mem_of_getElem? (i := 0) rfl), rfl, vo_i, rfl, (fun h => by cases h), by decide⟩
theorem flX4_50 : FL RX4 50 0 0 0 false := ⟨RX0, TX0, 11, tyX0, rfl, inlX0, tyX0_ok, nmX0, by decide, rfl, sub_r3 _ (List.mem_of_getElem? (i := 1) rfl), rfl, vo_i, rfl, (fun h => by cases h), by decide⟩
theorem flX4_53 : FL RX4 53 0 1 0 false := ⟨RX0, TX0, 11, tyX0, rfl, inlX0, tyX0_ok, nmX0, by decide, rfl, sub_r3 _ (List.mem_of_getElem? (i := 2) rfl), rfl, vo_i, rfl, (fun h => by cases h), by decide⟩
theorem mlX4_56 : ML RX4 56 yX0_copyFrom cX0_copyFrom 2 none 1 := ⟨sub_r3 _ (List.mem_of_getElem? (i := 22) rfl), sub_r4 _ (List.mem_of_getElem? (i := 1) rfl), sub_r2 _ (List.mem_of_getElem? (i := 23) rfl), by decide +kernel⟩
theorem gm_71 : Cond.instanceMethod yX0_copyFrom ∈ Gw := sub_r3 _ (List.mem_of_getElem? (i := 23) rfl)
theorem gm_72 : Cond.selects RX0 yX0_copyFrom yX0_copyFrom ∈ Gw := sub_r4 _ (List.mem_of_getElem? (i := 0) rfl)
theorem gm_85 : Cond.methodLink RX1 3 objectInit ∈ Gw := sub_r4 _ (List.mem_of_getElem? (i := 13) rfl)
theorem flX1_9 : FL RX1 9 1 4 2 true := ⟨RX1, TX1, 11, tyX1, rfl, inlX1, tyX1_ok, nmX1, by decide, rfl, sub_r4 _ (List.mem_of_getElem? (i := 14) rfl), rfl, vo_a _, rfl, (fun _ => rfl), by decide⟩
theorem flX1_15 : FL RX1 15 1 5 2 true := ⟨RX1, TX1, 11, tyX1, rfl, inlX1, tyX1_ok, nmX1, by decide, rfl, sub_r4 _ (List.mem_of_getElem? (i := 15) rfl), rfl, vo_a _, rfl, (fun _ => rfl), by decide⟩
theorem flX1_18 : FL RX1 18 1 6 2 true := ⟨RX1, TX1, 11, tyX1, rfl, inlX1, tyX1_ok, nmX1, by decide, rfl, sub_r4 _ (List.mem_of_getElem? (i := 16) rfl), rfl, vo_a _, rfl, (fun _ => rfl), by decide⟩
theorem flX1_21 : FL RX1 21 1 7 2 true := ⟨RX1, TX1, 11, tyX1, rfl, inlX1, tyX1_ok, nmX1, by decide, rfl, sub_r4 _ (List.mem_of_getElem? (i := 17) rfl), rfl, vo_a _, rfl, (fun _ => rfl), by decide⟩
theorem flX1_25 : FL RX1 25 1 8 2 true := ⟨RX1, TX1, 11, tyX1, rfl, inlX1, tyX1_ok, nmX1, by decide, rfl, sub_r4 _ (List.mem_of_getElem? (i := 18) rfl), rfl, vo_a _, rfl, (fun _ => rfl), by decide⟩
theorem flX1_28 : FL RX1 28 1 9 2 true := ⟨RX1, TX1, 11, tyX1, rfl, inlX1, tyX1_ok, nmX1, by decide, rfl, sub_r4 _ (List.mem_of_getElem? (i := 19) rfl), rfl, vo_a _, rfl, (fun _ => rfl), by decide⟩
theorem flX1_31 : FL RX1 31 1 10 2 true := ⟨RX1, TX1, 11, tyX1, rfl, inlX1, tyX1_ok, nmX1, by decide, rfl, sub_r4 _ (List.mem_of_getElem? (i := 20) rfl), rfl, vo_a _, rfl, (fun _ => rfl), by decide⟩
theorem flX1_34 : FL RX1 34 1 0 0 true := ⟨RX1, TX1, 11, tyX1, rfl, inlX1, tyX1_ok, nmX1, by decide, rfl, sub_r4 _ (List.mem_of_getElem? (i := 21) rfl), rfl, vo_i, rfl, (fun _ => rfl), by decide⟩
theorem gm_94 : Cond.methodLink RX1 38 Lib.Math.max.name ∈ Gw := sub_r4 _ (List.mem_of_getElem? (i := 22) rfl)
theorem gm_14 : Cond.methodLink RX5 3 objectInit ∈ Gw := sub_r1 _ (List.mem_of_getElem? (i := 14) rfl)
theorem flX5_9 : FL RX5 9 5 3 0 true := ⟨RX5, TX5, 9, tyX5, rfl, inlX5, tyX5_ok, nmX5, by decide, rfl, sub_r1 _ (List.mem_of_getElem? (i := 17) rfl), rfl, vo_i, rfl, (fun _ => rfl), by decide⟩
theorem gm_18 : Cond.classLink RX5 13 RX4 ∈ Gw := sub_r1 _ (List.mem_of_getElem? (i := 18) rfl)
theorem flX5_15 : FL RX5 15 5 0 2 true := ⟨RX5, TX5, 9, tyX5, rfl, inlX5, tyX5_ok, nmX5, by decide, rfl, sub_r1 _ (List.mem_of_getElem? (i := 19) rfl), rfl, vo_a _, rfl, (fun _ => rfl), by decide⟩
theorem clX5_13 : CL RX5 13 4 6 := ⟨RX4, TX4, tyX4, rfl, inlX4, tyX4_ok, sub_r1 _ (List.mem_of_getElem? (i := 18) rfl), sub_r1 _ (List.mem_of_getElem? (i := 20) rfl), sub_r1 _ (List.mem_of_getElem? (i := 21) rfl), by decide +kernel, by decide⟩
theorem mlX5_19 : ML RX5 19 yX4_init cX4_init 6 none 2 := ⟨sub_r2 _ (List.mem_of_getElem? (i := 6) rfl), sub_r2 _ (List.mem_of_getElem? (i := 8) rfl), sub_r1 _ (List.mem_of_getElem? (i := 21) rfl), by decide +kernel⟩
theorem gm_31 : Cond.instanceMethod yX4_init ∈ Gw := sub_r2 _ (List.mem_of_getElem? (i := 7) rfl)
theorem gm_22 : Cond.classLink RX5 22 RX1 ∈ Gw := sub_r1 _ (List.mem_of_getElem? (i := 22) rfl)
theorem flX5_24 : FL RX5 24 5 1 2 true := ⟨RX5, TX5, 9, tyX5, rfl, inlX5, tyX5_ok, nmX5, by decide, rfl, sub_r1 _ (List.mem_of_getElem? (i := 23) rfl), rfl, vo_a _, rfl, (fun _ => rfl), by decide⟩
theorem clX5_22 : CL RX5 22 1 11 := ⟨RX1, TX1, tyX1, rfl, inlX1, tyX1_ok, sub_r1 _ (List.mem_of_getElem? (i := 22) rfl), sub_r2 _ (List.mem_of_getElem? (i := 0) rfl), sub_r2 _ (List.mem_of_getElem? (i := 1) rfl), by decide +kernel, by decide⟩
theorem mlX5_28 : ML RX5 28 yX1_init cX1_init 5 none 2 := ⟨sub_r4 _ (List.mem_of_getElem? (i := 10) rfl), sub_r4 _ (List.mem_of_getElem? (i := 12) rfl), sub_r2 _ (List.mem_of_getElem? (i := 1) rfl), by decide +kernel⟩
theorem gm_83 : Cond.instanceMethod yX1_init ∈ Gw := sub_r4 _ (List.mem_of_getElem? (i := 11) rfl)
theorem clX5_29 : CL RX5 29 3 2 := ⟨RX3, TX3, tyX3, rfl, inlX3, tyX3_ok, sub_r2 _ (List.mem_of_getElem? (i := 2) rfl), sub_r2 _ (List.mem_of_getElem? (i := 3) rfl), sub_r2 _ (List.mem_of_getElem? (i := 4) rfl), by decide +kernel, by decide⟩
theorem mlX5_31 : ML RX5 31 yX3_init cX3_init 2 none 1 := ⟨sub_r4 _ (List.mem_of_getElem? (i := 23) rfl), sub_r3 _ (List.mem_of_getElem? (i := 5) rfl), sub_r2 _ (List.mem_of_getElem? (i := 4) rfl), by decide +kernel⟩
theorem flX5_34 : FL RX5 34 5 2 2 true := ⟨RX5, TX5, 9, tyX5, rfl, inlX5, tyX5_ok, nmX5, by decide, rfl, sub_r2 _ (List.mem_of_getElem? (i := 5) rfl), rfl, vo_o _, rfl, (fun _ => rfl), by decide⟩
theorem gm_99 : Cond.methodLink RX6 1 objectInit ∈ Gw := sub_r5 _ (List.mem_of_getElem? (i := 3) rfl)
theorem flX6_7 : FL RX6 7 6 7 2 true := ⟨RX6, TX6, 53, tyX6, rfl, inlX6, tyX6_ok, nmX6, by decide, rfl, sub_r5 _ (List.mem_of_getElem? (i := 4) rfl), rfl, vo_a _, rfl, (fun _ => rfl), by decide⟩
theorem flX6_13 : FL RX6 13 6 8 2 true := ⟨RX6, TX6, 53, tyX6, rfl, inlX6, tyX6_ok, nmX6, by decide, rfl, sub_r5 _ (List.mem_of_getElem? (i := 5) rfl), rfl, vo_a _, rfl, (fun _ => rfl), by decide⟩
theorem flX6_16 : FL RX6 16 6 9 2 true := ⟨RX6, TX6, 53, tyX6, rfl, inlX6, tyX6_ok, nmX6, by decide, rfl, sub_r5 _ (List.mem_of_getElem? (i := 6) rfl), rfl, vo_a _, rfl, (fun _ => rfl), by decide⟩
theorem flX6_19 : FL RX6 19 6 10 2 true := ⟨RX6, TX6, 53, tyX6, rfl, inlX6, tyX6_ok, nmX6, by decide, rfl, sub_r5 _ (List.mem_of_getElem? (i := 7) rfl), rfl, vo_a _, rfl, (fun _ => rfl), by decide⟩
theorem flX6_22 : FL RX6 22 6 11 2 true := ⟨RX6, TX6, 53, tyX6, rfl, inlX6, tyX6_ok, nmX6, by decide, rfl, sub_r5 _ (List.mem_of_getElem? (i := 8) rfl), rfl, vo_a _, rfl, (fun _ => rfl), by decide⟩
theorem flX6_25 : FL RX6 25 6 12 2 true := ⟨RX6, TX6, 53, tyX6, rfl, inlX6, tyX6_ok, nmX6, by decide, rfl, sub_r5 _ (List.mem_of_getElem? (i := 9) rfl), rfl, vo_a _, rfl, (fun _ => rfl), by decide⟩
theorem flX6_29 : FL RX6 29 6 13 2 true := ⟨RX6, TX6, 53, tyX6, rfl, inlX6, tyX6_ok, nmX6, by decide, rfl, sub_r5 _ (List.mem_of_getElem? (i := 10) rfl), rfl, vo_a _, rfl, (fun _ => rfl), by decide⟩
theorem flX6_32 : FL RX6 32 6 14 2 true := ⟨RX6, TX6, 53, tyX6, rfl, inlX6, tyX6_ok, nmX6, by decide, rfl, sub_r5 _ (List.mem_of_getElem? (i := 11) rfl), rfl, vo_a _, rfl, (fun _ => rfl), by decide⟩
theorem flX6_35 : FL RX6 35 6 15 2 true := ⟨RX6, TX6, 53, tyX6, rfl, inlX6, tyX6_ok, nmX6, by decide, rfl, sub_r5 _ (List.mem_of_getElem? (i := 12) rfl), rfl, vo_a _, rfl, (fun _ => rfl), by decide⟩
theorem flX6_38 : FL RX6 38 6 16 2 true := ⟨RX6, TX6, 53, tyX6, rfl, inlX6, tyX6_ok, nmX6, by decide, rfl, sub_r5 _ (List.mem_of_getElem? (i := 13) rfl), rfl, vo_a _, rfl, (fun _ => rfl), by decide⟩
theorem flX6_41 : FL RX6 41 6 17 2 true := ⟨RX6, TX6, 53, tyX6, rfl, inlX6, tyX6_ok, nmX6, by decide, rfl, sub_r5 _ (List.mem_of_getElem? (i := 14) rfl), rfl, vo_a _, rfl, (fun _ => rfl), by decide⟩
theorem flX6_44 : FL RX6 44 6 18 2 true := ⟨RX6, TX6, 53, tyX6, rfl, inlX6, tyX6_ok, nmX6, by decide, rfl, sub_r5 _ (List.mem_of_getElem? (i := 15) rfl), rfl, vo_a _, rfl, (fun _ => rfl), by decide⟩
theorem flX6_47 : FL RX6 47 6 19 2 true := ⟨RX6, TX6, 53, tyX6, rfl, inlX6, tyX6_ok, nmX6, by decide, rfl, sub_r5 _ (List.mem_of_getElem? (i := 16) rfl), rfl, vo_a _, rfl, (fun _ => rfl), by decide⟩
theorem flX6_50 : FL RX6 50 6 20 2 true := ⟨RX6, TX6, 53, tyX6, rfl, inlX6, tyX6_ok, nmX6, by decide, rfl, sub_r5 _ (List.mem_of_getElem? (i := 17) rfl), rfl, vo_a _, rfl, (fun _ => rfl), by decide⟩
theorem flX6_53 : FL RX6 53 6 21 2 true := ⟨RX6, TX6, 53, tyX6, rfl, inlX6, tyX6_ok, nmX6, by decide, rfl, sub_r5 _ (List.mem_of_getElem? (i := 18) rfl), rfl, vo_a _, rfl, (fun _ => rfl), by decide⟩
theorem flX6_56 : FL RX6 56 6 22 2 true := ⟨RX6, TX6, 53, tyX6, rfl, inlX6, tyX6_ok, nmX6, by decide, rfl, sub_r5 _ (List.mem_of_getElem? (i := 19) rfl), rfl, vo_a _, rfl, (fun _ => rfl), by decide⟩
theorem flX6_59 : FL RX6 59 6 23 2 true := ⟨RX6, TX6, 53, tyX6, rfl, inlX6, tyX6_ok, nmX6, by decide, rfl, sub_r5 _ (List.mem_of_getElem? (i := 20) rfl), rfl, vo_a _, rfl, (fun _ => rfl), by decide⟩
theorem flX6_62 : FL RX6 62 6 24 2 true := ⟨RX6, TX6, 53, tyX6, rfl, inlX6, tyX6_ok, nmX6, by decide, rfl, sub_r5 _ (List.mem_of_getElem? (i := 21) rfl), rfl, vo_a _, rfl, (fun _ => rfl), by decide⟩
theorem flX6_65 : FL RX6 65 6 25 2 true := ⟨RX6, TX6, 53, tyX6, rfl, inlX6, tyX6_ok, nmX6, by decide, rfl, sub_r5 _ (List.mem_of_getElem? (i := 22) rfl), rfl, vo_a _, rfl, (fun _ => rfl), by decide⟩
theorem flX6_68 : FL RX6 68 6 26 2 true := ⟨RX6, TX6, 53, tyX6, rfl, inlX6, tyX6_ok, nmX6, by decide, rfl, sub_r5 _ (List.mem_of_getElem? (i := 23) rfl), rfl, vo_a _, rfl, (fun _ => rfl), by decide⟩
theorem flX6_71 : FL RX6 71 6 27 2 true := ⟨RX6, TX6, 53, tyX6, rfl, inlX6, tyX6_ok, nmX6, by decide, rfl, sub_r6 _ (List.mem_of_getElem? (i := 0) rfl), rfl, vo_a _, rfl, (fun _ => rfl), by decide⟩
theorem gm_121 : Cond.arrayClass .boolean ∈ Gw := sub_r6 _ (List.mem_of_getElem? (i := 1) rfl)
theorem flX6_74 : FL RX6 74 6 28 2 true := ⟨RX6, TX6, 53, tyX6, rfl, inlX6, tyX6_ok, nmX6, by decide, rfl, sub_r6 _ (List.mem_of_getElem? (i := 2) rfl), rfl, vo_a _, rfl, (fun _ => rfl), by decide⟩
theorem flX6_78 : FL RX6 78 6 29 2 true := ⟨RX6, TX6, 53, tyX6, rfl, inlX6, tyX6_ok, nmX6, by decide, rfl, sub_r6 _ (List.mem_of_getElem? (i := 3) rfl), rfl, vo_a _, rfl, (fun _ => rfl), by decide⟩
theorem flX6_81 : FL RX6 81 6 30 2 true := ⟨RX6, TX6, 53, tyX6, rfl, inlX6, tyX6_ok, nmX6, by decide, rfl, sub_r6 _ (List.mem_of_getElem? (i := 4) rfl), rfl, vo_a _, rfl, (fun _ => rfl), by decide⟩
theorem flX6_84 : FL RX6 84 6 31 2 true := ⟨RX6, TX6, 53, tyX6, rfl, inlX6, tyX6_ok, nmX6, by decide, rfl, sub_r6 _ (List.mem_of_getElem? (i := 5) rfl), rfl, vo_a _, rfl, (fun _ => rfl), by decide⟩
theorem flX6_87 : FL RX6 87 6 32 2 true := ⟨RX6, TX6, 53, tyX6, rfl, inlX6, tyX6_ok, nmX6, by decide, rfl, sub_r6 _ (List.mem_of_getElem? (i := 6) rfl), rfl, vo_a _, rfl, (fun _ => rfl), by decide⟩
theorem flX6_90 : FL RX6 90 6 33 2 true := ⟨RX6, TX6, 53, tyX6, rfl, inlX6, tyX6_ok, nmX6, by decide, rfl, sub_r6 _ (List.mem_of_getElem? (i := 7) rfl), rfl, vo_a _, rfl, (fun _ => rfl), by decide⟩
theorem flX6_93 : FL RX6 93 6 34 2 true := ⟨RX6, TX6, 53, tyX6, rfl, inlX6, tyX6_ok, nmX6, by decide, rfl, sub_r6 _ (List.mem_of_getElem? (i := 8) rfl), rfl, vo_a _, rfl, (fun _ => rfl), by decide⟩
theorem flX6_96 : FL RX6 96 6 35 2 true := ⟨RX6, TX6, 53, tyX6, rfl, inlX6, tyX6_ok, nmX6, by decide, rfl, sub_r6 _ (List.mem_of_getElem? (i := 9) rfl), rfl, vo_a _, rfl, (fun _ => rfl), by decide⟩
theorem flX6_99 : FL RX6 99 6 36 2 true := ⟨RX6, TX6, 53, tyX6, rfl, inlX6, tyX6_ok, nmX6, by decide, rfl, sub_r6 _ (List.mem_of_getElem? (i := 10) rfl), rfl, vo_a _, rfl, (fun _ => rfl), by decide⟩
theorem flX6_102 : FL RX6 102 6 37 2 true := ⟨RX6, TX6, 53, tyX6, rfl, inlX6, tyX6_ok, nmX6, by decide, rfl, sub_r6 _ (List.mem_of_getElem? (i := 11) rfl), rfl, vo_a _, rfl, (fun _ => rfl), by decide⟩
theorem flX6_105 : FL RX6 105 6 38 2 true := ⟨RX6, TX6, 53, tyX6, rfl, inlX6, tyX6_ok, nmX6, by decide, rfl, sub_r6 _ (List.mem_of_getElem? (i := 12) rfl), rfl, vo_a _, rfl, (fun _ => rfl), by decide⟩
theorem flX6_108 : FL RX6 108 6 39 2 true := ⟨RX6, TX6, 53, tyX6, rfl, inlX6, tyX6_ok, nmX6, by decide, rfl, sub_r6 _ (List.mem_of_getElem? (i := 13) rfl), rfl, vo_a _, rfl, (fun _ => rfl), by decide⟩
theorem flX6_111 : FL RX6 111 6 40 2 true := ⟨RX6, TX6, 53, tyX6, rfl, inlX6, tyX6_ok, nmX6, by decide, rfl, sub_r6 _ (List.mem_of_getElem? (i := 14) rfl), rfl, vo_a _, rfl, (fun _ => rfl), by decide⟩
theorem flX6_114 : FL RX6 114 6 41 2 true := ⟨RX6, TX6, 53, tyX6, rfl, inlX6, tyX6_ok, nmX6, by decide, rfl, sub_r6 _ (List.mem_of_getElem? (i := 15) rfl), rfl, vo_a _, rfl, (fun _ => rfl), by decide⟩
theorem gm_136 : Cond.constant RX6 117 (56400) ∈ Gw := sub_r6 _ (List.mem_of_getElem? (i := 16) rfl)
theorem flX6_118 : FL RX6 118 6 42 2 true := ⟨RX6, TX6, 53, tyX6, rfl, inlX6, tyX6_ok, nmX6, by decide, rfl, sub_r6 _ (List.mem_of_getElem? (i := 17) rfl), rfl, vo_a _, rfl, (fun _ => rfl), by decide⟩
theorem flX6_121 : FL RX6 121 6 43 2 true := ⟨RX6, TX6, 53, tyX6, rfl, inlX6, tyX6_ok, nmX6, by decide, rfl, sub_r6 _ (List.mem_of_getElem? (i := 18) rfl), rfl, vo_a _, rfl, (fun _ => rfl), by decide⟩
theorem flX6_124 : FL RX6 124 6 44 2 true := ⟨RX6, TX6, 53, tyX6, rfl, inlX6, tyX6_ok, nmX6, by decide, rfl, sub_r6 _ (List.mem_of_getElem? (i := 19) rfl), rfl, vo_a _, rfl, (fun _ => rfl), by decide⟩
theorem flX6_127 : FL RX6 127 6 45 2 true := ⟨RX6, TX6, 53, tyX6, rfl, inlX6, tyX6_ok, nmX6, by decide, rfl, sub_r6 _ (List.mem_of_getElem? (i := 20) rfl), rfl, vo_a _, rfl, (fun _ => rfl), by decide⟩
theorem flX6_130 : FL RX6 130 6 46 2 true := ⟨RX6, TX6, 53, tyX6, rfl, inlX6, tyX6_ok, nmX6, by decide, rfl, sub_r6 _ (List.mem_of_getElem? (i := 21) rfl), rfl, vo_a _, rfl, (fun _ => rfl), by decide⟩
theorem flX6_133 : FL RX6 133 6 47 2 true := ⟨RX6, TX6, 53, tyX6, rfl, inlX6, tyX6_ok, nmX6, by decide, rfl, sub_r6 _ (List.mem_of_getElem? (i := 22) rfl), rfl, vo_a _, rfl, (fun _ => rfl), by decide⟩
theorem flX6_136 : FL RX6 136 6 49 2 true := ⟨RX6, TX6, 53, tyX6, rfl, inlX6, tyX6_ok, nmX6, by decide, rfl, sub_r6 _ (List.mem_of_getElem? (i := 23) rfl), rfl, vo_a _, rfl, (fun _ => rfl), by decide⟩
theorem flX6_139 : FL RX6 139 6 51 2 true := ⟨RX6, TX6, 53, tyX6, rfl, inlX6, tyX6_ok, nmX6, by decide, rfl, sub_r7 _ (List.mem_of_getElem? (i := 0) rfl), rfl, vo_a _, rfl, (fun _ => rfl), by decide⟩
theorem flX6_142 : FL RX6 142 6 52 2 true := ⟨RX6, TX6, 53, tyX6, rfl, inlX6, tyX6_ok, nmX6, by decide, rfl, sub_r7 _ (List.mem_of_getElem? (i := 1) rfl), rfl, vo_a _, rfl, (fun _ => rfl), by decide⟩
theorem flX6_145 : FL RX6 145 6 0 0 true := ⟨RX6, TX6, 53, tyX6, rfl, inlX6, tyX6_ok, nmX6, by decide, rfl, sub_r7 _ (List.mem_of_getElem? (i := 2) rfl), rfl, vo_i, rfl, (fun _ => rfl), by decide⟩
theorem flX6_149 : FL RX6 149 6 1 0 true := ⟨RX6, TX6, 53, tyX6, rfl, inlX6, tyX6_ok, nmX6, by decide, rfl, sub_r7 _ (List.mem_of_getElem? (i := 3) rfl), rfl, vo_i, rfl, (fun _ => rfl), by decide⟩
theorem mlX5_38 : ML RX5 38 yX5_clientAt cX5_clientAt 2 (some (.object "OnceCalls$Client")) 1 := ⟨sub_r7 _ (List.mem_of_getElem? (i := 13) rfl), sub_r7 _ (List.mem_of_getElem? (i := 16) rfl), sub_r1 _ (List.mem_of_getElem? (i := 2) rfl), by decide +kernel⟩
theorem gm_158 : Cond.instanceMethod yX5_clientAt ∈ Gw := sub_r7 _ (List.mem_of_getElem? (i := 14) rfl)
theorem gm_159 : Cond.selects RX5 yX5_clientAt yX5_clientAt ∈ Gw := sub_r7 _ (List.mem_of_getElem? (i := 15) rfl)
theorem flX5_42 : FL RX5 42 5 5 0 false := ⟨RX5, TX5, 9, tyX5, rfl, inlX5, tyX5_ok, nmX5, by decide, rfl, sub_r7 _ (List.mem_of_getElem? (i := 8) rfl), rfl, vo_i, rfl, (fun h => by cases h), by decide⟩
theorem flX5_45 : FL RX5 45 1 1 0 false := ⟨RX1, TX1, 11, tyX1, rfl, inlX1, tyX1_ok, nmX1, by decide, rfl, sub_r7 _ (List.mem_of_getElem? (i := 9) rfl), rfl, vo_i, rfl, (fun h => by cases h), by decide⟩
theorem flX5_48 : FL RX5 48 1 3 0 false := ⟨RX1, TX1, 11, tyX1, rfl, inlX1, tyX1_ok, nmX1, by decide, rfl, sub_r7 _ (List.mem_of_getElem? (i := 10) rfl), rfl, vo_i, rfl, (fun h => by cases h), by decide⟩
theorem flX5_51 : FL RX5 51 5 4 0 false := ⟨RX5, TX5, 9, tyX5, rfl, inlX5, tyX5_ok, nmX5, by decide, rfl, sub_r7 _ (List.mem_of_getElem? (i := 11) rfl), rfl, vo_i, rfl, (fun h => by cases h), by decide⟩
theorem flX5_54 : FL RX5 54 1 2 0 false := ⟨RX1, TX1, 11, tyX1, rfl, inlX1, tyX1_ok, nmX1, by decide, rfl, sub_r7 _ (List.mem_of_getElem? (i := 12) rfl), rfl, vo_i, rfl, (fun h => by cases h), by decide⟩
theorem mlX6_152 : ML RX6 152 yX6_in cX6_in 3 (some .boolean) 3 := ⟨sub_r8 _ (List.mem_of_getElem? (i := 2) rfl), sub_r8 _ (List.mem_of_getElem? (i := 4) rfl), sub_r1 _ (List.mem_of_getElem? (i := 5) rfl), by decide +kernel⟩
theorem gm_171 : Cond.static yX6_in ∈ Gw := sub_r8 _ (List.mem_of_getElem? (i := 3) rfl)
theorem mlX6_172 : ML RX6 172 yX6_isClient cX6_isClient 1 (some .boolean) 1 := ⟨sub_r7 _ (List.mem_of_getElem? (i := 23) rfl), sub_r8 _ (List.mem_of_getElem? (i := 1) rfl), sub_r1 _ (List.mem_of_getElem? (i := 5) rfl), by decide +kernel⟩
theorem gm_168 : Cond.static yX6_isClient ∈ Gw := sub_r8 _ (List.mem_of_getElem? (i := 0) rfl)
theorem flX6_176 : FL RX6 176 6 6 0 false := ⟨RX6, TX6, 53, tyX6, rfl, inlX6, tyX6_ok, nmX6, by decide, rfl, sub_r7 _ (List.mem_of_getElem? (i := 21) rfl), rfl, vo_i, rfl, (fun h => by cases h), by decide⟩
theorem flX6_156 : FL RX6 156 6 2 0 false := ⟨RX6, TX6, 53, tyX6, rfl, inlX6, tyX6_ok, nmX6, by decide, rfl, sub_r7 _ (List.mem_of_getElem? (i := 22) rfl), rfl, vo_i, rfl, (fun h => by cases h), by decide⟩
theorem mlX5_57 : ML RX5 57 yX5_isLive cX5_isLive 4 (some .boolean) 2 := ⟨sub_r8 _ (List.mem_of_getElem? (i := 9) rfl), sub_r8 _ (List.mem_of_getElem? (i := 12) rfl), sub_r1 _ (List.mem_of_getElem? (i := 2) rfl), by decide +kernel⟩
theorem gm_178 : Cond.instanceMethod yX5_isLive ∈ Gw := sub_r8 _ (List.mem_of_getElem? (i := 10) rfl)
theorem gm_179 : Cond.selects RX5 yX5_isLive yX5_isLive ∈ Gw := sub_r8 _ (List.mem_of_getElem? (i := 11) rfl)
theorem mlX6_179 : ML RX6 179 yX6_isLive cX6_isLive 4 (some .boolean) 1 := ⟨sub_r8 _ (List.mem_of_getElem? (i := 17) rfl), sub_r8 _ (List.mem_of_getElem? (i := 20) rfl), sub_r1 _ (List.mem_of_getElem? (i := 5) rfl), by decide +kernel⟩
theorem gm_186 : Cond.instanceMethod yX6_isLive ∈ Gw := sub_r8 _ (List.mem_of_getElem? (i := 18) rfl)
theorem gm_187 : Cond.selects RX6 yX6_isLive yX6_isLive ∈ Gw := sub_r8 _ (List.mem_of_getElem? (i := 19) rfl)
theorem flX1_44 : FL RX1 44 1 3 0 false := ⟨RX1, TX1, 11, tyX1, rfl, inlX1, tyX1_ok, nmX1, by decide, rfl, sub_r9 _ (List.mem_of_getElem? (i := 5) rfl), rfl, vo_i, rfl, (fun h => by cases h), by decide⟩
theorem gm_227 : Cond.methodLink RX2 3 objectInit ∈ Gw := sub_r10 _ (List.mem_of_getElem? (i := 11) rfl)
theorem flX2_9 : FL RX2 9 2 0 0 true := ⟨RX2, TX2, 15, tyX2, rfl, inlX2, tyX2_ok, nmX2, by decide, rfl, sub_r10 _ (List.mem_of_getElem? (i := 12) rfl), rfl, vo_i, rfl, (fun _ => rfl), by decide⟩
theorem flX2_15 : FL RX2 15 2 1 0 true := ⟨RX2, TX2, 15, tyX2, rfl, inlX2, tyX2_ok, nmX2, by decide, rfl, sub_r10 _ (List.mem_of_getElem? (i := 13) rfl), rfl, vo_i, rfl, (fun _ => rfl), by decide⟩
theorem flX2_18 : FL RX2 18 2 2 0 true := ⟨RX2, TX2, 15, tyX2, rfl, inlX2, tyX2_ok, nmX2, by decide, rfl, sub_r10 _ (List.mem_of_getElem? (i := 14) rfl), rfl, vo_i, rfl, (fun _ => rfl), by decide⟩
theorem flX5_250 : FG RX5 250 1 5 2 := ⟨RX1, TX1, 11, rfl, inlX1, by decide, rfl, sub_r9 _ (List.mem_of_getElem? (i := 13) rfl), rfl, by decide⟩
theorem clX5_89 : CL RX5 89 2 15 := ⟨RX2, TX2, tyX2, rfl, inlX2, tyX2_ok, sub_r9 _ (List.mem_of_getElem? (i := 14) rfl), sub_r9 _ (List.mem_of_getElem? (i := 15) rfl), sub_r9 _ (List.mem_of_getElem? (i := 16) rfl), by decide +kernel, by decide⟩
theorem flX5_225 : FG RX5 225 1 4 2 := ⟨RX1, TX1, 11, rfl, inlX1, by decide, rfl, sub_r9 _ (List.mem_of_getElem? (i := 17) rfl), rfl, by decide⟩
theorem mlX5_205 : ML RX5 205 yX5_bucketOf cX5_bucketOf 1 (some .int) 1 := ⟨sub_r10 _ (List.mem_of_getElem? (i := 5) rfl), sub_r10 _ (List.mem_of_getElem? (i := 7) rfl), sub_r1 _ (List.mem_of_getElem? (i := 2) rfl), by decide +kernel⟩
theorem gm_222 : Cond.static yX5_bucketOf ∈ Gw := sub_r10 _ (List.mem_of_getElem? (i := 6) rfl)
theorem flX5_312 : FG RX5 312 1 0 0 := ⟨RX1, TX1, 11, rfl, inlX1, by decide, rfl, sub_r9 _ (List.mem_of_getElem? (i := 18) rfl), rfl, by decide⟩
theorem mlX5_91 : ML RX5 91 yX2_init cX2_init 4 none 3 := ⟨sub_r10 _ (List.mem_of_getElem? (i := 8) rfl), sub_r10 _ (List.mem_of_getElem? (i := 10) rfl), sub_r9 _ (List.mem_of_getElem? (i := 16) rfl), by decide +kernel⟩
theorem gm_225 : Cond.instanceMethod yX2_init ∈ Gw := sub_r10 _ (List.mem_of_getElem? (i := 9) rfl)
theorem flX5_94 : FL RX5 94 2 3 0 false := ⟨RX2, TX2, 15, tyX2, rfl, inlX2, tyX2_ok, nmX2, by decide, rfl, sub_r9 _ (List.mem_of_getElem? (i := 19) rfl), rfl, vo_i, rfl, (fun h => by cases h), by decide⟩
theorem flX5_240 : FL RX5 240 2 5 0 false := ⟨RX2, TX2, 15, tyX2, rfl, inlX2, tyX2_ok, nmX2, by decide, rfl, sub_r9 _ (List.mem_of_getElem? (i := 20) rfl), rfl, vo_i, rfl, (fun h => by cases h), by decide⟩
theorem mlX5_95 : ML RX5 95 yX1_first cX1_first 2 (some .int) 0 := ⟨sub_r10 _ (List.mem_of_getElem? (i := 15) rfl), sub_r10 _ (List.mem_of_getElem? (i := 18) rfl), sub_r2 _ (List.mem_of_getElem? (i := 1) rfl), by decide +kernel⟩
theorem gm_232 : Cond.instanceMethod yX1_first ∈ Gw := sub_r10 _ (List.mem_of_getElem? (i := 16) rfl)
theorem gm_233 : Cond.selects RX1 yX1_first yX1_first ∈ Gw := sub_r10 _ (List.mem_of_getElem? (i := 17) rfl)
theorem flX5_98 : FL RX5 98 2 6 0 false := ⟨RX2, TX2, 15, tyX2, rfl, inlX2, tyX2_ok, nmX2, by decide, rfl, sub_r9 _ (List.mem_of_getElem? (i := 21) rfl), rfl, vo_i, rfl, (fun h => by cases h), by decide⟩
theorem flX5_268 : FL RX5 268 2 9 0 false := ⟨RX2, TX2, 15, tyX2, rfl, inlX2, tyX2_ok, nmX2, by decide, rfl, sub_r9 _ (List.mem_of_getElem? (i := 22) rfl), rfl, vo_i, rfl, (fun h => by cases h), by decide⟩
theorem flX5_313 : FG RX5 313 1 6 2 := ⟨RX1, TX1, 11, rfl, inlX1, by decide, rfl, sub_r9 _ (List.mem_of_getElem? (i := 23) rfl), rfl, by decide⟩
theorem flX5_316 : FL RX5 316 2 10 0 false := ⟨RX2, TX2, 15, tyX2, rfl, inlX2, tyX2_ok, nmX2, by decide, rfl, sub_r10 _ (List.mem_of_getElem? (i := 0) rfl), rfl, vo_i, rfl, (fun h => by cases h), by decide⟩
theorem flX5_319 : FG RX5 319 1 7 2 := ⟨RX1, TX1, 11, rfl, inlX1, by decide, rfl, sub_r10 _ (List.mem_of_getElem? (i := 1) rfl), rfl, by decide⟩
theorem flX5_322 : FL RX5 322 2 11 1 false := ⟨RX2, TX2, 15, tyX2, rfl, inlX2, tyX2_ok, nmX2, by decide, rfl, sub_r10 _ (List.mem_of_getElem? (i := 2) rfl), rfl, vo_l, rfl, (fun h => by cases h), by decide⟩
theorem flX5_325 : FG RX5 325 1 8 2 := ⟨RX1, TX1, 11, rfl, inlX1, by decide, rfl, sub_r10 _ (List.mem_of_getElem? (i := 3) rfl), rfl, by decide⟩
theorem flX5_328 : FL RX5 328 2 12 1 false := ⟨RX2, TX2, 15, tyX2, rfl, inlX2, tyX2_ok, nmX2, by decide, rfl, sub_r10 _ (List.mem_of_getElem? (i := 4) rfl), rfl, vo_l, rfl, (fun h => by cases h), by decide⟩
theorem flX3_21 : FL RX3 21 3 1 0 false := ⟨RX3, TX3, 2, tyX3, rfl, inlX3, tyX3_ok, nmX3, by decide, rfl, sub_r11 _ (List.mem_of_getElem? (i := 4) rfl), rfl, vo_i, rfl, (fun h => by cases h), by decide⟩
theorem mlX5_127 : ML RX5 127 yX3_append cX3_append 2 (some .boolean) 1 := ⟨sub_r11 _ (List.mem_of_getElem? (i := 0) rfl), sub_r11 _ (List.mem_of_getElem? (i := 3) rfl), sub_r2 _ (List.mem_of_getElem? (i := 4) rfl), by decide +kernel⟩
theorem gm_241 : Cond.instanceMethod yX3_append ∈ Gw := sub_r11 _ (List.mem_of_getElem? (i := 1) rfl)
theorem gm_242 : Cond.selects RX3 yX3_append yX3_append ∈ Gw := sub_r11 _ (List.mem_of_getElem? (i := 2) rfl)
theorem flX5_120 : FL RX5 120 5 6 0 false := ⟨RX5, TX5, 9, tyX5, rfl, inlX5, tyX5_ok, nmX5, by decide, rfl, sub_r10 _ (List.mem_of_getElem? (i := 23) rfl), rfl, vo_i, rfl, (fun h => by cases h), by decide⟩
theorem mlX5_61 : ML RX5 61 yX1_waiting cX1_waiting 3 (some .int) 0 := ⟨sub_r9 _ (List.mem_of_getElem? (i := 1) rfl), sub_r9 _ (List.mem_of_getElem? (i := 4) rfl), sub_r2 _ (List.mem_of_getElem? (i := 1) rfl), by decide +kernel⟩
theorem gm_194 : Cond.instanceMethod yX1_waiting ∈ Gw := sub_r9 _ (List.mem_of_getElem? (i := 2) rfl)
theorem gm_195 : Cond.selects RX1 yX1_waiting yX1_waiting ∈ Gw := sub_r9 _ (List.mem_of_getElem? (i := 3) rfl)
theorem mlX5_65 : ML RX5 65 yX1_newCall cX1_newCall 7 (some .int) 4 := ⟨sub_r9 _ (List.mem_of_getElem? (i := 6) rfl), sub_r9 _ (List.mem_of_getElem? (i := 9) rfl), sub_r2 _ (List.mem_of_getElem? (i := 1) rfl), by decide +kernel⟩
theorem gm_199 : Cond.instanceMethod yX1_newCall ∈ Gw := sub_r9 _ (List.mem_of_getElem? (i := 7) rfl)
theorem gm_200 : Cond.selects RX1 yX1_newCall yX1_newCall ∈ Gw := sub_r9 _ (List.mem_of_getElem? (i := 8) rfl)
theorem mlX5_69 : ML RX5 69 yX5_requestOf cX5_requestOf 4 (some (.object "OnceCalls$Letter")) 2 := ⟨sub_r9 _ (List.mem_of_getElem? (i := 10) rfl), sub_r9 _ (List.mem_of_getElem? (i := 12) rfl), sub_r1 _ (List.mem_of_getElem? (i := 2) rfl), by decide +kernel⟩
theorem gm_203 : Cond.static yX5_requestOf ∈ Gw := sub_r9 _ (List.mem_of_getElem? (i := 11) rfl)
theorem mlX5_73 : ML RX5 73 yX5_send cX5_send 2 none 1 := ⟨sub_r10 _ (List.mem_of_getElem? (i := 19) rfl), sub_r10 _ (List.mem_of_getElem? (i := 22) rfl), sub_r1 _ (List.mem_of_getElem? (i := 2) rfl), by decide +kernel⟩
theorem gm_236 : Cond.instanceMethod yX5_send ∈ Gw := sub_r10 _ (List.mem_of_getElem? (i := 20) rfl)
theorem gm_237 : Cond.selects RX5 yX5_send yX5_send ∈ Gw := sub_r10 _ (List.mem_of_getElem? (i := 21) rfl)
theorem flX6_159 : FL RX6 159 6 48 0 false := ⟨RX6, TX6, 53, tyX6, rfl, inlX6, tyX6_ok, nmX6, by decide, rfl, sub_r11 _ (List.mem_of_getElem? (i := 21) rfl), rfl, vo_i, rfl, (fun h => by cases h), by decide⟩
theorem flX6_162 : FL RX6 162 6 50 0 false := ⟨RX6, TX6, 53, tyX6, rfl, inlX6, tyX6_ok, nmX6, by decide, rfl, sub_r12 _ (List.mem_of_getElem? (i := 6) rfl), rfl, vo_i, rfl, (fun h => by cases h), by decide⟩
theorem flX6_165 : FL RX6 165 6 3 0 false := ⟨RX6, TX6, 53, tyX6, rfl, inlX6, tyX6_ok, nmX6, by decide, rfl, sub_r12 _ (List.mem_of_getElem? (i := 7) rfl), rfl, vo_i, rfl, (fun h => by cases h), by decide⟩
theorem mlX6_182 : ML RX6 182 yX6_letter cX6_letter 5 (some .int) 3 := ⟨sub_r11 _ (List.mem_of_getElem? (i := 17) rfl), sub_r11 _ (List.mem_of_getElem? (i := 20) rfl), sub_r1 _ (List.mem_of_getElem? (i := 5) rfl), by decide +kernel⟩
theorem gm_258 : Cond.instanceMethod yX6_letter ∈ Gw := sub_r11 _ (List.mem_of_getElem? (i := 18) rfl)
theorem gm_259 : Cond.selects RX6 yX6_letter yX6_letter ∈ Gw := sub_r11 _ (List.mem_of_getElem? (i := 19) rfl)
theorem mlX6_186 : ML RX6 186 yX6_first cX6_first 3 (some .int) 1 := ⟨sub_r11 _ (List.mem_of_getElem? (i := 22) rfl), sub_r12 _ (List.mem_of_getElem? (i := 1) rfl), sub_r1 _ (List.mem_of_getElem? (i := 5) rfl), by decide +kernel⟩
theorem gm_263 : Cond.instanceMethod yX6_first ∈ Gw := sub_r11 _ (List.mem_of_getElem? (i := 23) rfl)
theorem gm_264 : Cond.selects RX6 yX6_first yX6_first ∈ Gw := sub_r12 _ (List.mem_of_getElem? (i := 0) rfl)
theorem mlX6_168 : ML RX6 168 yX6_go cX6_go 2 none 1 := ⟨sub_r12 _ (List.mem_of_getElem? (i := 2) rfl), sub_r12 _ (List.mem_of_getElem? (i := 5) rfl), sub_r1 _ (List.mem_of_getElem? (i := 5) rfl), by decide +kernel⟩
theorem gm_267 : Cond.instanceMethod yX6_go ∈ Gw := sub_r12 _ (List.mem_of_getElem? (i := 3) rfl)
theorem gm_268 : Cond.selects RX6 yX6_go yX6_go ∈ Gw := sub_r12 _ (List.mem_of_getElem? (i := 4) rfl)
theorem mlX6_190 : ML RX6 190 yX6_waiting cX6_waiting 4 (some .int) 1 := ⟨sub_r11 _ (List.mem_of_getElem? (i := 9) rfl), sub_r11 _ (List.mem_of_getElem? (i := 12) rfl), sub_r1 _ (List.mem_of_getElem? (i := 5) rfl), by decide +kernel⟩
theorem gm_250 : Cond.instanceMethod yX6_waiting ∈ Gw := sub_r11 _ (List.mem_of_getElem? (i := 10) rfl)
theorem gm_251 : Cond.selects RX6 yX6_waiting yX6_waiting ∈ Gw := sub_r11 _ (List.mem_of_getElem? (i := 11) rfl)
theorem mlX6_193 : ML RX6 193 yX6_request cX6_request 5 none 2 := ⟨sub_r11 _ (List.mem_of_getElem? (i := 13) rfl), sub_r11 _ (List.mem_of_getElem? (i := 16) rfl), sub_r1 _ (List.mem_of_getElem? (i := 5) rfl), by decide +kernel⟩
theorem gm_254 : Cond.instanceMethod yX6_request ∈ Gw := sub_r11 _ (List.mem_of_getElem? (i := 14) rfl)
theorem gm_255 : Cond.selects RX6 yX6_request yX6_request ∈ Gw := sub_r11 _ (List.mem_of_getElem? (i := 15) rfl)
theorem mlX5_77 : ML RX5 77 yX1_hasCall cX1_hasCall 2 (some .boolean) 1 := ⟨sub_r12 _ (List.mem_of_getElem? (i := 13) rfl), sub_r12 _ (List.mem_of_getElem? (i := 16) rfl), sub_r2 _ (List.mem_of_getElem? (i := 1) rfl), by decide +kernel⟩
theorem gm_278 : Cond.instanceMethod yX1_hasCall ∈ Gw := sub_r12 _ (List.mem_of_getElem? (i := 14) rfl)
theorem gm_279 : Cond.selects RX1 yX1_hasCall yX1_hasCall ∈ Gw := sub_r12 _ (List.mem_of_getElem? (i := 15) rfl)
theorem flX5_81 : FG RX5 81 1 9 2 := ⟨RX1, TX1, 11, rfl, inlX1, by decide, rfl, sub_r12 _ (List.mem_of_getElem? (i := 12) rfl), rfl, by decide⟩
theorem mlX6_197 : ML RX6 197 yX6_isCall cX6_isCall 3 (some .boolean) 2 := ⟨sub_r12 _ (List.mem_of_getElem? (i := 21) rfl), sub_r13 _ (List.mem_of_getElem? (i := 0) rfl), sub_r1 _ (List.mem_of_getElem? (i := 5) rfl), by decide +kernel⟩
theorem gm_286 : Cond.instanceMethod yX6_isCall ∈ Gw := sub_r12 _ (List.mem_of_getElem? (i := 22) rfl)
theorem gm_287 : Cond.selects RX6 yX6_isCall yX6_isCall ∈ Gw := sub_r12 _ (List.mem_of_getElem? (i := 23) rfl)
theorem mlX5_85 : ML RX5 85 yX5_serverAt cX5_serverAt 2 (some (.object "OnceCalls$Server")) 1 := ⟨sub_r13 _ (List.mem_of_getElem? (i := 5) rfl), sub_r13 _ (List.mem_of_getElem? (i := 8) rfl), sub_r1 _ (List.mem_of_getElem? (i := 2) rfl), by decide +kernel⟩
theorem gm_294 : Cond.instanceMethod yX5_serverAt ∈ Gw := sub_r13 _ (List.mem_of_getElem? (i := 6) rfl)
theorem gm_295 : Cond.selects RX5 yX5_serverAt yX5_serverAt ∈ Gw := sub_r13 _ (List.mem_of_getElem? (i := 7) rfl)
theorem mlX6_201 : ML RX6 201 yX6_isServer cX6_isServer 2 (some .boolean) 1 := ⟨sub_r13 _ (List.mem_of_getElem? (i := 13) rfl), sub_r13 _ (List.mem_of_getElem? (i := 16) rfl), sub_r1 _ (List.mem_of_getElem? (i := 5) rfl), by decide +kernel⟩
theorem gm_302 : Cond.instanceMethod yX6_isServer ∈ Gw := sub_r13 _ (List.mem_of_getElem? (i := 14) rfl)
theorem gm_303 : Cond.selects RX6 yX6_isServer yX6_isServer ∈ Gw := sub_r13 _ (List.mem_of_getElem? (i := 15) rfl)
theorem flX5_113 : FG RX5 113 2 1 0 := ⟨RX2, TX2, 15, rfl, inlX2, by decide, rfl, sub_r13 _ (List.mem_of_getElem? (i := 22) rfl), rfl, by decide⟩
theorem flX5_243 : FL RX5 243 2 8 0 false := ⟨RX2, TX2, 15, tyX2, rfl, inlX2, tyX2_ok, nmX2, by decide, rfl, sub_r14 _ (List.mem_of_getElem? (i := 12) rfl), rfl, vo_i, rfl, (fun h => by cases h), by decide⟩
theorem mlX5_253 : ML RX5 253 yX1_refuseWaiting cX1_refuseWaiting 2 none 0 := ⟨sub_r14 _ (List.mem_of_getElem? (i := 16) rfl), sub_r14 _ (List.mem_of_getElem? (i := 19) rfl), sub_r2 _ (List.mem_of_getElem? (i := 1) rfl), by decide +kernel⟩
theorem gm_329 : Cond.instanceMethod yX1_refuseWaiting ∈ Gw := sub_r14 _ (List.mem_of_getElem? (i := 17) rfl)
theorem gm_330 : Cond.selects RX1 yX1_refuseWaiting yX1_refuseWaiting ∈ Gw := sub_r14 _ (List.mem_of_getElem? (i := 18) rfl)
theorem flX5_246 : FL RX5 246 2 13 1 false := ⟨RX2, TX2, 15, tyX2, rfl, inlX2, tyX2_ok, nmX2, by decide, rfl, sub_r14 _ (List.mem_of_getElem? (i := 14) rfl), rfl, vo_l, rfl, (fun h => by cases h), by decide⟩
theorem flX5_228 : FG RX5 228 1 10 2 := ⟨RX1, TX1, 11, rfl, inlX1, by decide, rfl, sub_r14 _ (List.mem_of_getElem? (i := 13) rfl), rfl, by decide⟩
theorem flX5_237 : FL RX5 237 5 8 0 false := ⟨RX5, TX5, 9, tyX5, rfl, inlX5, tyX5_ok, nmX5, by decide, rfl, sub_r14 _ (List.mem_of_getElem? (i := 15) rfl), rfl, vo_i, rfl, (fun h => by cases h), by decide⟩
theorem flX5_161 : FL RX5 161 4 5 3 false := ⟨RX4, TX4, 6, tyX4, rfl, inlX4, tyX4_ok, nmX4, by decide, rfl, sub_r15 _ (List.mem_of_getElem? (i := 20) rfl), rfl, vo_z, rfl, (fun h => by cases h), by decide⟩
theorem flX5_134 : FG RX5 134 4 1 2 := ⟨RX4, TX4, 6, rfl, inlX4, by decide, rfl, sub_r15 _ (List.mem_of_getElem? (i := 21) rfl), rfl, by decide⟩
theorem flX5_271 : FG RX5 271 2 2 0 := ⟨RX2, TX2, 15, rfl, inlX2, by decide, rfl, sub_r15 _ (List.mem_of_getElem? (i := 4) rfl), rfl, by decide⟩
theorem flX5_303 : FG RX5 303 4 0 0 := ⟨RX4, TX4, 6, rfl, inlX4, by decide, rfl, sub_r15 _ (List.mem_of_getElem? (i := 15) rfl), rfl, by decide⟩
theorem mlX5_180 : ML RX5 180 yX5_sendFrom cX5_sendFrom 4 none 2 := ⟨sub_r15 _ (List.mem_of_getElem? (i := 16) rfl), sub_r15 _ (List.mem_of_getElem? (i := 19) rfl), sub_r1 _ (List.mem_of_getElem? (i := 2) rfl), by decide +kernel⟩
theorem gm_353 : Cond.instanceMethod yX5_sendFrom ∈ Gw := sub_r15 _ (List.mem_of_getElem? (i := 17) rfl)
theorem gm_354 : Cond.selects RX5 yX5_sendFrom yX5_sendFrom ∈ Gw := sub_r15 _ (List.mem_of_getElem? (i := 18) rfl)
theorem mlX0_80 : ML RX0 80 yX0_removeRecord cX0_removeRecord 3 none 1 := ⟨sub_r16 _ (List.mem_of_getElem? (i := 17) rfl), sub_r16 _ (List.mem_of_getElem? (i := 20) rfl), sub_r2 _ (List.mem_of_getElem? (i := 23) rfl), by decide +kernel⟩
theorem gm_378 : Cond.instanceMethod yX0_removeRecord ∈ Gw := sub_r16 _ (List.mem_of_getElem? (i := 18) rfl)
theorem gm_379 : Cond.selects RX0 yX0_removeRecord yX0_removeRecord ∈ Gw := sub_r16 _ (List.mem_of_getElem? (i := 19) rfl)
theorem flX0_62 : FG RX0 62 2 2 0 := ⟨RX2, TX2, 15, rfl, inlX2, by decide, rfl, sub_r16 _ (List.mem_of_getElem? (i := 9) rfl), rfl, by decide⟩
theorem flX0_67 : FL RX0 67 2 3 0 false := ⟨RX2, TX2, 15, tyX2, rfl, inlX2, tyX2_ok, nmX2, by decide, rfl, sub_r16 _ (List.mem_of_getElem? (i := 10) rfl), rfl, vo_i, rfl, (fun h => by cases h), by decide⟩
theorem flX0_77 : FL RX0 77 2 6 0 false := ⟨RX2, TX2, 15, tyX2, rfl, inlX2, tyX2_ok, nmX2, by decide, rfl, sub_r16 _ (List.mem_of_getElem? (i := 12) rfl), rfl, vo_i, rfl, (fun h => by cases h), by decide⟩
theorem mlX0_73 : ML RX0 73 yX0_removeRecordsBelow cX0_removeRecordsBelow 4 none 2 := ⟨sub_r16 _ (List.mem_of_getElem? (i := 13) rfl), sub_r16 _ (List.mem_of_getElem? (i := 16) rfl), sub_r2 _ (List.mem_of_getElem? (i := 23) rfl), by decide +kernel⟩
theorem gm_374 : Cond.instanceMethod yX0_removeRecordsBelow ∈ Gw := sub_r16 _ (List.mem_of_getElem? (i := 14) rfl)
theorem gm_375 : Cond.selects RX0 yX0_removeRecordsBelow yX0_removeRecordsBelow ∈ Gw := sub_r16 _ (List.mem_of_getElem? (i := 15) rfl)
theorem gm_371 : Cond.constant RX0 72 (2147483647) ∈ Gw := sub_r16 _ (List.mem_of_getElem? (i := 11) rfl)
theorem flX0_84 : FL RX0 84 2 5 0 false := ⟨RX2, TX2, 15, tyX2, rfl, inlX2, tyX2_ok, nmX2, by decide, rfl, sub_r17 _ (List.mem_of_getElem? (i := 1) rfl), rfl, vo_i, rfl, (fun h => by cases h), by decide⟩
theorem flX0_87 : FL RX0 87 2 9 0 false := ⟨RX2, TX2, 15, tyX2, rfl, inlX2, tyX2_ok, nmX2, by decide, rfl, sub_r17 _ (List.mem_of_getElem? (i := 10) rfl), rfl, vo_i, rfl, (fun h => by cases h), by decide⟩
theorem mn_X5_placeOf : MN yX5_placeOf cX5_placeOf 1 (some .int) 1 := ⟨sub_r17 _ (List.mem_of_getElem? (i := 15) rfl), sub_r1 _ (List.mem_of_getElem? (i := 2) rfl), by decide +kernel⟩
theorem gm_398 : Cond.static yX5_placeOf ∈ Gw := sub_r17 _ (List.mem_of_getElem? (i := 14) rfl)
theorem flX0_94 : FL RX0 94 2 10 0 false := ⟨RX2, TX2, 15, tyX2, rfl, inlX2, tyX2_ok, nmX2, by decide, rfl, sub_r17 _ (List.mem_of_getElem? (i := 11) rfl), rfl, vo_i, rfl, (fun h => by cases h), by decide⟩
theorem flX0_97 : FL RX0 97 2 11 1 false := ⟨RX2, TX2, 15, tyX2, rfl, inlX2, tyX2_ok, nmX2, by decide, rfl, sub_r17 _ (List.mem_of_getElem? (i := 12) rfl), rfl, vo_l, rfl, (fun h => by cases h), by decide⟩
theorem flX0_101 : FL RX0 101 2 12 1 false := ⟨RX2, TX2, 15, tyX2, rfl, inlX2, tyX2_ok, nmX2, by decide, rfl, sub_r17 _ (List.mem_of_getElem? (i := 13) rfl), rfl, vo_l, rfl, (fun h => by cases h), by decide⟩
theorem mlX5_282 : ML RX5 282 yX0_know cX0_know 3 (some .boolean) 1 := ⟨sub_r16 _ (List.mem_of_getElem? (i := 5) rfl), sub_r16 _ (List.mem_of_getElem? (i := 8) rfl), sub_r2 _ (List.mem_of_getElem? (i := 23) rfl), by decide +kernel⟩
theorem gm_366 : Cond.instanceMethod yX0_know ∈ Gw := sub_r16 _ (List.mem_of_getElem? (i := 6) rfl)
theorem gm_367 : Cond.selects RX0 yX0_know yX0_know ∈ Gw := sub_r16 _ (List.mem_of_getElem? (i := 7) rfl)
theorem mlX5_285 : ML RX5 285 yX0_find cX0_find 3 (some .int) 1 := ⟨sub_r16 _ (List.mem_of_getElem? (i := 21) rfl), sub_r17 _ (List.mem_of_getElem? (i := 0) rfl), sub_r2 _ (List.mem_of_getElem? (i := 23) rfl), by decide +kernel⟩
theorem gm_382 : Cond.instanceMethod yX0_find ∈ Gw := sub_r16 _ (List.mem_of_getElem? (i := 22) rfl)
theorem gm_383 : Cond.selects RX0 yX0_find yX0_find ∈ Gw := sub_r16 _ (List.mem_of_getElem? (i := 23) rfl)
theorem mlX5_289 : ML RX5 289 yX0_firstOf cX0_firstOf 2 (some .int) 1 := ⟨sub_r17 _ (List.mem_of_getElem? (i := 2) rfl), sub_r17 _ (List.mem_of_getElem? (i := 5) rfl), sub_r2 _ (List.mem_of_getElem? (i := 23) rfl), by decide +kernel⟩
theorem gm_387 : Cond.instanceMethod yX0_firstOf ∈ Gw := sub_r17 _ (List.mem_of_getElem? (i := 3) rfl)
theorem gm_388 : Cond.selects RX0 yX0_firstOf yX0_firstOf ∈ Gw := sub_r17 _ (List.mem_of_getElem? (i := 4) rfl)
theorem flX5_202 : FL RX5 202 0 3 0 false := ⟨RX0, TX0, 11, tyX0, rfl, inlX0, tyX0_ok, nmX0, by decide, rfl, sub_r16 _ (List.mem_of_getElem? (i := 3) rfl), rfl, vo_i, rfl, (fun h => by cases h), by decide⟩
theorem mlX5_295 : ML RX5 295 yX0_doAct cX0_doAct 5 (some .long) 1 := ⟨sub_r17 _ (List.mem_of_getElem? (i := 6) rfl), sub_r17 _ (List.mem_of_getElem? (i := 9) rfl), sub_r2 _ (List.mem_of_getElem? (i := 23) rfl), by decide +kernel⟩
theorem gm_391 : Cond.instanceMethod yX0_doAct ∈ Gw := sub_r17 _ (List.mem_of_getElem? (i := 7) rfl)
theorem gm_392 : Cond.selects RX0 yX0_doAct yX0_doAct ∈ Gw := sub_r17 _ (List.mem_of_getElem? (i := 8) rfl)
theorem mlX5_299 : ML RX5 299 yX0_addRecord cX0_addRecord 4 none 2 := ⟨sub_r17 _ (List.mem_of_getElem? (i := 16) rfl), sub_r17 _ (List.mem_of_getElem? (i := 19) rfl), sub_r2 _ (List.mem_of_getElem? (i := 23) rfl), by decide +kernel⟩
theorem gm_401 : Cond.instanceMethod yX0_addRecord ∈ Gw := sub_r17 _ (List.mem_of_getElem? (i := 17) rfl)
theorem gm_402 : Cond.selects RX0 yX0_addRecord yX0_addRecord ∈ Gw := sub_r17 _ (List.mem_of_getElem? (i := 18) rfl)
theorem flX5_234 : FL RX5 234 5 7 0 false := ⟨RX5, TX5, 9, tyX5, rfl, inlX5, tyX5_ok, nmX5, by decide, rfl, sub_r16 _ (List.mem_of_getElem? (i := 4) rfl), rfl, vo_i, rfl, (fun h => by cases h), by decide⟩
theorem mlX5_274 : ML RX5 274 yX5_answer cX5_answer 7 none 4 := ⟨sub_r15 _ (List.mem_of_getElem? (i := 11) rfl), sub_r15 _ (List.mem_of_getElem? (i := 14) rfl), sub_r1 _ (List.mem_of_getElem? (i := 2) rfl), by decide +kernel⟩
theorem gm_348 : Cond.instanceMethod yX5_answer ∈ Gw := sub_r15 _ (List.mem_of_getElem? (i := 12) rfl)
theorem gm_349 : Cond.selects RX5 yX5_answer yX5_answer ∈ Gw := sub_r15 _ (List.mem_of_getElem? (i := 13) rfl)
theorem flX5_292 : FG RX5 292 0 8 2 := ⟨RX0, TX0, 11, rfl, inlX0, by decide, rfl, sub_r16 _ (List.mem_of_getElem? (i := 2) rfl), rfl, by decide⟩
theorem mlX5_146 : ML RX5 146 yX4_bucketAt cX4_bucketAt 2 (some (.object "OnceCalls$Bucket")) 1 := ⟨sub_r15 _ (List.mem_of_getElem? (i := 7) rfl), sub_r15 _ (List.mem_of_getElem? (i := 10) rfl), sub_r1 _ (List.mem_of_getElem? (i := 21) rfl), by decide +kernel⟩
theorem gm_344 : Cond.instanceMethod yX4_bucketAt ∈ Gw := sub_r15 _ (List.mem_of_getElem? (i := 8) rfl)
theorem gm_345 : Cond.selects RX4 yX4_bucketAt yX4_bucketAt ∈ Gw := sub_r15 _ (List.mem_of_getElem? (i := 9) rfl)
theorem flX5_155 : FL RX5 155 0 0 0 false := ⟨RX0, TX0, 11, tyX0, rfl, inlX0, tyX0_ok, nmX0, by decide, rfl, sub_r15 _ (List.mem_of_getElem? (i := 5) rfl), rfl, vo_i, rfl, (fun h => by cases h), by decide⟩
theorem mlX5_278 : ML RX5 278 yX5_takeOwnRequest cX5_takeOwnRequest 7 none 3 := ⟨sub_r15 _ (List.mem_of_getElem? (i := 22) rfl), sub_r16 _ (List.mem_of_getElem? (i := 1) rfl), sub_r1 _ (List.mem_of_getElem? (i := 2) rfl), by decide +kernel⟩
theorem gm_359 : Cond.instanceMethod yX5_takeOwnRequest ∈ Gw := sub_r15 _ (List.mem_of_getElem? (i := 23) rfl)
theorem gm_360 : Cond.selects RX5 yX5_takeOwnRequest yX5_takeOwnRequest ∈ Gw := sub_r16 _ (List.mem_of_getElem? (i := 0) rfl)
theorem flX5_158 : FL RX5 158 0 2 0 false := ⟨RX0, TX0, 11, tyX0, rfl, inlX0, tyX0_ok, nmX0, by decide, rfl, sub_r15 _ (List.mem_of_getElem? (i := 6) rfl), rfl, vo_i, rfl, (fun h => by cases h), by decide⟩
theorem flX5_164 : FL RX5 164 2 7 0 false := ⟨RX2, TX2, 15, tyX2, rfl, inlX2, tyX2_ok, nmX2, by decide, rfl, sub_r18 _ (List.mem_of_getElem? (i := 0) rfl), rfl, vo_i, rfl, (fun h => by cases h), by decide⟩
theorem flX5_172 : FL RX5 172 2 14 2 false := ⟨RX2, TX2, 15, tyX2, rfl, inlX2, tyX2_ok, nmX2, by decide, rfl, sub_r18 _ (List.mem_of_getElem? (i := 1) rfl), rfl, vo_o _, rfl, (fun h => by cases h), by decide⟩
theorem flX5_170 : FL RX5 170 2 4 0 false := ⟨RX2, TX2, 15, tyX2, rfl, inlX2, tyX2_ok, nmX2, by decide, rfl, sub_r18 _ (List.mem_of_getElem? (i := 2) rfl), rfl, vo_i, rfl, (fun h => by cases h), by decide⟩
theorem flX5_167 : FL RX5 167 0 1 0 false := ⟨RX0, TX0, 11, tyX0, rfl, inlX0, tyX0_ok, nmX0, by decide, rfl, sub_r18 _ (List.mem_of_getElem? (i := 3) rfl), rfl, vo_i, rfl, (fun h => by cases h), by decide⟩
theorem mlX5_176 : ML RX5 176 yX0_copyFrom cX0_copyFrom 2 none 1 := ⟨sub_r18 _ (List.mem_of_getElem? (i := 4) rfl), sub_r4 _ (List.mem_of_getElem? (i := 1) rfl), sub_r2 _ (List.mem_of_getElem? (i := 23) rfl), by decide +kernel⟩
theorem mlX0_53 : ML RX0 53 yJ7_fill_d0a16 cJ7_fill_d0a16 5 none 2 := ⟨sub_r18 _ (List.mem_of_getElem? (i := 13) rfl), sub_r18 _ (List.mem_of_getElem? (i := 16) rfl), sub_r18 _ (List.mem_of_getElem? (i := 15) rfl), by decide +kernel⟩
theorem gm_422 : Cond.static yJ7_fill_d0a16 ∈ Gw := sub_r18 _ (List.mem_of_getElem? (i := 14) rfl)
theorem mlX0_59 : ML RX0 59 yJ7_fill_53178 cJ7_fill_53178 4 none 2 := ⟨sub_r18 _ (List.mem_of_getElem? (i := 17) rfl), sub_r18 _ (List.mem_of_getElem? (i := 19) rfl), sub_r18 _ (List.mem_of_getElem? (i := 15) rfl), by decide +kernel⟩
theorem gm_426 : Cond.static yJ7_fill_53178 ∈ Gw := sub_r18 _ (List.mem_of_getElem? (i := 18) rfl)
theorem mlX5_306 : ML RX5 306 yX0_empty cX0_empty 1 none 0 := ⟨sub_r18 _ (List.mem_of_getElem? (i := 9) rfl), sub_r18 _ (List.mem_of_getElem? (i := 12) rfl), sub_r2 _ (List.mem_of_getElem? (i := 23) rfl), by decide +kernel⟩
theorem gm_418 : Cond.instanceMethod yX0_empty ∈ Gw := sub_r18 _ (List.mem_of_getElem? (i := 10) rfl)
theorem gm_419 : Cond.selects RX0 yX0_empty yX0_empty ∈ Gw := sub_r18 _ (List.mem_of_getElem? (i := 11) rfl)
theorem flX5_107 : FG RX5 107 2 0 0 := ⟨RX2, TX2, 15, rfl, inlX2, by decide, rfl, sub_r13 _ (List.mem_of_getElem? (i := 21) rfl), rfl, by decide⟩
theorem mlX5_256 : ML RX5 256 yX5_takeRequest cX5_takeRequest 4 none 2 := ⟨sub_r15 _ (List.mem_of_getElem? (i := 0) rfl), sub_r15 _ (List.mem_of_getElem? (i := 3) rfl), sub_r1 _ (List.mem_of_getElem? (i := 2) rfl), by decide +kernel⟩
theorem gm_337 : Cond.instanceMethod yX5_takeRequest ∈ Gw := sub_r15 _ (List.mem_of_getElem? (i := 1) rfl)
theorem gm_338 : Cond.selects RX5 yX5_takeRequest yX5_takeRequest ∈ Gw := sub_r15 _ (List.mem_of_getElem? (i := 2) rfl)
theorem mlX5_259 : ML RX5 259 yX5_takeMove cX5_takeMove 5 none 2 := ⟨sub_r17 _ (List.mem_of_getElem? (i := 20) rfl), sub_r17 _ (List.mem_of_getElem? (i := 23) rfl), sub_r1 _ (List.mem_of_getElem? (i := 2) rfl), by decide +kernel⟩
theorem gm_405 : Cond.instanceMethod yX5_takeMove ∈ Gw := sub_r17 _ (List.mem_of_getElem? (i := 21) rfl)
theorem gm_406 : Cond.selects RX5 yX5_takeMove yX5_takeMove ∈ Gw := sub_r17 _ (List.mem_of_getElem? (i := 22) rfl)
theorem mlX5_262 : ML RX5 262 yX5_takeTaken cX5_takeTaken 4 none 2 := ⟨sub_r18 _ (List.mem_of_getElem? (i := 5) rfl), sub_r18 _ (List.mem_of_getElem? (i := 8) rfl), sub_r1 _ (List.mem_of_getElem? (i := 2) rfl), by decide +kernel⟩
theorem gm_414 : Cond.instanceMethod yX5_takeTaken ∈ Gw := sub_r18 _ (List.mem_of_getElem? (i := 6) rfl)
theorem gm_415 : Cond.selects RX5 yX5_takeTaken yX5_takeTaken ∈ Gw := sub_r18 _ (List.mem_of_getElem? (i := 7) rfl)
theorem mlX5_265 : ML RX5 265 yX5_takeAck cX5_takeAck 5 none 2 := ⟨sub_r18 _ (List.mem_of_getElem? (i := 20) rfl), sub_r18 _ (List.mem_of_getElem? (i := 23) rfl), sub_r1 _ (List.mem_of_getElem? (i := 2) rfl), by decide +kernel⟩
theorem gm_429 : Cond.instanceMethod yX5_takeAck ∈ Gw := sub_r18 _ (List.mem_of_getElem? (i := 21) rfl)
theorem gm_430 : Cond.selects RX5 yX5_takeAck yX5_takeAck ∈ Gw := sub_r18 _ (List.mem_of_getElem? (i := 22) rfl)
theorem mlX5_100 : ML RX5 100 yX3_at cX3_at 2 (some (.object "OnceCalls$Letter")) 1 := ⟨sub_r14 _ (List.mem_of_getElem? (i := 0) rfl), sub_r14 _ (List.mem_of_getElem? (i := 3) rfl), sub_r2 _ (List.mem_of_getElem? (i := 4) rfl), by decide +kernel⟩
theorem gm_313 : Cond.instanceMethod yX3_at ∈ Gw := sub_r14 _ (List.mem_of_getElem? (i := 1) rfl)
theorem gm_314 : Cond.selects RX3 yX3_at yX3_at ∈ Gw := sub_r14 _ (List.mem_of_getElem? (i := 2) rfl)
theorem mlX5_104 : ML RX5 104 yX3_removeAt cX3_removeAt 3 none 1 := ⟨sub_r14 _ (List.mem_of_getElem? (i := 4) rfl), sub_r14 _ (List.mem_of_getElem? (i := 7) rfl), sub_r2 _ (List.mem_of_getElem? (i := 4) rfl), by decide +kernel⟩
theorem gm_317 : Cond.instanceMethod yX3_removeAt ∈ Gw := sub_r14 _ (List.mem_of_getElem? (i := 5) rfl)
theorem gm_318 : Cond.selects RX3 yX3_removeAt yX3_removeAt ∈ Gw := sub_r14 _ (List.mem_of_getElem? (i := 6) rfl)
theorem flX5_116 : FL RX5 116 4 4 3 false := ⟨RX4, TX4, 6, tyX4, rfl, inlX4, tyX4_ok, nmX4, by decide, rfl, sub_r13 _ (List.mem_of_getElem? (i := 23) rfl), rfl, vo_z, rfl, (fun h => by cases h), by decide⟩
theorem mlX5_123 : ML RX5 123 yX5_takeAtServer cX5_takeAtServer 3 none 2 := ⟨sub_r14 _ (List.mem_of_getElem? (i := 20) rfl), sub_r14 _ (List.mem_of_getElem? (i := 23) rfl), sub_r1 _ (List.mem_of_getElem? (i := 2) rfl), by decide +kernel⟩
theorem gm_333 : Cond.instanceMethod yX5_takeAtServer ∈ Gw := sub_r14 _ (List.mem_of_getElem? (i := 21) rfl)
theorem gm_334 : Cond.selects RX5 yX5_takeAtServer yX5_takeAtServer ∈ Gw := sub_r14 _ (List.mem_of_getElem? (i := 22) rfl)
theorem mlX5_110 : ML RX5 110 yX5_takeAnswer cX5_takeAnswer 3 none 1 := ⟨sub_r14 _ (List.mem_of_getElem? (i := 8) rfl), sub_r14 _ (List.mem_of_getElem? (i := 11) rfl), sub_r1 _ (List.mem_of_getElem? (i := 2) rfl), by decide +kernel⟩
theorem gm_321 : Cond.instanceMethod yX5_takeAnswer ∈ Gw := sub_r14 _ (List.mem_of_getElem? (i := 9) rfl)
theorem gm_322 : Cond.selects RX5 yX5_takeAnswer yX5_takeAnswer ∈ Gw := sub_r14 _ (List.mem_of_getElem? (i := 10) rfl)
theorem mlX6_210 : ML RX6 210 yX6_sendFrom cX6_sendFrom 3 none 2 := ⟨sub_r19 _ (List.mem_of_getElem? (i := 17) rfl), sub_r19 _ (List.mem_of_getElem? (i := 20) rfl), sub_r1 _ (List.mem_of_getElem? (i := 5) rfl), by decide +kernel⟩
theorem gm_450 : Cond.instanceMethod yX6_sendFrom ∈ Gw := sub_r19 _ (List.mem_of_getElem? (i := 18) rfl)
theorem gm_451 : Cond.selects RX6 yX6_sendFrom yX6_sendFrom ∈ Gw := sub_r19 _ (List.mem_of_getElem? (i := 19) rfl)
theorem mlX6_207 : ML RX6 207 yX6_forget cX6_forget 5 none 2 := ⟨sub_r20 _ (List.mem_of_getElem? (i := 1) rfl), sub_r20 _ (List.mem_of_getElem? (i := 4) rfl), sub_r1 _ (List.mem_of_getElem? (i := 5) rfl), by decide +kernel⟩
theorem gm_458 : Cond.instanceMethod yX6_forget ∈ Gw := sub_r20 _ (List.mem_of_getElem? (i := 2) rfl)
theorem gm_459 : Cond.selects RX6 yX6_forget yX6_forget ∈ Gw := sub_r20 _ (List.mem_of_getElem? (i := 3) rfl)
theorem mlX6_217 : ML RX6 217 yX6_know cX6_know 10 none 5 := ⟨sub_r19 _ (List.mem_of_getElem? (i := 21) rfl), sub_r20 _ (List.mem_of_getElem? (i := 0) rfl), sub_r1 _ (List.mem_of_getElem? (i := 5) rfl), by decide +kernel⟩
theorem gm_454 : Cond.instanceMethod yX6_know ∈ Gw := sub_r19 _ (List.mem_of_getElem? (i := 22) rfl)
theorem gm_455 : Cond.selects RX6 yX6_know yX6_know ∈ Gw := sub_r19 _ (List.mem_of_getElem? (i := 23) rfl)
theorem mlX6_221 : ML RX6 221 yX6_effect cX6_effect 5 (some .long) 2 := ⟨sub_r20 _ (List.mem_of_getElem? (i := 5) rfl), sub_r20 _ (List.mem_of_getElem? (i := 8) rfl), sub_r1 _ (List.mem_of_getElem? (i := 5) rfl), by decide +kernel⟩
theorem gm_462 : Cond.instanceMethod yX6_effect ∈ Gw := sub_r20 _ (List.mem_of_getElem? (i := 6) rfl)
theorem gm_463 : Cond.selects RX6 yX6_effect yX6_effect ∈ Gw := sub_r20 _ (List.mem_of_getElem? (i := 7) rfl)
theorem flX6_225 : FL RX6 225 6 4 0 false := ⟨RX6, TX6, 53, tyX6, rfl, inlX6, tyX6_ok, nmX6, by decide, rfl, sub_r19 _ (List.mem_of_getElem? (i := 12) rfl), rfl, vo_i, rfl, (fun h => by cases h), by decide⟩
theorem mlX6_213 : ML RX6 213 yX6_answer cX6_answer 7 none 4 := ⟨sub_r19 _ (List.mem_of_getElem? (i := 13) rfl), sub_r19 _ (List.mem_of_getElem? (i := 16) rfl), sub_r1 _ (List.mem_of_getElem? (i := 5) rfl), by decide +kernel⟩
theorem gm_446 : Cond.instanceMethod yX6_answer ∈ Gw := sub_r19 _ (List.mem_of_getElem? (i := 14) rfl)
theorem gm_447 : Cond.selects RX6 yX6_answer yX6_answer ∈ Gw := sub_r19 _ (List.mem_of_getElem? (i := 15) rfl)
theorem flX6_204 : FL RX6 204 6 5 0 false := ⟨RX6, TX6, 53, tyX6, rfl, inlX6, tyX6_ok, nmX6, by decide, rfl, sub_r20 _ (List.mem_of_getElem? (i := 13) rfl), rfl, vo_i, rfl, (fun h => by cases h), by decide⟩
theorem mlX6_228 : ML RX6 228 yX6_takeOut cX6_takeOut 4 (some .int) 1 := ⟨sub_r19 _ (List.mem_of_getElem? (i := 4) rfl), sub_r19 _ (List.mem_of_getElem? (i := 7) rfl), sub_r1 _ (List.mem_of_getElem? (i := 5) rfl), by decide +kernel⟩
theorem gm_437 : Cond.instanceMethod yX6_takeOut ∈ Gw := sub_r19 _ (List.mem_of_getElem? (i := 5) rfl)
theorem gm_438 : Cond.selects RX6 yX6_takeOut yX6_takeOut ∈ Gw := sub_r19 _ (List.mem_of_getElem? (i := 6) rfl)
theorem mlX6_231 : ML RX6 231 yX6_asked cX6_asked 8 none 1 := ⟨sub_r19 _ (List.mem_of_getElem? (i := 8) rfl), sub_r19 _ (List.mem_of_getElem? (i := 11) rfl), sub_r1 _ (List.mem_of_getElem? (i := 5) rfl), by decide +kernel⟩
theorem gm_441 : Cond.instanceMethod yX6_asked ∈ Gw := sub_r19 _ (List.mem_of_getElem? (i := 9) rfl)
theorem gm_442 : Cond.selects RX6 yX6_asked yX6_asked ∈ Gw := sub_r19 _ (List.mem_of_getElem? (i := 10) rfl)
theorem mlX6_234 : ML RX6 234 yX6_answered cX6_answered 5 none 1 := ⟨sub_r20 _ (List.mem_of_getElem? (i := 9) rfl), sub_r20 _ (List.mem_of_getElem? (i := 12) rfl), sub_r1 _ (List.mem_of_getElem? (i := 5) rfl), by decide +kernel⟩
theorem gm_466 : Cond.instanceMethod yX6_answered ∈ Gw := sub_r20 _ (List.mem_of_getElem? (i := 10) rfl)
theorem gm_467 : Cond.selects RX6 yX6_answered yX6_answered ∈ Gw := sub_r20 _ (List.mem_of_getElem? (i := 11) rfl)
theorem mlX6_237 : ML RX6 237 yX6_moved cX6_moved 6 none 1 := ⟨sub_r20 _ (List.mem_of_getElem? (i := 14) rfl), sub_r20 _ (List.mem_of_getElem? (i := 17) rfl), sub_r1 _ (List.mem_of_getElem? (i := 5) rfl), by decide +kernel⟩
theorem gm_471 : Cond.instanceMethod yX6_moved ∈ Gw := sub_r20 _ (List.mem_of_getElem? (i := 15) rfl)
theorem gm_472 : Cond.selects RX6 yX6_moved yX6_moved ∈ Gw := sub_r20 _ (List.mem_of_getElem? (i := 16) rfl)
theorem mlX6_240 : ML RX6 240 yX6_taken cX6_taken 4 none 1 := ⟨sub_r20 _ (List.mem_of_getElem? (i := 18) rfl), sub_r20 _ (List.mem_of_getElem? (i := 21) rfl), sub_r1 _ (List.mem_of_getElem? (i := 5) rfl), by decide +kernel⟩
theorem gm_475 : Cond.instanceMethod yX6_taken ∈ Gw := sub_r20 _ (List.mem_of_getElem? (i := 19) rfl)
theorem gm_476 : Cond.selects RX6 yX6_taken yX6_taken ∈ Gw := sub_r20 _ (List.mem_of_getElem? (i := 20) rfl)
theorem mlX5_131 : ML RX5 131 yX4_keep cX4_keep 2 none 0 := ⟨sub_r21 _ (List.mem_of_getElem? (i := 19) rfl), sub_r21 _ (List.mem_of_getElem? (i := 22) rfl), sub_r1 _ (List.mem_of_getElem? (i := 21) rfl), by decide +kernel⟩
theorem gm_500 : Cond.instanceMethod yX4_keep ∈ Gw := sub_r21 _ (List.mem_of_getElem? (i := 20) rfl)
theorem gm_501 : Cond.selects RX4 yX4_keep yX4_keep ∈ Gw := sub_r21 _ (List.mem_of_getElem? (i := 21) rfl)
theorem flX5_137 : FL RX5 137 3 1 0 false := ⟨RX3, TX3, 2, tyX3, rfl, inlX3, tyX3_ok, nmX3, by decide, rfl, sub_r21 _ (List.mem_of_getElem? (i := 18) rfl), rfl, vo_i, rfl, (fun h => by cases h), by decide⟩
theorem mlX5_140 : ML RX5 140 yX3_clear cX3_clear 2 none 0 := ⟨sub_r21 _ (List.mem_of_getElem? (i := 23) rfl), sub_r22 _ (List.mem_of_getElem? (i := 2) rfl), sub_r2 _ (List.mem_of_getElem? (i := 4) rfl), by decide +kernel⟩
theorem gm_504 : Cond.instanceMethod yX3_clear ∈ Gw := sub_r22 _ (List.mem_of_getElem? (i := 0) rfl)
theorem gm_505 : Cond.selects RX3 yX3_clear yX3_clear ∈ Gw := sub_r22 _ (List.mem_of_getElem? (i := 1) rfl)
theorem mlX6_243 : ML RX6 243 yX6_copy cX6_copy 7 none 2 := ⟨sub_r22 _ (List.mem_of_getElem? (i := 7) rfl), sub_r22 _ (List.mem_of_getElem? (i := 10) rfl), sub_r1 _ (List.mem_of_getElem? (i := 5) rfl), by decide +kernel⟩
theorem gm_512 : Cond.instanceMethod yX6_copy ∈ Gw := sub_r22 _ (List.mem_of_getElem? (i := 8) rfl)
theorem gm_513 : Cond.selects RX6 yX6_copy yX6_copy ∈ Gw := sub_r22 _ (List.mem_of_getElem? (i := 9) rfl)
theorem mlX5_143 : ML RX5 143 yX4_restore cX4_restore 2 none 0 := ⟨sub_r22 _ (List.mem_of_getElem? (i := 15) rfl), sub_r22 _ (List.mem_of_getElem? (i := 18) rfl), sub_r1 _ (List.mem_of_getElem? (i := 21) rfl), by decide +kernel⟩
theorem gm_520 : Cond.instanceMethod yX4_restore ∈ Gw := sub_r22 _ (List.mem_of_getElem? (i := 16) rfl)
theorem gm_521 : Cond.selects RX4 yX4_restore yX4_restore ∈ Gw := sub_r22 _ (List.mem_of_getElem? (i := 17) rfl)
theorem mlX5_150 : ML RX5 150 yX0_canLeaveFor cX0_canLeaveFor 2 (some .boolean) 1 := ⟨sub_r23 _ (List.mem_of_getElem? (i := 12) rfl), sub_r23 _ (List.mem_of_getElem? (i := 15) rfl), sub_r2 _ (List.mem_of_getElem? (i := 23) rfl), by decide +kernel⟩
theorem gm_541 : Cond.instanceMethod yX0_canLeaveFor ∈ Gw := sub_r23 _ (List.mem_of_getElem? (i := 13) rfl)
theorem gm_542 : Cond.selects RX0 yX0_canLeaveFor yX0_canLeaveFor ∈ Gw := sub_r23 _ (List.mem_of_getElem? (i := 14) rfl)
theorem clX5_151 : CL RX5 151 0 11 := ⟨RX0, TX0, tyX0, rfl, inlX0, tyX0_ok, sub_r23 _ (List.mem_of_getElem? (i := 11) rfl), sub_r2 _ (List.mem_of_getElem? (i := 22) rfl), sub_r2 _ (List.mem_of_getElem? (i := 23) rfl), by decide +kernel, by decide⟩
theorem flX5_216 : FG RX5 216 0 5 2 := ⟨RX0, TX0, 11, rfl, inlX0, by decide, rfl, sub_r24 _ (List.mem_of_getElem? (i := 4) rfl), rfl, by decide⟩
theorem flX5_219 : FG RX5 219 0 6 2 := ⟨RX0, TX0, 11, rfl, inlX0, by decide, rfl, sub_r24 _ (List.mem_of_getElem? (i := 5) rfl), rfl, by decide⟩
theorem mlX5_309 : ML RX5 309 yX0_removeRecord cX0_removeRecord 3 none 1 := ⟨sub_r24 _ (List.mem_of_getElem? (i := 6) rfl), sub_r16 _ (List.mem_of_getElem? (i := 20) rfl), sub_r2 _ (List.mem_of_getElem? (i := 23) rfl), by decide +kernel⟩
theorem mlX5_183 : ML RX5 183 yX5_removeDeadRecords cX5_removeDeadRecords 4 (some .int) 1 := ⟨sub_r24 _ (List.mem_of_getElem? (i := 0) rfl), sub_r24 _ (List.mem_of_getElem? (i := 3) rfl), sub_r1 _ (List.mem_of_getElem? (i := 2) rfl), by decide +kernel⟩
theorem gm_553 : Cond.instanceMethod yX5_removeDeadRecords ∈ Gw := sub_r24 _ (List.mem_of_getElem? (i := 1) rfl)
theorem gm_554 : Cond.selects RX5 yX5_removeDeadRecords yX5_removeDeadRecords ∈ Gw := sub_r24 _ (List.mem_of_getElem? (i := 2) rfl)
theorem flX4_60 : FL RX4 60 0 3 0 false := ⟨RX0, TX0, 11, tyX0, rfl, inlX0, tyX0_ok, nmX0, by decide, rfl, sub_r25 _ (List.mem_of_getElem? (i := 6) rfl), rfl, vo_i, rfl, (fun h => by cases h), by decide⟩
theorem mlX5_187 : ML RX5 187 yX5_oneIf cX5_oneIf 1 (some .int) 1 := ⟨sub_r24 _ (List.mem_of_getElem? (i := 23) rfl), sub_r25 _ (List.mem_of_getElem? (i := 1) rfl), sub_r1 _ (List.mem_of_getElem? (i := 2) rfl), by decide +kernel⟩
theorem gm_576 : Cond.static yX5_oneIf ∈ Gw := sub_r25 _ (List.mem_of_getElem? (i := 0) rfl)
theorem mlX5_191 : ML RX5 191 yX4_recordsInAll cX4_recordsInAll 3 (some .int) 0 := ⟨sub_r25 _ (List.mem_of_getElem? (i := 2) rfl), sub_r25 _ (List.mem_of_getElem? (i := 5) rfl), sub_r1 _ (List.mem_of_getElem? (i := 21) rfl), by decide +kernel⟩
theorem gm_579 : Cond.instanceMethod yX4_recordsInAll ∈ Gw := sub_r25 _ (List.mem_of_getElem? (i := 3) rfl)
theorem gm_580 : Cond.selects RX4 yX4_recordsInAll yX4_recordsInAll ∈ Gw := sub_r25 _ (List.mem_of_getElem? (i := 4) rfl)
theorem mlX5_194 : ML RX5 194 yX5_bucketAt cX5_bucketAt 4 (some (.object "OnceCalls$Bucket")) 2 := ⟨sub_r25 _ (List.mem_of_getElem? (i := 17) rfl), sub_r25 _ (List.mem_of_getElem? (i := 20) rfl), sub_r1 _ (List.mem_of_getElem? (i := 2) rfl), by decide +kernel⟩
theorem gm_594 : Cond.instanceMethod yX5_bucketAt ∈ Gw := sub_r25 _ (List.mem_of_getElem? (i := 18) rfl)
theorem gm_595 : Cond.selects RX5 yX5_bucketAt yX5_bucketAt ∈ Gw := sub_r25 _ (List.mem_of_getElem? (i := 19) rfl)
theorem flX5_199 : FG RX5 199 0 10 2 := ⟨RX0, TX0, 11, rfl, inlX0, by decide, rfl, sub_r25 _ (List.mem_of_getElem? (i := 16) rfl), rfl, by decide⟩
theorem flX5_197 : FG RX5 197 0 9 2 := ⟨RX0, TX0, 11, rfl, inlX0, by decide, rfl, sub_r25 _ (List.mem_of_getElem? (i := 15) rfl), rfl, by decide⟩
theorem mlX6_246 : ML RX6 246 yX6_store cX6_store 2 (some .int) 1 := ⟨sub_r26 _ (List.mem_of_getElem? (i := 1) rfl), sub_r26 _ (List.mem_of_getElem? (i := 4) rfl), sub_r1 _ (List.mem_of_getElem? (i := 5) rfl), by decide +kernel⟩
theorem gm_602 : Cond.instanceMethod yX6_store ∈ Gw := sub_r26 _ (List.mem_of_getElem? (i := 2) rfl)
theorem gm_603 : Cond.selects RX6 yX6_store yX6_store ∈ Gw := sub_r26 _ (List.mem_of_getElem? (i := 3) rfl)
theorem flX5_209 : FG RX5 209 0 4 2 := ⟨RX0, TX0, 11, rfl, inlX0, by decide, rfl, sub_r26 _ (List.mem_of_getElem? (i := 9) rfl), rfl, by decide⟩
theorem mlX5_213 : ML RX5 213 yX5_placeOf cX5_placeOf 1 (some .int) 1 := ⟨sub_r26 _ (List.mem_of_getElem? (i := 10) rfl), sub_r17 _ (List.mem_of_getElem? (i := 15) rfl), sub_r1 _ (List.mem_of_getElem? (i := 2) rfl), by decide +kernel⟩
theorem flX5_222 : FG RX5 222 0 7 2 := ⟨RX0, TX0, 11, rfl, inlX0, by decide, rfl, sub_r26 _ (List.mem_of_getElem? (i := 19) rfl), rfl, by decide⟩
theorem mlX2_21 : ML RX2 21 yX2_isBetweenServers cX2_isBetweenServers 1 (some .boolean) 0 := ⟨sub_r28 _ (List.mem_of_getElem? (i := 10) rfl), sub_r28 _ (List.mem_of_getElem? (i := 13) rfl), sub_r9 _ (List.mem_of_getElem? (i := 16) rfl), by decide +kernel⟩
theorem gm_659 : Cond.instanceMethod yX2_isBetweenServers ∈ Gw := sub_r28 _ (List.mem_of_getElem? (i := 11) rfl)
theorem gm_660 : Cond.selects RX2 yX2_isBetweenServers yX2_isBetweenServers ∈ Gw := sub_r28 _ (List.mem_of_getElem? (i := 12) rfl)
theorem flX2_44 : FL RX2 44 2 5 0 false := ⟨RX2, TX2, 15, tyX2, rfl, inlX2, tyX2_ok, nmX2, by decide, rfl, sub_r28 _ (List.mem_of_getElem? (i := 20) rfl), rfl, vo_i, rfl, (fun h => by cases h), by decide⟩
theorem flX2_41 : FL RX2 41 2 6 0 false := ⟨RX2, TX2, 15, tyX2, rfl, inlX2, tyX2_ok, nmX2, by decide, rfl, sub_r28 _ (List.mem_of_getElem? (i := 19) rfl), rfl, vo_i, rfl, (fun h => by cases h), by decide⟩
theorem flX2_38 : FL RX2 38 2 7 0 false := ⟨RX2, TX2, 15, tyX2, rfl, inlX2, tyX2_ok, nmX2, by decide, rfl, sub_r28 _ (List.mem_of_getElem? (i := 18) rfl), rfl, vo_i, rfl, (fun h => by cases h), by decide⟩
theorem flX2_50 : FL RX2 50 2 14 2 false := ⟨RX2, TX2, 15, tyX2, rfl, inlX2, tyX2_ok, nmX2, by decide, rfl, sub_r29 _ (List.mem_of_getElem? (i := 2) rfl), rfl, vo_o _, rfl, (fun h => by cases h), by decide⟩
theorem flX2_54 : FL RX2 54 0 3 0 false := ⟨RX0, TX0, 11, tyX0, rfl, inlX0, tyX0_ok, nmX0, by decide, rfl, sub_r29 _ (List.mem_of_getElem? (i := 3) rfl), rfl, vo_i, rfl, (fun h => by cases h), by decide⟩
theorem flX2_47 : FL RX2 47 2 8 0 false := ⟨RX2, TX2, 15, tyX2, rfl, inlX2, tyX2_ok, nmX2, by decide, rfl, sub_r29 _ (List.mem_of_getElem? (i := 1) rfl), rfl, vo_i, rfl, (fun h => by cases h), by decide⟩
theorem flX2_28 : FL RX2 28 2 3 0 false := ⟨RX2, TX2, 15, tyX2, rfl, inlX2, tyX2_ok, nmX2, by decide, rfl, sub_r28 _ (List.mem_of_getElem? (i := 9) rfl), rfl, vo_i, rfl, (fun h => by cases h), by decide⟩
theorem flX2_25 : FL RX2 25 2 4 0 false := ⟨RX2, TX2, 15, tyX2, rfl, inlX2, tyX2_ok, nmX2, by decide, rfl, sub_r28 _ (List.mem_of_getElem? (i := 8) rfl), rfl, vo_i, rfl, (fun h => by cases h), by decide⟩
theorem mlX2_31 : ML RX2 31 yX2_fourthPart cX2_fourthPart 1 (some .int) 0 := ⟨sub_r28 _ (List.mem_of_getElem? (i := 14) rfl), sub_r28 _ (List.mem_of_getElem? (i := 17) rfl), sub_r9 _ (List.mem_of_getElem? (i := 16) rfl), by decide +kernel⟩
theorem gm_663 : Cond.instanceMethod yX2_fourthPart ∈ Gw := sub_r28 _ (List.mem_of_getElem? (i := 15) rfl)
theorem gm_664 : Cond.selects RX2 yX2_fourthPart yX2_fourthPart ∈ Gw := sub_r28 _ (List.mem_of_getElem? (i := 16) rfl)
theorem mlX2_35 : ML RX2 35 yX2_fifthPart cX2_fifthPart 1 (some .int) 0 := ⟨sub_r28 _ (List.mem_of_getElem? (i := 21) rfl), sub_r29 _ (List.mem_of_getElem? (i := 0) rfl), sub_r9 _ (List.mem_of_getElem? (i := 16) rfl), by decide +kernel⟩
theorem gm_670 : Cond.instanceMethod yX2_fifthPart ∈ Gw := sub_r28 _ (List.mem_of_getElem? (i := 22) rfl)
theorem gm_671 : Cond.selects RX2 yX2_fifthPart yX2_fifthPart ∈ Gw := sub_r28 _ (List.mem_of_getElem? (i := 23) rfl)
theorem mlX5_231 : ML RX5 231 yX2_part cX2_part 2 (some .int) 1 := ⟨sub_r28 _ (List.mem_of_getElem? (i := 4) rfl), sub_r28 _ (List.mem_of_getElem? (i := 7) rfl), sub_r9 _ (List.mem_of_getElem? (i := 16) rfl), by decide +kernel⟩
theorem gm_653 : Cond.instanceMethod yX2_part ∈ Gw := sub_r28 _ (List.mem_of_getElem? (i := 5) rfl)
theorem gm_654 : Cond.selects RX2 yX2_part yX2_part ∈ Gw := sub_r28 _ (List.mem_of_getElem? (i := 6) rfl)
