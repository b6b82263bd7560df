abbrev rX5_letter : Room := { frames := 3, cells := 0, slots := 0, locals := 61 }
def f_X5_letter (o : Nat) (x1 : Int32) (x2 : Int32) (w : Wd) : Option (Int32 × Wd) := gR w (some o) 6 2 (fun v2 => chk w v2 4 (fun a9 => bnd (f_X3_at a9 x1 w) (fun v6 w7 => if v6 = none then (some ((-1), w7)) else (chk w7 v6 3 (fun a16 => bnd (f_X2_part a16 x2 w7) (fun v13 w14 => some (v13, w14)))))))
set_option maxHeartbeats 4000000 in
set_option maxRecDepth 100000 in
theorem e_X5_letter {l : Launch} {D : va_G} {aC : Nat → ClassId} {b0 : Nat} {p : Program} {e : Env} {s : State} {m : MethodId} {args : Array Value} {below : List Frame} {meth : Method} {c : Code} (X : Cx D aC p s m args meth c cX5_letter RX5 4 "letter" (some .int)) {res : (Int32 × Wd)} (o : Nat) (x1 : Int32) (x2 : Int32) (w : Wd) : BW l D aC b0 p e rX5_letter s m args below meth c (Qe D aC b0 below args s 0 0 (some (.int res.1)) res.2) res 0 0 0 0 (f_X5_letter o x1 x2 w) w 0 4 [(0, va_rf (some o)), (1, .int x1), (2, .int x2)] [] := by
  intro H locs cells slots ls hf M hS hc hs hl
  unfold f_X5_letter at hf
  refine q_aload_n X dX5_letter_0 rfl (lv_at hl 0 rfl) ?_
  have ho := gR_e hf
  clear hf
  obtain ⟨a1, v2, e3, k4, q5, hf⟩ := ho
  cases e3
  refine q_get X M flX5_34 k4 (congrArg va_rf q5) dX5_letter_1 ?_
  refine lv_iload_n X.1 X.2.1 dX5_letter_4 rfl (lv_at hl 1 rfl) ?_
  have ho := chk_e hf
  clear hf
  obtain ⟨a9, e10, k11, hf⟩ := ho
  cases e10
  have ho := bnd_e hf
  clear hf
  obtain ⟨v6, w7, q8, hf⟩ := ho
  refine q_cV X M hS hl.1 (ci := 3) (r := (RX3, TX3, 2)) (As := [.int x1]) (m_X3_at a9 x1 _ _ q8) mlX5_100 gm_313 gm_314 rfl (by decide) k11 rfl ⟨(Nat.le_of_ble_eq_true rfl), (Nat.le_of_ble_eq_true rfl)⟩ (rest := []) rfl (Nat.le_of_ble_eq_true rfl) (mc := 0) (ms := 0) (MC := 0) (MS := 0) rfl rfl rfl rfl (by omega) (by omega) dX5_letter_5 (st2 := [va_rf v6]) rfl (fun H locs M hS => ?_)
  refine q_astore_n (lv' := [(3, va_rf v6), (0, va_rf (some o)), (1, .int x1), (2, .int x2)]) X dX5_letter_8 rfl hl (by decide) rfl (fun ls hl => ?_)
  refine q_aload_n X dX5_letter_9 rfl (lv_at hl 0 rfl) ?_
  refine q_ifnonnull (tgt := 17) X dX5_letter_10 (by decide) (fun c12 => ?_) (fun c12 => ?_)
  · rw [if_neg c12] at hf
    refine q_aload_n X dX5_letter_17 rfl (lv_at hl 0 rfl) ?_
    refine lv_iload_n X.1 X.2.1 dX5_letter_18 rfl (lv_at hl 3 rfl) ?_
    have ho := chk_e hf
    clear hf
    obtain ⟨a16, e17, k18, hf⟩ := ho
    cases e17
    have ho := bnd_e hf
    clear hf
    obtain ⟨v13, w14, q15, hf⟩ := ho
    refine q_cV X M hS hl.1 (ci := 2) (r := (RX2, TX2, 15)) (As := [.int x2]) (m_X2_part a16 x2 _ _ q15) mlX5_231 gm_653 gm_654 rfl (by decide) k18 rfl ⟨(Nat.le_of_ble_eq_true rfl), (Nat.le_of_ble_eq_true rfl)⟩ (rest := []) rfl (Nat.le_of_ble_eq_true rfl) (mc := 0) (ms := 0) (MC := 0) (MS := 0) rfl rfl rfl rfl (by omega) (by omega) dX5_letter_19 (st2 := [.int v13]) rfl (fun H locs M hS => ?_)
    obtain rfl := Option.some.inj hf
    exact q_iret X M hS (by omega) (by omega) dX5_letter_22
  · rw [if_pos c12] at hf
    refine lv_iconst (v := (-1)) X.1 X.2.1 dX5_letter_13 (by decide) ?_
    refine lv_goto (tgt := 22) X.1 X.2.1 dX5_letter_14 (by decide) ?_
    obtain rfl := Option.some.inj hf
    exact q_iret X M hS (by omega) (by omega) dX5_letter_22
theorem m_X5_letter {l : Launch} {D : va_G} {aC : Nat → ClassId} {b0 : Nat} {w : Wd} (o : Nat) (x1 : Int32) (x2 : Int32) (v : Int32) (w' : Wd) (hf : f_X5_letter o x1 x2 w = some (v, w')) : Ct l D aC b0 yX5_letter (Cond.code yX5_letter cX5_letter 4 (some .int) :: Gw) rX5_letter [va_rf (some o), .int x1, .int x2] w (some (.int v)) w' :=
  q_met (by decide) (Nat.le_of_ble_eq_true rfl) (fun p e s m below meth c X M ls hl => e_X5_letter X (res := (v, w')) o x1 x2 w s.heap [] 0 0 ls hf M va_S.rf (by decide) (by decide) hl)
abbrev rX5_count : Room := { frames := 0, cells := 0, slots := 0, locals := 0 }
def f_X5_count (o : Nat) (x1 : Int32) (w : Wd) : Option (Int32 × Wd) := if x1 = 0 then (gR w (some o) 6 2 (fun v3 => gI w v3 4 1 (fun v8 => some (v8, w)))) else if x1 = 1 then (gI w (some o) 6 6 (fun v14 => some (v14, w))) else if x1 = 2 then (gI w (some o) 6 7 (fun v20 => some (v20, w))) else if x1 = 3 then (gI w (some o) 6 8 (fun v26 => some (v26, w))) else if x1 = 4 then (gI w (some o) 6 4 (fun v32 => some (v32, w))) else (some ((-1), w))
set_option maxHeartbeats 4000000 in
set_option maxRecDepth 100000 in
theorem e_X5_count {l : Launch} {D : va_G} {aC : Nat → ClassId} {b0 : Nat} {p : Program} {e : Env} {s : State} {m : MethodId} {args : Array Value} {below : List Frame} {meth : Method} {c : Code} (X : Cx D aC p s m args meth c cX5_count RX5 2 "count" (some .int)) {res : (Int32 × Wd)} (o : Nat) (x1 : Int32) (w : Wd) : BW l D aC b0 p e rX5_count s m args below meth c (Qe D aC b0 below args s 0 0 (some (.int res.1)) res.2) res 0 0 0 0 (f_X5_count o x1 w) w 0 2 [(0, va_rf (some o)), (1, .int x1)] [] := by
  intro H locs cells slots ls hf M hS hc hs hl
  unfold f_X5_count at hf
  refine lv_iload_n X.1 X.2.1 dX5_count_0 rfl (lv_at hl 1 rfl) ?_
  by_cases c1 : x1 = 0
  · rw [if_pos c1] at hf
    refine lv_tableIn (tgt := 36) (off := 35) X.1 X.2.1 dX5_count_1 (by rw [c1]; decide) (by rw [c1]; decide) (by rw [c1]; rfl) (by decide) ?_
    refine q_aload_n X dX5_count_36 rfl (lv_at hl 0 rfl) ?_
    have ho := gR_e hf
    clear hf
    obtain ⟨a2, v3, e4, k5, q6, hf⟩ := ho
    cases e4
    refine q_get X M flX5_34 k5 (congrArg va_rf q6) dX5_count_37 ?_
    have ho := gI_e hf
    clear hf
    obtain ⟨a7, v8, e9, k10, q11, hf⟩ := ho
    cases e9
    refine q_get X M flX5_137 k10 (congrArg Value.int q11) dX5_count_40 ?_
    obtain rfl := Option.some.inj hf
    exact q_iret X M hS (by omega) (by omega) dX5_count_43
  rw [if_neg c1] at hf
  by_cases c12 : x1 = 1
  · rw [if_pos c12] at hf
    refine lv_tableIn (tgt := 44) (off := 43) X.1 X.2.1 dX5_count_1 (by rw [c12]; decide) (by rw [c12]; decide) (by rw [c12]; rfl) (by decide) ?_
    refine q_aload_n X dX5_count_44 rfl (lv_at hl 0 rfl) ?_
    have ho := gI_e hf
    clear hf
    obtain ⟨a13, v14, e15, k16, q17, hf⟩ := ho
    cases e15
    refine q_get X M flX5_120 k16 (congrArg Value.int q17) dX5_count_45 ?_
    obtain rfl := Option.some.inj hf
    exact q_iret X M hS (by omega) (by omega) dX5_count_48
  rw [if_neg c12] at hf
  by_cases c18 : x1 = 2
  · rw [if_pos c18] at hf
    refine lv_tableIn (tgt := 49) (off := 48) X.1 X.2.1 dX5_count_1 (by rw [c18]; decide) (by rw [c18]; decide) (by rw [c18]; rfl) (by decide) ?_
    refine q_aload_n X dX5_count_49 rfl (lv_at hl 0 rfl) ?_
    have ho := gI_e hf
    clear hf
    obtain ⟨a19, v20, e21, k22, q23, hf⟩ := ho
    cases e21
    refine q_get X M flX5_234 k22 (congrArg Value.int q23) dX5_count_50 ?_
    obtain rfl := Option.some.inj hf
    exact q_iret X M hS (by omega) (by omega) dX5_count_53
  rw [if_neg c18] at hf
  by_cases c24 : x1 = 3
  · rw [if_pos c24] at hf
    refine lv_tableIn (tgt := 54) (off := 53) X.1 X.2.1 dX5_count_1 (by rw [c24]; decide) (by rw [c24]; decide) (by rw [c24]; rfl) (by decide) ?_
    refine q_aload_n X dX5_count_54 rfl (lv_at hl 0 rfl) ?_
    have ho := gI_e hf
    clear hf
    obtain ⟨a25, v26, e27, k28, q29, hf⟩ := ho
    cases e27
    refine q_get X M flX5_237 k28 (congrArg Value.int q29) dX5_count_55 ?_
    obtain rfl := Option.some.inj hf
    exact q_iret X M hS (by omega) (by omega) dX5_count_58
  rw [if_neg c24] at hf
  by_cases c30 : x1 = 4
  · rw [if_pos c30] at hf
    refine lv_tableIn (tgt := 59) (off := 58) X.1 X.2.1 dX5_count_1 (by rw [c30]; decide) (by rw [c30]; decide) (by rw [c30]; rfl) (by decide) ?_
    refine q_aload_n X dX5_count_59 rfl (lv_at hl 0 rfl) ?_
    have ho := gI_e hf
    clear hf
    obtain ⟨a31, v32, e33, k34, q35, hf⟩ := ho
    cases e33
    refine q_get X M flX5_51 k34 (congrArg Value.int q35) dX5_count_60 ?_
    obtain rfl := Option.some.inj hf
    exact q_iret X M hS (by omega) (by omega) dX5_count_63
  rw [if_neg c30] at hf
  have ht1 : x1.toInt < 0 ∨ 4 < x1.toInt := by
    have g0 : x1.toInt ≠ 0 := by simpa using ne_i c1
    have g1 : x1.toInt ≠ 1 := by simpa using ne_i c12
    have g2 : x1.toInt ≠ 2 := by simpa using ne_i c18
    have g3 : x1.toInt ≠ 3 := by simpa using ne_i c24
    have g4 : x1.toInt ≠ 4 := by simpa using ne_i c30
    omega
  refine lv_tableOut (tgt := 64) X.1 X.2.1 dX5_count_1 ht1 (by decide) ?_
  refine lv_iconst (v := (-1)) X.1 X.2.1 dX5_count_64 (by decide) ?_
  obtain rfl := Option.some.inj hf
  exact q_iret X M hS (by omega) (by omega) dX5_count_65
theorem m_X5_count {l : Launch} {D : va_G} {aC : Nat → ClassId} {b0 : Nat} {w : Wd} (o : Nat) (x1 : Int32) (v : Int32) (w' : Wd) (hf : f_X5_count o x1 w = some (v, w')) : Ct l D aC b0 yX5_count (Cond.code yX5_count cX5_count 2 (some .int) :: Gw) rX5_count [va_rf (some o), .int x1] w (some (.int v)) w' :=
  q_met (by decide) (Nat.le_of_ble_eq_true rfl) (fun p e s m below meth c X M ls hl => e_X5_count X (res := (v, w')) o x1 w s.heap [] 0 0 ls hf M va_S.rf (by decide) (by decide) hl)
