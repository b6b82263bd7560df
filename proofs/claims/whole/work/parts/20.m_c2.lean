abbrev rX6_first : Room := { frames := 0, cells := 0, slots := 0, locals := 0 }
def f_X6_first_2 : Nat → Nat → Int32 → Int32 → Wd → Option (Int32 × Wd)
  | 0, _, _, _, _ => none
  | n + 1, o, x1, x2, w => gR w (some o) 7 9 (fun v2 => aI w v2 100 x1 (fun v7 => if v7 < x2 then (some (x2, w)) else (gR w (some o) 7 11 (fun v14 => aI w v14 100 (((60 * x1) + x2) - 1) (fun v19 => if v19 = 0 then (some (x2, w)) else ((f_X6_first_2 n) o x1 (x2 + 1) w))))))
set_option maxHeartbeats 4000000 in
set_option maxRecDepth 100000 in
theorem b_X6_first_2 {l : Launch} {D : va_G} {aC : Nat → ClassId} {b0 : Nat} {p : Program} {e : Env} {s : State} {m : MethodId} {args : Array Value} {below : List Frame} {meth : Method} {c : Code} (X : Cx D aC p s m args meth c cX6_first RX6 3 "first" (some .int)) {res : (Int32 × Wd)} : ∀ (n : Nat) (o : Nat) (x1 : Int32) (x2 : Int32) (w : Wd), BW l D aC b0 p e rX6_first s m args below meth c (Qe D aC b0 below args s 0 0 (some (.int res.1)) res.2) res 0 0 0 0 (f_X6_first_2 n o x1 x2 w) w 2 3 [(0, va_rf (some o)), (1, .int x1), (2, .int x2)] [] := by
  intro n
  induction n with
  | zero =>
    intro o x1 x2 w H locs cells slots ls hf
    rw [f_X6_first_2.eq_1] at hf
    cases hf
  | succ n ih =>
    intro o x1 x2 w H locs cells slots ls hf M hS hc hs hl
    rw [f_X6_first_2.eq_2] at hf
    refine lv_iload_n X.1 X.2.1 dX6_first_2 rfl (lv_at hl 2 rfl) ?_
    refine q_aload_n X dX6_first_3 rfl (lv_at hl 0 rfl) ?_
    have ho := gR_e hf
    clear hf
    obtain ⟨a1, v2, e3, k4, q5, hf⟩ := ho
    cases e3
    refine q_get X M flX6_16.g k4 (congrArg va_rf q5) dX6_first_4 ?_
    refine lv_iload_n X.1 X.2.1 dX6_first_7 rfl (lv_at hl 1 rfl) ?_
    have ho := aI_e hf
    clear hf
    obtain ⟨a6, v7, e8, k9, i10, q11, hf⟩ := ho
    cases e8
    refine q_iald X M k9 i10 dX6_first_8 ?_
    rw [q11]
    refine lv_icmp_gt (tgt := 34) X.1 X.2.1 dX6_first_9 (by decide) (fun c12 => ?_) (fun c12 => ?_)
    · rw [if_pos c12] at hf
      refine lv_iload_n X.1 X.2.1 dX6_first_34 rfl (lv_at hl 2 rfl) ?_
      obtain rfl := Option.some.inj hf
      exact q_iret X M hS (by omega) (by omega) dX6_first_35
    · rw [if_neg c12] at hf
      refine q_aload_n X dX6_first_12 rfl (lv_at hl 0 rfl) ?_
      have ho := gR_e hf
      clear hf
      obtain ⟨a13, v14, e15, k16, q17, hf⟩ := ho
      cases e15
      refine q_get X M flX6_22.g k16 (congrArg va_rf q17) dX6_first_13 ?_
      refine lv_bipush (v := 60) X.1 X.2.1 dX6_first_16 (by decide) ?_
      refine lv_iload_n X.1 X.2.1 dX6_first_18 rfl (lv_at hl 1 rfl) ?_
      refine lv_imul X.1 X.2.1 dX6_first_19 ?_
      refine lv_iload_n X.1 X.2.1 dX6_first_20 rfl (lv_at hl 2 rfl) ?_
      refine lv_iadd X.1 X.2.1 dX6_first_21 ?_
      refine lv_iconst (v := 1) X.1 X.2.1 dX6_first_22 (by decide) ?_
      refine lv_isub X.1 X.2.1 dX6_first_23 ?_
      have ho := aI_e hf
      clear hf
      obtain ⟨a18, v19, e20, k21, i22, q23, hf⟩ := ho
      cases e20
      refine q_iald X M k21 i22 dX6_first_24 ?_
      rw [q23]
      refine lv_if_eq (tgt := 34) X.1 X.2.1 dX6_first_25 (by decide) (fun c24 => ?_) (fun c24 => ?_)
      · rw [if_pos c24] at hf
        refine lv_iload_n X.1 X.2.1 dX6_first_34 rfl (lv_at hl 2 rfl) ?_
        obtain rfl := Option.some.inj hf
        exact q_iret X M hS (by omega) (by omega) dX6_first_35
      · rw [if_neg c24] at hf
        refine lv_iinc (v := (x2 + 1)) (lv' := [(2, .int (x2 + 1)), (0, va_rf (some o)), (1, .int x1)]) X.1 X.2.1 dX6_first_28 hl (k := 2) rfl rfl (by decide) rfl (fun ls hl => ?_)
        refine lv_goto (tgt := 2) X.1 X.2.1 dX6_first_31 (by decide) ?_
        exact ih o x1 (x2 + 1) w _ _ _ _ _ hf M hS (by omega) (by omega) (lv_sub hl [1, 2, 0] rfl)
def f_X6_first (o : Nat) (x1 : Int32) (w : Wd) : Option (Int32 × Wd) := (f_X6_first_2 FU) o x1 1 w
set_option maxHeartbeats 4000000 in
set_option maxRecDepth 100000 in
theorem e_X6_first {l : Launch} {D : va_G} {aC : Nat → ClassId} {b0 : Nat} {p : Program} {e : Env} {s : State} {m : MethodId} {args : Array Value} {below : List Frame} {meth : Method} {c : Code} (X : Cx D aC p s m args meth c cX6_first RX6 3 "first" (some .int)) {res : (Int32 × Wd)} (o : Nat) (x1 : Int32) (w : Wd) : BW l D aC b0 p e rX6_first s m args below meth c (Qe D aC b0 below args s 0 0 (some (.int res.1)) res.2) res 0 0 0 0 (f_X6_first o x1 w) w 0 3 [(0, va_rf (some o)), (1, .int x1)] [] := by
  intro H locs cells slots ls hf M hS hc hs hl
  unfold f_X6_first at hf
  refine lv_iconst (v := 1) X.1 X.2.1 dX6_first_0 (by decide) ?_
  refine lv_istore_n (i := 2) (lv' := [(2, .int 1), (0, va_rf (some o)), (1, .int x1)]) X.1 X.2.1 dX6_first_1 rfl hl (by decide) rfl (fun ls hl => ?_)
  exact (b_X6_first_2 X FU) o x1 1 w _ _ _ _ _ hf M hS (by omega) (by omega) (lv_sub hl [1, 2, 0] rfl)
theorem m_X6_first {l : Launch} {D : va_G} {aC : Nat → ClassId} {b0 : Nat} {w : Wd} (o : Nat) (x1 : Int32) (v : Int32) (w' : Wd) (hf : f_X6_first o x1 w = some (v, w')) : Ct l D aC b0 yX6_first (Cond.code yX6_first cX6_first 3 (some .int) :: Gw) rX6_first [va_rf (some o), .int x1] w (some (.int v)) w' :=
  q_met (by decide) (Nat.le_of_ble_eq_true rfl) (fun p e s m below meth c X M ls hl => e_X6_first X (res := (v, w')) o x1 w s.heap [] 0 0 ls hf M va_S.rf (by decide) (by decide) hl)
abbrev rX6_go : Room := { frames := 0, cells := 0, slots := 0, locals := 0 }
def f_X6_go (o : Nat) (x1 : Int32) (w : Wd) : Option (Unit × Wd) := gI w (some o) 7 50 (fun v2 => if v2 = 400 then (gR w (some o) 7 30 (fun v34 => tZ w v34 102 x1 0 (fun w39 => gI w39 (some o) 7 3 (fun v46 => pI w39 (some o) 7 3 (v46 + 1) (fun w51 => some ((), w51)))))) else (gR w (some o) 7 49 (fun v8 => gI w (some o) 7 50 (fun v13 => tI w v8 100 v13 x1 (fun w18 => gI w18 (some o) 7 50 (fun v24 => pI w18 (some o) 7 50 (v24 + 1) (fun w29 => some ((), w29))))))))
set_option maxHeartbeats 4000000 in
set_option maxRecDepth 100000 in
theorem e_X6_go {l : Launch} {D : va_G} {aC : Nat → ClassId} {b0 : Nat} {p : Program} {e : Env} {s : State} {m : MethodId} {args : Array Value} {below : List Frame} {meth : Method} {c : Code} (X : Cx D aC p s m args meth c cX6_go RX6 2 "go" none) {res : (Unit × Wd)} (o : Nat) (x1 : Int32) (w : Wd) : BW l D aC b0 p e rX6_go s m args below meth c (Qe D aC b0 below args s 0 0 none res.2) res 0 0 0 0 (f_X6_go o x1 w) w 0 2 [(0, va_rf (some o)), (1, .int x1)] [] := by
  intro H locs cells slots ls hf M hS hc hs hl
  unfold f_X6_go at hf
  refine q_aload_n X dX6_go_0 rfl (lv_at hl 0 rfl) ?_
  have ho := gI_e hf
  clear hf
  obtain ⟨a1, v2, e3, k4, q5, hf⟩ := ho
  cases e3
  refine q_get X M flX6_162.g k4 (congrArg Value.int q5) dX6_go_1 ?_
  refine lv_sipush (v := 400) X.1 X.2.1 dX6_go_4 (by decide) ?_
  refine lv_icmp_ne (tgt := 28) X.1 X.2.1 dX6_go_7 (by decide) (fun c6 => ?_) (fun c6 => ?_)
  · rw [if_neg c6] at hf
    refine q_aload_n X dX6_go_28 rfl (lv_at hl 0 rfl) ?_
    have ho := gR_e hf
    clear hf
    obtain ⟨a7, v8, e9, k10, q11, hf⟩ := ho
    cases e9
    refine q_get X M flX6_136.g k10 (congrArg va_rf q11) dX6_go_29 ?_
    refine q_aload_n X dX6_go_32 rfl (lv_at hl 0 rfl) ?_
    have ho := gI_e hf
    clear hf
    obtain ⟨a12, v13, e14, k15, q16, hf⟩ := ho
    cases e14
    refine q_get X M flX6_162.g k15 (congrArg Value.int q16) dX6_go_33 ?_
    refine lv_iload_n X.1 X.2.1 dX6_go_36 rfl (lv_at hl 1 rfl) ?_
    have ho := tI_e hf
    clear hf
    obtain ⟨a17, w18, e19, k20, i21, q22, hf⟩ := ho
    cases e19
    refine q_iast X M hS k20 i21 dX6_go_37 (fun H locs M hS => ?_)
    rw [q22] at M
    refine q_aload_n X dX6_go_38 rfl (lv_at hl 0 rfl) ?_
    refine lv_dup X.1 X.2.1 dX6_go_39 rfl ?_
    have ho := gI_e hf
    clear hf
    obtain ⟨a23, v24, e25, k26, q27, hf⟩ := ho
    cases e25
    refine q_get X M flX6_162.g k26 (congrArg Value.int q27) dX6_go_40 ?_
    refine lv_iconst (v := 1) X.1 X.2.1 dX6_go_43 (by decide) ?_
    refine lv_iadd X.1 X.2.1 dX6_go_44 ?_
    have ho := pI_e hf
    clear hf
    obtain ⟨a28, w29, e30, k31, q32, hf⟩ := ho
    cases e30
    refine q_putI X M hS flX6_162 (Or.inl rfl) k31 dX6_go_45 (fun H locs M hS => ?_)
    rw [q32] at M
    obtain rfl := Option.some.inj hf
    exact q_vret X M hS (by omega) (by omega) dX6_go_48
  · rw [if_pos c6] at hf
    refine q_aload_n X dX6_go_10 rfl (lv_at hl 0 rfl) ?_
    have ho := gR_e hf
    clear hf
    obtain ⟨a33, v34, e35, k36, q37, hf⟩ := ho
    cases e35
    refine q_get X M flX6_81.g k36 (congrArg va_rf q37) dX6_go_11 ?_
    refine lv_iload_n X.1 X.2.1 dX6_go_14 rfl (lv_at hl 1 rfl) ?_
    refine lv_iconst (v := 0) X.1 X.2.1 dX6_go_15 (by decide) ?_
    have ho := tZ_e hf
    clear hf
    obtain ⟨a38, w39, e40, k41, i42, z44, q43, hf⟩ := ho
    cases e40
    refine q_zast X M hS k41 z44 i42 dX6_go_16 (fun H locs M hS => ?_)
    rw [q43] at M
    refine q_aload_n X dX6_go_17 rfl (lv_at hl 0 rfl) ?_
    refine lv_dup X.1 X.2.1 dX6_go_18 rfl ?_
    have ho := gI_e hf
    clear hf
    obtain ⟨a45, v46, e47, k48, q49, hf⟩ := ho
    cases e47
    refine q_get X M flX6_165.g k48 (congrArg Value.int q49) dX6_go_19 ?_
    refine lv_iconst (v := 1) X.1 X.2.1 dX6_go_22 (by decide) ?_
    refine lv_iadd X.1 X.2.1 dX6_go_23 ?_
    have ho := pI_e hf
    clear hf
    obtain ⟨a50, w51, e52, k53, q54, hf⟩ := ho
    cases e52
    refine q_putI X M hS flX6_165 (Or.inl rfl) k53 dX6_go_24 (fun H locs M hS => ?_)
    rw [q54] at M
    obtain rfl := Option.some.inj hf
    exact q_vret X M hS (by omega) (by omega) dX6_go_27
theorem m_X6_go {l : Launch} {D : va_G} {aC : Nat → ClassId} {b0 : Nat} {w : Wd} (o : Nat) (x1 : Int32) (v : Unit) (w' : Wd) (hf : f_X6_go o x1 w = some (v, w')) : Ct l D aC b0 yX6_go (Cond.code yX6_go cX6_go 2 none :: Gw) rX6_go [va_rf (some o), .int x1] w none w' :=
  q_met (by decide) (Nat.le_of_ble_eq_true rfl) (fun p e s m below meth c X M ls hl => e_X6_go X (res := (v, w')) o x1 w s.heap [] 0 0 ls hf M va_S.rf (by decide) (by decide) hl)
abbrev rX6_request : Room := { frames := 1, cells := 0, slots := 0, locals := 24 }
def f_X6_request (o : Nat) (x1 : Int32) (x2 : Int32) (w : Wd) : Option (Unit × Wd) := gR w (some o) 7 10 (fun v2 => gR w (some o) 7 13 (fun v7 => aI w v7 100 (((60 * x1) + x2) - 1) (fun v12 => aI w v2 100 ((8 * x1) + (v12 - v12 / 8 * 8)) (fun v18 => chk w (some o) 7 (fun a26 => bnd (f_X6_letter a26 1 v18 x1 w) (fun v23 w24 => gR w24 (some o) 7 34 (fun v30 => gR w24 (some o) 7 7 (fun v35 => aI w24 v35 100 x1 (fun v40 => tI w24 v30 100 v23 v40 (fun w46 => gR w46 (some o) 7 35 (fun v52 => tI w46 v52 100 v23 x2 (fun w57 => gR w57 (some o) 7 36 (fun v63 => chk w57 (some o) 7 (fun a70 => bnd (f_X6_first a70 x1 w57) (fun v67 w68 => tI w68 v63 100 v23 v67 (fun w74 => gR w74 (some o) 7 37 (fun v80 => gR w74 (some o) 7 13 (fun v85 => aI w74 v85 100 (((60 * x1) + x2) - 1) (fun v90 => tI w74 v80 100 v23 v90 (fun w96 => gR w96 (some o) 7 38 (fun v102 => gR w96 (some o) 7 14 (fun v107 => aI w96 v107 100 (((60 * x1) + x2) - 1) (fun v112 => tI w96 v102 100 v23 v112 (fun w118 => gR w118 (some o) 7 39 (fun v124 => gR w118 (some o) 7 15 (fun v129 => aL w118 v129 101 (((60 * x1) + x2) - 1) (fun v134 => tL w118 v124 101 v23 v134 (fun w140 => gR w140 (some o) 7 40 (fun v146 => gR w140 (some o) 7 16 (fun v151 => aL w140 v151 101 (((60 * x1) + x2) - 1) (fun v156 => tL w140 v146 101 v23 v156 (fun w162 => chk w162 (some o) 7 (fun a170 => bnd (f_X6_go a170 v23 w162) (fun v167 w168 => some ((), w168)))))))))))))))))))))))))))))))))))
set_option maxHeartbeats 4000000 in
set_option maxRecDepth 100000 in
theorem e_X6_request {l : Launch} {D : va_G} {aC : Nat → ClassId} {b0 : Nat} {p : Program} {e : Env} {s : State} {m : MethodId} {args : Array Value} {below : List Frame} {meth : Method} {c : Code} (X : Cx D aC p s m args meth c cX6_request RX6 5 "request" none) {res : (Unit × Wd)} (o : Nat) (x1 : Int32) (x2 : Int32) (w : Wd) : BW l D aC b0 p e rX6_request s m args below meth c (Qe D aC b0 below args s 0 0 none res.2) res 0 0 0 0 (f_X6_request o x1 x2 w) w 0 5 [(0, va_rf (some o)), (1, .int x1), (2, .int x2)] [] := by
  intro H locs cells slots ls hf M hS hc hs hl
  unfold f_X6_request at hf
  refine lv_bipush (v := 60) X.1 X.2.1 dX6_request_0 (by decide) ?_
  refine lv_iload_n X.1 X.2.1 dX6_request_2 rfl (lv_at hl 1 rfl) ?_
  refine lv_imul X.1 X.2.1 dX6_request_3 ?_
  refine lv_iload_n X.1 X.2.1 dX6_request_4 rfl (lv_at hl 2 rfl) ?_
  refine lv_iadd X.1 X.2.1 dX6_request_5 ?_
  refine lv_iconst (v := 1) X.1 X.2.1 dX6_request_6 (by decide) ?_
  refine lv_isub X.1 X.2.1 dX6_request_7 ?_
  refine lv_istore_n (i := 3) (lv' := [(3, .int (((60 * x1) + x2) - 1)), (0, va_rf (some o)), (1, .int x1), (2, .int x2)]) X.1 X.2.1 dX6_request_8 rfl hl (by decide) rfl (fun ls hl => ?_)
  refine q_aload_n X dX6_request_9 rfl (lv_at hl 1 rfl) ?_
  refine lv_iconst (v := 1) X.1 X.2.1 dX6_request_10 (by decide) ?_
  refine q_aload_n X dX6_request_11 rfl (lv_at hl 1 rfl) ?_
  have ho := gR_e hf
  clear hf
  obtain ⟨a1, v2, e3, k4, q5, hf⟩ := ho
  cases e3
  refine q_get X M flX6_19.g k4 (congrArg va_rf q5) dX6_request_12 ?_
  refine lv_bipush (v := 8) X.1 X.2.1 dX6_request_15 (by decide) ?_
  refine lv_iload_n X.1 X.2.1 dX6_request_17 rfl (lv_at hl 2 rfl) ?_
  refine lv_imul X.1 X.2.1 dX6_request_18 ?_
  refine q_aload_n X dX6_request_19 rfl (lv_at hl 1 rfl) ?_
  have ho := gR_e hf
  clear hf
  obtain ⟨a6, v7, e8, k9, q10, hf⟩ := ho
  cases e8
  refine q_get X M flX6_29.g k9 (congrArg va_rf q10) dX6_request_20 ?_
  refine lv_iload_n X.1 X.2.1 dX6_request_23 rfl (lv_at hl 0 rfl) ?_
  have ho := aI_e hf
  clear hf
  obtain ⟨a11, v12, e13, k14, i15, q16, hf⟩ := ho
  cases e13
  refine q_iald X M k14 i15 dX6_request_24 ?_
  rw [q16]
  refine lv_bipush (v := 8) X.1 X.2.1 dX6_request_25 (by decide) ?_
  refine lv_irem X.1 X.2.1 dX6_request_27 (by decide) ?_
  refine lv_iadd X.1 X.2.1 dX6_request_28 ?_
  have ho := aI_e hf
  clear hf
  obtain ⟨a17, v18, e19, k20, i21, q22, hf⟩ := ho
  cases e19
  refine q_iald X M k20 i21 dX6_request_29 ?_
  rw [q22]
  refine lv_iload_n X.1 X.2.1 dX6_request_30 rfl (lv_at hl 2 rfl) ?_
  have ho := chk_e hf
  clear hf
  obtain ⟨a26, e27, k28, hf⟩ := ho
  cases e27
  have ho := bnd_e hf
  clear hf
  obtain ⟨v23, w24, q25, hf⟩ := ho
  refine q_cV X M hS hl.1 (ci := 6) (r := (RX6, TX6, 53)) (As := [.int 1, .int v18, .int x1]) (m_X6_letter o 1 v18 x1 _ _ q25) mlX6_182 gm_258 gm_259 rfl (by decide) k28 rfl ⟨(Nat.le_of_ble_eq_true rfl), (Nat.le_of_ble_eq_true rfl)⟩ (rest := []) rfl (Nat.le_of_ble_eq_true rfl) (mc := 0) (ms := 0) (MC := 0) (MS := 0) rfl rfl rfl rfl (by omega) (by omega) dX6_request_31 (st2 := [.int v23]) rfl (fun H locs M hS => ?_)
  refine lv_istore (i := 4) (lv' := [(4, .int v23), (3, .int (((60 * x1) + x2) - 1)), (0, va_rf (some o)), (1, .int x1), (2, .int x2)]) X.1 X.2.1 dX6_request_34 hl (by decide) rfl (fun ls hl => ?_)
  refine q_aload_n X dX6_request_36 rfl (lv_at hl 2 rfl) ?_
  have ho := gR_e hf
  clear hf
  obtain ⟨a29, v30, e31, k32, q33, hf⟩ := ho
  cases e31
  refine q_get X M flX6_93.g k32 (congrArg va_rf q33) dX6_request_37 ?_
  refine lv_iload X.1 X.2.1 dX6_request_40 (lv_at hl 0 rfl) ?_
  refine q_aload_n X dX6_request_42 rfl (lv_at hl 2 rfl) ?_
  have ho := gR_e hf
  clear hf
  obtain ⟨a34, v35, e36, k37, q38, hf⟩ := ho
  cases e36
  refine q_get X M flX6_7.g k37 (congrArg va_rf q38) dX6_request_43 ?_
  refine lv_iload_n X.1 X.2.1 dX6_request_46 rfl (lv_at hl 3 rfl) ?_
  have ho := aI_e hf
  clear hf
  obtain ⟨a39, v40, e41, k42, i43, q44, hf⟩ := ho
  cases e41
  refine q_iald X M k42 i43 dX6_request_47 ?_
  rw [q44]
  have ho := tI_e hf
  clear hf
  obtain ⟨a45, w46, e47, k48, i49, q50, hf⟩ := ho
  cases e47
  refine q_iast X M hS k48 i49 dX6_request_48 (fun H locs M hS => ?_)
  rw [q50] at M
  refine q_aload_n X dX6_request_49 rfl (lv_at hl 2 rfl) ?_
  have ho := gR_e hf
  clear hf
  obtain ⟨a51, v52, e53, k54, q55, hf⟩ := ho
  cases e53
  refine q_get X M flX6_96.g k54 (congrArg va_rf q55) dX6_request_50 ?_
  refine lv_iload X.1 X.2.1 dX6_request_53 (lv_at hl 0 rfl) ?_
  refine lv_iload_n X.1 X.2.1 dX6_request_55 rfl (lv_at hl 4 rfl) ?_
  have ho := tI_e hf
  clear hf
  obtain ⟨a56, w57, e58, k59, i60, q61, hf⟩ := ho
  cases e58
  refine q_iast X M hS k59 i60 dX6_request_56 (fun H locs M hS => ?_)
  rw [q61] at M
  refine q_aload_n X dX6_request_57 rfl (lv_at hl 2 rfl) ?_
  have ho := gR_e hf
  clear hf
  obtain ⟨a62, v63, e64, k65, q66, hf⟩ := ho
  cases e64
  refine q_get X M flX6_99.g k65 (congrArg va_rf q66) dX6_request_58 ?_
  refine lv_iload X.1 X.2.1 dX6_request_61 (lv_at hl 0 rfl) ?_
  refine q_aload_n X dX6_request_63 rfl (lv_at hl 2 rfl) ?_
  refine lv_iload_n X.1 X.2.1 dX6_request_64 rfl (lv_at hl 3 rfl) ?_
  have ho := chk_e hf
  clear hf
  obtain ⟨a70, e71, k72, hf⟩ := ho
  cases e71
  have ho := bnd_e hf
  clear hf
  obtain ⟨v67, w68, q69, hf⟩ := ho
  refine q_cV X M hS hl.1 (ci := 6) (r := (RX6, TX6, 53)) (As := [.int x1]) (m_X6_first o x1 _ _ q69) mlX6_186 gm_263 gm_264 rfl (by decide) k72 rfl ⟨(Nat.le_of_ble_eq_true rfl), (Nat.le_of_ble_eq_true rfl)⟩ (rest := [.int v23, va_rf v63]) rfl (by simp [cat1, cati, catl]) (mc := 0) (ms := 0) (MC := 0) (MS := 0) rfl rfl rfl rfl (by omega) (by omega) dX6_request_65 (st2 := [.int v67, .int v23, va_rf v63]) rfl (fun H locs M hS => ?_)
  have ho := tI_e hf
  clear hf
  obtain ⟨a73, w74, e75, k76, i77, q78, hf⟩ := ho
  cases e75
  refine q_iast X M hS k76 i77 dX6_request_68 (fun H locs M hS => ?_)
  rw [q78] at M
  refine q_aload_n X dX6_request_69 rfl (lv_at hl 2 rfl) ?_
  have ho := gR_e hf
  clear hf
  obtain ⟨a79, v80, e81, k82, q83, hf⟩ := ho
  cases e81
  refine q_get X M flX6_102.g k82 (congrArg va_rf q83) dX6_request_70 ?_
  refine lv_iload X.1 X.2.1 dX6_request_73 (lv_at hl 0 rfl) ?_
  refine q_aload_n X dX6_request_75 rfl (lv_at hl 2 rfl) ?_
  have ho := gR_e hf
  clear hf
  obtain ⟨a84, v85, e86, k87, q88, hf⟩ := ho
  cases e86
  refine q_get X M flX6_29.g k87 (congrArg va_rf q88) dX6_request_76 ?_
  refine lv_iload_n X.1 X.2.1 dX6_request_79 rfl (lv_at hl 1 rfl) ?_
  have ho := aI_e hf
  clear hf
  obtain ⟨a89, v90, e91, k92, i93, q94, hf⟩ := ho
  cases e91
  refine q_iald X M k92 i93 dX6_request_80 ?_
  rw [q94]
  have ho := tI_e hf
  clear hf
  obtain ⟨a95, w96, e97, k98, i99, q100, hf⟩ := ho
  cases e97
  refine q_iast X M hS k98 i99 dX6_request_81 (fun H locs M hS => ?_)
  rw [q100] at M
  refine q_aload_n X dX6_request_82 rfl (lv_at hl 2 rfl) ?_
  have ho := gR_e hf
  clear hf
  obtain ⟨a101, v102, e103, k104, q105, hf⟩ := ho
  cases e103
  refine q_get X M flX6_105.g k104 (congrArg va_rf q105) dX6_request_83 ?_
  refine lv_iload X.1 X.2.1 dX6_request_86 (lv_at hl 0 rfl) ?_
  refine q_aload_n X dX6_request_88 rfl (lv_at hl 2 rfl) ?_
  have ho := gR_e hf
  clear hf
  obtain ⟨a106, v107, e108, k109, q110, hf⟩ := ho
  cases e108
  refine q_get X M flX6_32.g k109 (congrArg va_rf q110) dX6_request_89 ?_
  refine lv_iload_n X.1 X.2.1 dX6_request_92 rfl (lv_at hl 1 rfl) ?_
  have ho := aI_e hf
  clear hf
  obtain ⟨a111, v112, e113, k114, i115, q116, hf⟩ := ho
  cases e113
  refine q_iald X M k114 i115 dX6_request_93 ?_
  rw [q116]
  have ho := tI_e hf
  clear hf
  obtain ⟨a117, w118, e119, k120, i121, q122, hf⟩ := ho
  cases e119
  refine q_iast X M hS k120 i121 dX6_request_94 (fun H locs M hS => ?_)
  rw [q122] at M
  refine q_aload_n X dX6_request_95 rfl (lv_at hl 2 rfl) ?_
  have ho := gR_e hf
  clear hf
  obtain ⟨a123, v124, e125, k126, q127, hf⟩ := ho
  cases e125
  refine q_get X M flX6_108.g k126 (congrArg va_rf q127) dX6_request_96 ?_
  refine lv_iload X.1 X.2.1 dX6_request_99 (lv_at hl 0 rfl) ?_
  refine q_aload_n X dX6_request_101 rfl (lv_at hl 2 rfl) ?_
  have ho := gR_e hf
  clear hf
  obtain ⟨a128, v129, e130, k131, q132, hf⟩ := ho
  cases e130
  refine q_get X M flX6_35.g k131 (congrArg va_rf q132) dX6_request_102 ?_
  refine lv_iload_n X.1 X.2.1 dX6_request_105 rfl (lv_at hl 1 rfl) ?_
  have ho := aL_e hf
  clear hf
  obtain ⟨a133, v134, e135, k136, i137, q138, hf⟩ := ho
  cases e135
  refine q_lald X M k136 i137 dX6_request_106 ?_
  rw [q138]
  have ho := tL_e hf
  clear hf
  obtain ⟨a139, w140, e141, k142, i143, q144, hf⟩ := ho
  cases e141
  refine q_last X M hS k142 i143 dX6_request_107 (fun H locs M hS => ?_)
  rw [q144] at M
  refine q_aload_n X dX6_request_108 rfl (lv_at hl 2 rfl) ?_
  have ho := gR_e hf
  clear hf
  obtain ⟨a145, v146, e147, k148, q149, hf⟩ := ho
  cases e147
  refine q_get X M flX6_111.g k148 (congrArg va_rf q149) dX6_request_109 ?_
  refine lv_iload X.1 X.2.1 dX6_request_112 (lv_at hl 0 rfl) ?_
  refine q_aload_n X dX6_request_114 rfl (lv_at hl 2 rfl) ?_
  have ho := gR_e hf
  clear hf
  obtain ⟨a150, v151, e152, k153, q154, hf⟩ := ho
  cases e152
  refine q_get X M flX6_38.g k153 (congrArg va_rf q154) dX6_request_115 ?_
  refine lv_iload_n X.1 X.2.1 dX6_request_118 rfl (lv_at hl 1 rfl) ?_
  have ho := aL_e hf
  clear hf
  obtain ⟨a155, v156, e157, k158, i159, q160, hf⟩ := ho
  cases e157
  refine q_lald X M k158 i159 dX6_request_119 ?_
  rw [q160]
  have ho := tL_e hf
  clear hf
  obtain ⟨a161, w162, e163, k164, i165, q166, hf⟩ := ho
  cases e163
  refine q_last X M hS k164 i165 dX6_request_120 (fun H locs M hS => ?_)
  rw [q166] at M
  refine q_aload_n X dX6_request_121 rfl (lv_at hl 2 rfl) ?_
  refine lv_iload X.1 X.2.1 dX6_request_122 (lv_at hl 0 rfl) ?_
  have ho := chk_e hf
  clear hf
  obtain ⟨a170, e171, k172, hf⟩ := ho
  cases e171
  have ho := bnd_e hf
  clear hf
  obtain ⟨v167, w168, q169, hf⟩ := ho
  refine q_cV X M hS hl.1 (ci := 6) (r := (RX6, TX6, 53)) (As := [.int v23]) (m_X6_go o v23 _ _ q169) mlX6_168 gm_267 gm_268 rfl (by decide) k172 rfl ⟨(Nat.le_of_ble_eq_true rfl), (Nat.le_of_ble_eq_true rfl)⟩ (rest := []) rfl (Nat.le_of_ble_eq_true rfl) (mc := 0) (ms := 0) (MC := 0) (MS := 0) rfl rfl rfl rfl (by omega) (by omega) dX6_request_124 (st2 := []) rfl (fun H locs M hS => ?_)
  obtain rfl := Option.some.inj hf
  exact q_vret X M hS (by omega) (by omega) dX6_request_127
theorem m_X6_request {l : Launch} {D : va_G} {aC : Nat → ClassId} {b0 : Nat} {w : Wd} (o : Nat) (x1 : Int32) (x2 : Int32) (v : Unit) (w' : Wd) (hf : f_X6_request o x1 x2 w = some (v, w')) : Ct l D aC b0 yX6_request (Cond.code yX6_request cX6_request 5 none :: Gw) rX6_request [va_rf (some o), .int x1, .int x2] w none w' :=
  q_met (by decide) (Nat.le_of_ble_eq_true rfl) (fun p e s m below meth c X M ls hl => e_X6_request X (res := (v, w')) o x1 x2 w s.heap [] 0 0 ls hf M va_S.rf (by decide) (by decide) hl)
abbrev rX6_call : Room := { frames := 2, cells := 0, slots := 0, locals := 48 }
def f_X6_call (o : Nat) (x1 : Int32) (x2 : Int32) (x3 : Int32) (x4 : Int64) (x6 : Int64) (w : Wd) : Option (Int32 × Wd) := bnd (f_X6_isClient x1 w) (fun v1 w2 => if v1 = 0 then (some ((-1), w2)) else (bnd (f_X6_in x2 0 31 w2) (fun v5 w6 => if v5 = 0 then (some ((-1), w6)) else (bnd (f_X6_in x3 0 3 w6) (fun v9 w10 => if v9 = 0 then (some ((-1), w10)) else (gR w10 (some o) 7 7 (fun v14 => aI w10 v14 100 x1 (fun v19 => if v19 = 0 then (some ((-3), w10)) else (chk w10 (some o) 7 (fun a28 => bnd (f_X6_waiting a28 x1 w10) (fun v25 w26 => if v25 = 4 then (some ((-2), w26)) else (gR w26 (some o) 7 9 (fun v33 => aI w26 v33 100 x1 (fun v38 => if v38 = 60 then (some ((-2), w26)) else (gR w26 (some o) 7 9 (fun v45 => aI w26 v45 100 x1 (fun v50 => gR w26 (some o) 7 9 (fun v56 => aI w26 v56 100 x1 (fun v61 => tI w26 v56 100 x1 (v61 + 1) (fun w67 => gR w67 (some o) 7 11 (fun v73 => tI w67 v73 100 ((60 * x1) + v50) 0 (fun w78 => gR w78 (some o) 7 12 (fun v84 => tL w78 v84 101 ((60 * x1) + v50) 0 (fun w89 => gR w89 (some o) 7 13 (fun v95 => tI w89 v95 100 ((60 * x1) + v50) x2 (fun w100 => gR w100 (some o) 7 14 (fun v106 => tI w100 v106 100 ((60 * x1) + v50) x3 (fun w111 => gR w111 (some o) 7 15 (fun v117 => tL w111 v117 101 ((60 * x1) + v50) x4 (fun w122 => gR w122 (some o) 7 16 (fun v128 => tL w122 v128 101 ((60 * x1) + v50) x6 (fun w133 => gR w133 (some o) 7 9 (fun v139 => aI w133 v139 100 x1 (fun v144 => chk w133 (some o) 7 (fun a152 => bnd (f_X6_request a152 x1 v144 w133) (fun v149 w150 => gR w150 (some o) 7 9 (fun v156 => aI w150 v156 100 x1 (fun v161 => some (v161, w150)))))))))))))))))))))))))))))))))))))))
set_option maxHeartbeats 4000000 in
set_option maxRecDepth 100000 in
theorem e_X6_call {l : Launch} {D : va_G} {aC : Nat → ClassId} {b0 : Nat} {p : Program} {e : Env} {s : State} {m : MethodId} {args : Array Value} {below : List Frame} {meth : Method} {c : Code} (X : Cx D aC p s m args meth c cX6_call RX6 9 "call" (some .int)) {res : (Int32 × Wd)} (o : Nat) (x1 : Int32) (x2 : Int32) (x3 : Int32) (x4 : Int64) (x6 : Int64) (w : Wd) : BW l D aC b0 p e rX6_call s m args below meth c (Qe D aC b0 below args s 0 0 (some (.int res.1)) res.2) res 0 0 0 0 (f_X6_call o x1 x2 x3 x4 x6 w) w 0 9 [(0, va_rf (some o)), (1, .int x1), (2, .int x2), (3, .int x3), (4, .long x4), (6, .long x6)] [] := by
  intro H locs cells slots ls hf M hS hc hs hl
  unfold f_X6_call at hf
  refine lv_iload_n X.1 X.2.1 dX6_call_0 rfl (lv_at hl 1 rfl) ?_
  have ho := bnd_e hf
  clear hf
  obtain ⟨v1, w2, q3, hf⟩ := ho
  refine q_cS X M hS hl.1 (As := [.int x1]) (m_X6_isClient x1 _ _ q3) mlX6_172 gm_168 rfl ⟨(Nat.le_of_ble_eq_true rfl), (Nat.le_of_ble_eq_true rfl)⟩ (rest := []) rfl (Nat.le_of_ble_eq_true rfl) (mc := 0) (ms := 0) (MC := 0) (MS := 0) rfl rfl rfl rfl (by omega) (by omega) dX6_call_1 (st2 := [.int v1]) rfl (fun H locs M hS => ?_)
  refine lv_if_eq (tgt := 26) X.1 X.2.1 dX6_call_4 (by decide) (fun c4 => ?_) (fun c4 => ?_)
  · rw [if_pos c4] at hf
    refine lv_iconst (v := (-1)) X.1 X.2.1 dX6_call_26 (by decide) ?_
    obtain rfl := Option.some.inj hf
    exact q_iret X M hS (by omega) (by omega) dX6_call_27
  · rw [if_neg c4] at hf
    refine lv_iload_n X.1 X.2.1 dX6_call_7 rfl (lv_at hl 2 rfl) ?_
    refine lv_iconst (v := 0) X.1 X.2.1 dX6_call_8 (by decide) ?_
    refine lv_bipush (v := 31) X.1 X.2.1 dX6_call_9 (by decide) ?_
    have ho := bnd_e hf
    clear hf
    obtain ⟨v5, w6, q7, hf⟩ := ho
    refine q_cS X M hS hl.1 (As := [.int x2, .int 0, .int 31]) (m_X6_in x2 0 31 _ _ q7) mlX6_152 gm_171 rfl ⟨(Nat.le_of_ble_eq_true rfl), (Nat.le_of_ble_eq_true rfl)⟩ (rest := []) rfl (Nat.le_of_ble_eq_true rfl) (mc := 0) (ms := 0) (MC := 0) (MS := 0) rfl rfl rfl rfl (by omega) (by omega) dX6_call_11 (st2 := [.int v5]) rfl (fun H locs M hS => ?_)
    refine lv_if_eq (tgt := 26) X.1 X.2.1 dX6_call_14 (by decide) (fun c8 => ?_) (fun c8 => ?_)
    · rw [if_pos c8] at hf
      refine lv_iconst (v := (-1)) X.1 X.2.1 dX6_call_26 (by decide) ?_
      obtain rfl := Option.some.inj hf
      exact q_iret X M hS (by omega) (by omega) dX6_call_27
    · rw [if_neg c8] at hf
      refine lv_iload_n X.1 X.2.1 dX6_call_17 rfl (lv_at hl 3 rfl) ?_
      refine lv_iconst (v := 0) X.1 X.2.1 dX6_call_18 (by decide) ?_
      refine lv_iconst (v := 3) X.1 X.2.1 dX6_call_19 (by decide) ?_
      have ho := bnd_e hf
      clear hf
      obtain ⟨v9, w10, q11, hf⟩ := ho
      refine q_cS X M hS hl.1 (As := [.int x3, .int 0, .int 3]) (m_X6_in x3 0 3 _ _ q11) mlX6_152 gm_171 rfl ⟨(Nat.le_of_ble_eq_true rfl), (Nat.le_of_ble_eq_true rfl)⟩ (rest := []) rfl (Nat.le_of_ble_eq_true rfl) (mc := 0) (ms := 0) (MC := 0) (MS := 0) rfl rfl rfl rfl (by omega) (by omega) dX6_call_20 (st2 := [.int v9]) rfl (fun H locs M hS => ?_)
      refine lv_if_ne (tgt := 28) X.1 X.2.1 dX6_call_23 (by decide) (fun c12 => ?_) (fun c12 => ?_)
      · rw [if_neg c12] at hf
        refine q_aload_n X dX6_call_28 rfl (lv_at hl 0 rfl) ?_
        have ho := gR_e hf
        clear hf
        obtain ⟨a13, v14, e15, k16, q17, hf⟩ := ho
        cases e15
        refine q_get X M flX6_7.g k16 (congrArg va_rf q17) dX6_call_29 ?_
        refine lv_iload_n X.1 X.2.1 dX6_call_32 rfl (lv_at hl 1 rfl) ?_
        have ho := aI_e hf
        clear hf
        obtain ⟨a18, v19, e20, k21, i22, q23, hf⟩ := ho
        cases e20
        refine q_iald X M k21 i22 dX6_call_33 ?_
        rw [q23]
        refine lv_if_ne (tgt := 40) X.1 X.2.1 dX6_call_34 (by decide) (fun c24 => ?_) (fun c24 => ?_)
        · rw [if_neg c24] at hf
          refine q_aload_n X dX6_call_40 rfl (lv_at hl 0 rfl) ?_
          refine lv_iload_n X.1 X.2.1 dX6_call_41 rfl (lv_at hl 1 rfl) ?_
          have ho := chk_e hf
          clear hf
          obtain ⟨a28, e29, k30, hf⟩ := ho
          cases e29
          have ho := bnd_e hf
          clear hf
          obtain ⟨v25, w26, q27, hf⟩ := ho
          refine q_cV X M hS hl.1 (ci := 6) (r := (RX6, TX6, 53)) (As := [.int x1]) (m_X6_waiting o x1 _ _ q27) mlX6_190 gm_250 gm_251 rfl (by decide) k30 rfl ⟨(Nat.le_of_ble_eq_true rfl), (Nat.le_of_ble_eq_true rfl)⟩ (rest := []) rfl (Nat.le_of_ble_eq_true rfl) (mc := 0) (ms := 0) (MC := 0) (MS := 0) rfl rfl rfl rfl (by omega) (by omega) dX6_call_42 (st2 := [.int v25]) rfl (fun H locs M hS => ?_)
          refine lv_iconst (v := 4) X.1 X.2.1 dX6_call_45 (by decide) ?_
          refine lv_icmp_eq (tgt := 60) X.1 X.2.1 dX6_call_46 (by decide) (fun c31 => ?_) (fun c31 => ?_)
          · rw [if_pos c31] at hf
            refine lv_bipush (v := (-2)) X.1 X.2.1 dX6_call_60 (by decide) ?_
            obtain rfl := Option.some.inj hf
            exact q_iret X M hS (by omega) (by omega) dX6_call_62
          · rw [if_neg c31] at hf
            refine q_aload_n X dX6_call_49 rfl (lv_at hl 0 rfl) ?_
            have ho := gR_e hf
            clear hf
            obtain ⟨a32, v33, e34, k35, q36, hf⟩ := ho
            cases e34
            refine q_get X M flX6_16.g k35 (congrArg va_rf q36) dX6_call_50 ?_
            refine lv_iload_n X.1 X.2.1 dX6_call_53 rfl (lv_at hl 1 rfl) ?_
            have ho := aI_e hf
            clear hf
            obtain ⟨a37, v38, e39, k40, i41, q42, hf⟩ := ho
            cases e39
            refine q_iald X M k40 i41 dX6_call_54 ?_
            rw [q42]
            refine lv_bipush (v := 60) X.1 X.2.1 dX6_call_55 (by decide) ?_
            refine lv_icmp_ne (tgt := 63) X.1 X.2.1 dX6_call_57 (by decide) (fun c43 => ?_) (fun c43 => ?_)
            · rw [if_neg c43] at hf
              refine lv_bipush (v := 60) X.1 X.2.1 dX6_call_63 (by decide) ?_
              refine lv_iload_n X.1 X.2.1 dX6_call_65 rfl (lv_at hl 1 rfl) ?_
              refine lv_imul X.1 X.2.1 dX6_call_66 ?_
              refine q_aload_n X dX6_call_67 rfl (lv_at hl 0 rfl) ?_
              have ho := gR_e hf
              clear hf
              obtain ⟨a44, v45, e46, k47, q48, hf⟩ := ho
              cases e46
              refine q_get X M flX6_16.g k47 (congrArg va_rf q48) dX6_call_68 ?_
              refine lv_iload_n X.1 X.2.1 dX6_call_71 rfl (lv_at hl 1 rfl) ?_
              have ho := aI_e hf
              clear hf
              obtain ⟨a49, v50, e51, k52, i53, q54, hf⟩ := ho
              cases e51
              refine q_iald X M k52 i53 dX6_call_72 ?_
              rw [q54]
              refine lv_iadd X.1 X.2.1 dX6_call_73 ?_
              refine lv_istore (i := 8) (lv' := [(8, .int ((60 * x1) + v50)), (0, va_rf (some o)), (1, .int x1), (2, .int x2), (3, .int x3), (4, .long x4), (6, .long x6)]) X.1 X.2.1 dX6_call_74 hl (by decide) rfl (fun ls hl => ?_)
              refine q_aload_n X dX6_call_76 rfl (lv_at hl 1 rfl) ?_
              have ho := gR_e hf
              clear hf
              obtain ⟨a55, v56, e57, k58, q59, hf⟩ := ho
              cases e57
              refine q_get X M flX6_16.g k58 (congrArg va_rf q59) dX6_call_77 ?_
              refine lv_iload_n X.1 X.2.1 dX6_call_80 rfl (lv_at hl 2 rfl) ?_
              refine lv_dup2_11 X.1 X.2.1 dX6_call_81 rfl (cat1 _) ?_
              have ho := aI_e hf
              clear hf
              obtain ⟨a60, v61, e62, k63, i64, q65, hf⟩ := ho
              cases e62
              refine q_iald X M k63 i64 dX6_call_82 ?_
              rw [q65]
              refine lv_iconst (v := 1) X.1 X.2.1 dX6_call_83 (by decide) ?_
              refine lv_iadd X.1 X.2.1 dX6_call_84 ?_
              have ho := tI_e hf
              clear hf
              obtain ⟨a66, w67, e68, k69, i70, q71, hf⟩ := ho
              cases e68
              refine q_iast X M hS k69 i70 dX6_call_85 (fun H locs M hS => ?_)
              rw [q71] at M
              refine q_aload_n X dX6_call_86 rfl (lv_at hl 1 rfl) ?_
              have ho := gR_e hf
              clear hf
              obtain ⟨a72, v73, e74, k75, q76, hf⟩ := ho
              cases e74
              refine q_get X M flX6_22.g k75 (congrArg va_rf q76) dX6_call_87 ?_
              refine lv_iload X.1 X.2.1 dX6_call_90 (lv_at hl 0 rfl) ?_
              refine lv_iconst (v := 0) X.1 X.2.1 dX6_call_92 (by decide) ?_
              have ho := tI_e hf
              clear hf
              obtain ⟨a77, w78, e79, k80, i81, q82, hf⟩ := ho
              cases e79
              refine q_iast X M hS k80 i81 dX6_call_93 (fun H locs M hS => ?_)
              rw [q82] at M
              refine q_aload_n X dX6_call_94 rfl (lv_at hl 1 rfl) ?_
              have ho := gR_e hf
              clear hf
              obtain ⟨a83, v84, e85, k86, q87, hf⟩ := ho
              cases e85
              refine q_get X M flX6_25.g k86 (congrArg va_rf q87) dX6_call_95 ?_
              refine lv_iload X.1 X.2.1 dX6_call_98 (lv_at hl 0 rfl) ?_
              refine lv_lconst (v := 0) X.1 X.2.1 dX6_call_100 (by decide) ?_
              have ho := tL_e hf
              clear hf
              obtain ⟨a88, w89, e90, k91, i92, q93, hf⟩ := ho
              cases e90
              refine q_last X M hS k91 i92 dX6_call_101 (fun H locs M hS => ?_)
              rw [q93] at M
              refine q_aload_n X dX6_call_102 rfl (lv_at hl 1 rfl) ?_
              have ho := gR_e hf
              clear hf
              obtain ⟨a94, v95, e96, k97, q98, hf⟩ := ho
              cases e96
              refine q_get X M flX6_29.g k97 (congrArg va_rf q98) dX6_call_103 ?_
              refine lv_iload X.1 X.2.1 dX6_call_106 (lv_at hl 0 rfl) ?_
              refine lv_iload_n X.1 X.2.1 dX6_call_108 rfl (lv_at hl 3 rfl) ?_
              have ho := tI_e hf
              clear hf
              obtain ⟨a99, w100, e101, k102, i103, q104, hf⟩ := ho
              cases e101
              refine q_iast X M hS k102 i103 dX6_call_109 (fun H locs M hS => ?_)
              rw [q104] at M
              refine q_aload_n X dX6_call_110 rfl (lv_at hl 1 rfl) ?_
              have ho := gR_e hf
              clear hf
              obtain ⟨a105, v106, e107, k108, q109, hf⟩ := ho
              cases e107
              refine q_get X M flX6_32.g k108 (congrArg va_rf q109) dX6_call_111 ?_
              refine lv_iload X.1 X.2.1 dX6_call_114 (lv_at hl 0 rfl) ?_
              refine lv_iload_n X.1 X.2.1 dX6_call_116 rfl (lv_at hl 4 rfl) ?_
              have ho := tI_e hf
              clear hf
              obtain ⟨a110, w111, e112, k113, i114, q115, hf⟩ := ho
              cases e112
              refine q_iast X M hS k113 i114 dX6_call_117 (fun H locs M hS => ?_)
              rw [q115] at M
              refine q_aload_n X dX6_call_118 rfl (lv_at hl 1 rfl) ?_
              have ho := gR_e hf
              clear hf
              obtain ⟨a116, v117, e118, k119, q120, hf⟩ := ho
              cases e118
              refine q_get X M flX6_35.g k119 (congrArg va_rf q120) dX6_call_119 ?_
              refine lv_iload X.1 X.2.1 dX6_call_122 (lv_at hl 0 rfl) ?_
              refine lv_lload X.1 X.2.1 dX6_call_124 (lv_at hl 5 rfl) ?_
              have ho := tL_e hf
              clear hf
              obtain ⟨a121, w122, e123, k124, i125, q126, hf⟩ := ho
              cases e123
              refine q_last X M hS k124 i125 dX6_call_126 (fun H locs M hS => ?_)
              rw [q126] at M
              refine q_aload_n X dX6_call_127 rfl (lv_at hl 1 rfl) ?_
              have ho := gR_e hf
              clear hf
              obtain ⟨a127, v128, e129, k130, q131, hf⟩ := ho
              cases e129
              refine q_get X M flX6_38.g k130 (congrArg va_rf q131) dX6_call_128 ?_
              refine lv_iload X.1 X.2.1 dX6_call_131 (lv_at hl 0 rfl) ?_
              refine lv_lload X.1 X.2.1 dX6_call_133 (lv_at hl 6 rfl) ?_
              have ho := tL_e hf
              clear hf
              obtain ⟨a132, w133, e134, k135, i136, q137, hf⟩ := ho
              cases e134
              refine q_last X M hS k135 i136 dX6_call_135 (fun H locs M hS => ?_)
              rw [q137] at M
              refine q_aload_n X dX6_call_136 rfl (lv_at hl 1 rfl) ?_
              refine lv_iload_n X.1 X.2.1 dX6_call_137 rfl (lv_at hl 2 rfl) ?_
              refine q_aload_n X dX6_call_138 rfl (lv_at hl 1 rfl) ?_
              have ho := gR_e hf
              clear hf
              obtain ⟨a138, v139, e140, k141, q142, hf⟩ := ho
              cases e140
              refine q_get X M flX6_16.g k141 (congrArg va_rf q142) dX6_call_139 ?_
              refine lv_iload_n X.1 X.2.1 dX6_call_142 rfl (lv_at hl 2 rfl) ?_
              have ho := aI_e hf
              clear hf
              obtain ⟨a143, v144, e145, k146, i147, q148, hf⟩ := ho
              cases e145
              refine q_iald X M k146 i147 dX6_call_143 ?_
              rw [q148]
              have ho := chk_e hf
              clear hf
              obtain ⟨a152, e153, k154, hf⟩ := ho
              cases e153
              have ho := bnd_e hf
              clear hf
              obtain ⟨v149, w150, q151, hf⟩ := ho
              refine q_cV X M hS hl.1 (ci := 6) (r := (RX6, TX6, 53)) (As := [.int x1, .int v144]) (m_X6_request o x1 v144 _ _ q151) mlX6_193 gm_254 gm_255 rfl (by decide) k154 rfl ⟨(Nat.le_of_ble_eq_true rfl), (Nat.le_of_ble_eq_true rfl)⟩ (rest := []) rfl (Nat.le_of_ble_eq_true rfl) (mc := 0) (ms := 0) (MC := 0) (MS := 0) rfl rfl rfl rfl (by omega) (by omega) dX6_call_144 (st2 := []) rfl (fun H locs M hS => ?_)
              refine q_aload_n X dX6_call_147 rfl (lv_at hl 1 rfl) ?_
              have ho := gR_e hf
              clear hf
              obtain ⟨a155, v156, e157, k158, q159, hf⟩ := ho
              cases e157
              refine q_get X M flX6_16.g k158 (congrArg va_rf q159) dX6_call_148 ?_
              refine lv_iload_n X.1 X.2.1 dX6_call_151 rfl (lv_at hl 2 rfl) ?_
              have ho := aI_e hf
              clear hf
              obtain ⟨a160, v161, e162, k163, i164, q165, hf⟩ := ho
              cases e162
              refine q_iald X M k163 i164 dX6_call_152 ?_
              rw [q165]
              obtain rfl := Option.some.inj hf
              exact q_iret X M hS (by omega) (by omega) dX6_call_153
            · rw [if_pos c43] at hf
              refine lv_bipush (v := (-2)) X.1 X.2.1 dX6_call_60 (by decide) ?_
              obtain rfl := Option.some.inj hf
              exact q_iret X M hS (by omega) (by omega) dX6_call_62
        · rw [if_pos c24] at hf
          refine lv_bipush (v := (-3)) X.1 X.2.1 dX6_call_37 (by decide) ?_
          obtain rfl := Option.some.inj hf
          exact q_iret X M hS (by omega) (by omega) dX6_call_39
      · rw [if_pos c12] at hf
        refine lv_iconst (v := (-1)) X.1 X.2.1 dX6_call_26 (by decide) ?_
        obtain rfl := Option.some.inj hf
        exact q_iret X M hS (by omega) (by omega) dX6_call_27
theorem m_X6_call {l : Launch} {D : va_G} {aC : Nat → ClassId} {b0 : Nat} {w : Wd} (o : Nat) (x1 : Int32) (x2 : Int32) (x3 : Int32) (x4 : Int64) (x6 : Int64) (v : Int32) (w' : Wd) (hf : f_X6_call o x1 x2 x3 x4 x6 w = some (v, w')) : Ct l D aC b0 yX6_call (Cond.code yX6_call cX6_call 9 (some .int) :: Gw) rX6_call [va_rf (some o), .int x1, .int x2, .int x3, .long x4, .long x6] w (some (.int v)) w' :=
  q_met (by decide) (Nat.le_of_ble_eq_true rfl) (fun p e s m below meth c X M ls hl => e_X6_call X (res := (v, w')) o x1 x2 x3 x4 x6 w s.heap [] 0 0 ls hf M va_S.rf (by decide) (by decide) hl)
abbrev rX6_isCall : Room := { frames := 2, cells := 0, slots := 0, locals := 42 }
def f_X6_isCall (o : Nat) (x1 : Int32) (x2 : Int32) (w : Wd) : Option (Int32 × Wd) := bnd (f_X6_isClient x1 w) (fun v1 w2 => if v1 = 0 then (retZ 0 w2) else (gR w2 (some o) 7 9 (fun v7 => aI w2 v7 100 x1 (fun v12 => bnd (f_X6_in x2 1 v12 w2) (fun v17 w18 => if v17 = 0 then (retZ 0 w18) else (retZ 1 w18))))))
set_option maxHeartbeats 4000000 in
set_option maxRecDepth 100000 in
theorem e_X6_isCall {l : Launch} {D : va_G} {aC : Nat → ClassId} {b0 : Nat} {p : Program} {e : Env} {s : State} {m : MethodId} {args : Array Value} {below : List Frame} {meth : Method} {c : Code} (X : Cx D aC p s m args meth c cX6_isCall RX6 3 "isCall" (some .boolean)) {res : (Int32 × Wd)} (o : Nat) (x1 : Int32) (x2 : Int32) (w : Wd) : BW l D aC b0 p e rX6_isCall s m args below meth c (Qe D aC b0 below args s 0 0 (some (.int res.1)) res.2) res 0 0 0 0 (f_X6_isCall o x1 x2 w) w 0 3 [(0, va_rf (some o)), (1, .int x1), (2, .int x2)] [] := by
  intro H locs cells slots ls hf M hS hc hs hl
  unfold f_X6_isCall at hf
  refine lv_iload_n X.1 X.2.1 dX6_isCall_0 rfl (lv_at hl 1 rfl) ?_
  have ho := bnd_e hf
  clear hf
  obtain ⟨v1, w2, q3, hf⟩ := ho
  refine q_cS X M hS hl.1 (As := [.int x1]) (m_X6_isClient x1 _ _ q3) mlX6_172 gm_168 rfl ⟨(Nat.le_of_ble_eq_true rfl), (Nat.le_of_ble_eq_true rfl)⟩ (rest := []) rfl (Nat.le_of_ble_eq_true rfl) (mc := 0) (ms := 0) (MC := 0) (MS := 0) rfl rfl rfl rfl (by omega) (by omega) dX6_isCall_1 (st2 := [.int v1]) rfl (fun H locs M hS => ?_)
  refine lv_if_eq (tgt := 25) X.1 X.2.1 dX6_isCall_4 (by decide) (fun c4 => ?_) (fun c4 => ?_)
  · rw [if_pos c4] at hf
    refine lv_iconst (v := 0) X.1 X.2.1 dX6_isCall_25 (by decide) ?_
    have ho := retZ_e hf
    clear hf
    obtain ⟨z5, rfl⟩ := ho
    exact q_zret X M hS (by omega) (by omega) z5 dX6_isCall_26
  · rw [if_neg c4] at hf
    refine lv_iload_n X.1 X.2.1 dX6_isCall_7 rfl (lv_at hl 2 rfl) ?_
    refine lv_iconst (v := 1) X.1 X.2.1 dX6_isCall_8 (by decide) ?_
    refine q_aload_n X dX6_isCall_9 rfl (lv_at hl 0 rfl) ?_
    have ho := gR_e hf
    clear hf
    obtain ⟨a6, v7, e8, k9, q10, hf⟩ := ho
    cases e8
    refine q_get X M flX6_16.g k9 (congrArg va_rf q10) dX6_isCall_10 ?_
    refine lv_iload_n X.1 X.2.1 dX6_isCall_13 rfl (lv_at hl 1 rfl) ?_
    have ho := aI_e hf
    clear hf
    obtain ⟨a11, v12, e13, k14, i15, q16, hf⟩ := ho
    cases e13
    refine q_iald X M k14 i15 dX6_isCall_14 ?_
    rw [q16]
    have ho := bnd_e hf
    clear hf
    obtain ⟨v17, w18, q19, hf⟩ := ho
    refine q_cS X M hS hl.1 (As := [.int x2, .int 1, .int v12]) (m_X6_in x2 1 v12 _ _ q19) mlX6_152 gm_171 rfl ⟨(Nat.le_of_ble_eq_true rfl), (Nat.le_of_ble_eq_true rfl)⟩ (rest := []) rfl (Nat.le_of_ble_eq_true rfl) (mc := 0) (ms := 0) (MC := 0) (MS := 0) rfl rfl rfl rfl (by omega) (by omega) dX6_isCall_15 (st2 := [.int v17]) rfl (fun H locs M hS => ?_)
    refine lv_if_eq (tgt := 25) X.1 X.2.1 dX6_isCall_18 (by decide) (fun c20 => ?_) (fun c20 => ?_)
    · rw [if_pos c20] at hf
      refine lv_iconst (v := 0) X.1 X.2.1 dX6_isCall_25 (by decide) ?_
      have ho := retZ_e hf
      clear hf
      obtain ⟨z21, rfl⟩ := ho
      exact q_zret X M hS (by omega) (by omega) z21 dX6_isCall_26
    · rw [if_neg c20] at hf
      refine lv_iconst (v := 1) X.1 X.2.1 dX6_isCall_21 (by decide) ?_
      refine lv_goto (tgt := 26) X.1 X.2.1 dX6_isCall_22 (by decide) ?_
      have ho := retZ_e hf
      clear hf
      obtain ⟨z22, rfl⟩ := ho
      exact q_zret X M hS (by omega) (by omega) z22 dX6_isCall_26
theorem m_X6_isCall {l : Launch} {D : va_G} {aC : Nat → ClassId} {b0 : Nat} {w : Wd} (o : Nat) (x1 : Int32) (x2 : Int32) (v : Int32) (w' : Wd) (hf : f_X6_isCall o x1 x2 w = some (v, w')) : Ct l D aC b0 yX6_isCall (Cond.code yX6_isCall cX6_isCall 3 (some .boolean) :: Gw) rX6_isCall [va_rf (some o), .int x1, .int x2] w (some (.int v)) w' :=
  q_met (by decide) (Nat.le_of_ble_eq_true rfl) (fun p e s m below meth c X M ls hl => e_X6_isCall X (res := (v, w')) o x1 x2 w s.heap [] 0 0 ls hf M va_S.rf (by decide) (by decide) hl)
abbrev rX6_retry : Room := { frames := 3, cells := 0, slots := 0, locals := 64 }
def f_X6_retry (o : Nat) (x1 : Int32) (x2 : Int32) (w : Wd) : Option (Int32 × Wd) := chk w (some o) 7 (fun a4 => bnd (f_X6_isCall a4 x1 x2 w) (fun v1 w2 => if v1 = 0 then (some ((-1), w2)) else (gR w2 (some o) 7 11 (fun v9 => aI w2 v9 100 (((60 * x1) + x2) - 1) (fun v14 => if v14 = 0 then (chk w2 (some o) 7 (fun a23 => bnd (f_X6_request a23 x1 x2 w2) (fun v20 w21 => some (1, w21)))) else (some (0, w2)))))))
set_option maxHeartbeats 4000000 in
set_option maxRecDepth 100000 in
theorem e_X6_retry {l : Launch} {D : va_G} {aC : Nat → ClassId} {b0 : Nat} {p : Program} {e : Env} {s : State} {m : MethodId} {args : Array Value} {below : List Frame} {meth : Method} {c : Code} (X : Cx D aC p s m args meth c cX6_retry RX6 3 "retry" (some .int)) {res : (Int32 × Wd)} (o : Nat) (x1 : Int32) (x2 : Int32) (w : Wd) : BW l D aC b0 p e rX6_retry s m args below meth c (Qe D aC b0 below args s 0 0 (some (.int res.1)) res.2) res 0 0 0 0 (f_X6_retry o x1 x2 w) w 0 3 [(0, va_rf (some o)), (1, .int x1), (2, .int x2)] [] := by
  intro H locs cells slots ls hf M hS hc hs hl
  unfold f_X6_retry at hf
  refine q_aload_n X dX6_retry_0 rfl (lv_at hl 0 rfl) ?_
  refine lv_iload_n X.1 X.2.1 dX6_retry_1 rfl (lv_at hl 1 rfl) ?_
  refine lv_iload_n X.1 X.2.1 dX6_retry_2 rfl (lv_at hl 2 rfl) ?_
  have ho := chk_e hf
  clear hf
  obtain ⟨a4, e5, k6, hf⟩ := ho
  cases e5
  have ho := bnd_e hf
  clear hf
  obtain ⟨v1, w2, q3, hf⟩ := ho
  refine q_cV X M hS hl.1 (ci := 6) (r := (RX6, TX6, 53)) (As := [.int x1, .int x2]) (m_X6_isCall o x1 x2 _ _ q3) mlX6_197 gm_286 gm_287 rfl (by decide) k6 rfl ⟨(Nat.le_of_ble_eq_true rfl), (Nat.le_of_ble_eq_true rfl)⟩ (rest := []) rfl (Nat.le_of_ble_eq_true rfl) (mc := 0) (ms := 0) (MC := 0) (MS := 0) rfl rfl rfl rfl (by omega) (by omega) dX6_retry_3 (st2 := [.int v1]) rfl (fun H locs M hS => ?_)
  refine lv_if_ne (tgt := 11) X.1 X.2.1 dX6_retry_6 (by decide) (fun c7 => ?_) (fun c7 => ?_)
  · rw [if_neg c7] at hf
    refine q_aload_n X dX6_retry_11 rfl (lv_at hl 0 rfl) ?_
    have ho := gR_e hf
    clear hf
    obtain ⟨a8, v9, e10, k11, q12, hf⟩ := ho
    cases e10
    refine q_get X M flX6_22.g k11 (congrArg va_rf q12) dX6_retry_12 ?_
    refine lv_bipush (v := 60) X.1 X.2.1 dX6_retry_15 (by decide) ?_
    refine lv_iload_n X.1 X.2.1 dX6_retry_17 rfl (lv_at hl 1 rfl) ?_
    refine lv_imul X.1 X.2.1 dX6_retry_18 ?_
    refine lv_iload_n X.1 X.2.1 dX6_retry_19 rfl (lv_at hl 2 rfl) ?_
    refine lv_iadd X.1 X.2.1 dX6_retry_20 ?_
    refine lv_iconst (v := 1) X.1 X.2.1 dX6_retry_21 (by decide) ?_
    refine lv_isub X.1 X.2.1 dX6_retry_22 ?_
    have ho := aI_e hf
    clear hf
    obtain ⟨a13, v14, e15, k16, i17, q18, hf⟩ := ho
    cases e15
    refine q_iald X M k16 i17 dX6_retry_23 ?_
    rw [q18]
    refine lv_if_eq (tgt := 29) X.1 X.2.1 dX6_retry_24 (by decide) (fun c19 => ?_) (fun c19 => ?_)
    · rw [if_pos c19] at hf
      refine q_aload_n X dX6_retry_29 rfl (lv_at hl 0 rfl) ?_
      refine lv_iload_n X.1 X.2.1 dX6_retry_30 rfl (lv_at hl 1 rfl) ?_
      refine lv_iload_n X.1 X.2.1 dX6_retry_31 rfl (lv_at hl 2 rfl) ?_
      have ho := chk_e hf
      clear hf
      obtain ⟨a23, e24, k25, hf⟩ := ho
      cases e24
      have ho := bnd_e hf
      clear hf
      obtain ⟨v20, w21, q22, hf⟩ := ho
      refine q_cV X M hS hl.1 (ci := 6) (r := (RX6, TX6, 53)) (As := [.int x1, .int x2]) (m_X6_request o x1 x2 _ _ q22) mlX6_193 gm_254 gm_255 rfl (by decide) k25 rfl ⟨(Nat.le_of_ble_eq_true rfl), (Nat.le_of_ble_eq_true rfl)⟩ (rest := []) rfl (Nat.le_of_ble_eq_true rfl) (mc := 0) (ms := 0) (MC := 0) (MS := 0) rfl rfl rfl rfl (by omega) (by omega) dX6_retry_32 (st2 := []) rfl (fun H locs M hS => ?_)
      refine lv_iconst (v := 1) X.1 X.2.1 dX6_retry_35 (by decide) ?_
      obtain rfl := Option.some.inj hf
      exact q_iret X M hS (by omega) (by omega) dX6_retry_36
    · rw [if_neg c19] at hf
      refine lv_iconst (v := 0) X.1 X.2.1 dX6_retry_27 (by decide) ?_
      obtain rfl := Option.some.inj hf
      exact q_iret X M hS (by omega) (by omega) dX6_retry_28
  · rw [if_pos c7] at hf
    refine lv_iconst (v := (-1)) X.1 X.2.1 dX6_retry_9 (by decide) ?_
    obtain rfl := Option.some.inj hf
    exact q_iret X M hS (by omega) (by omega) dX6_retry_10
theorem m_X6_retry {l : Launch} {D : va_G} {aC : Nat → ClassId} {b0 : Nat} {w : Wd} (o : Nat) (x1 : Int32) (x2 : Int32) (v : Int32) (w' : Wd) (hf : f_X6_retry o x1 x2 w = some (v, w')) : Ct l D aC b0 yX6_retry (Cond.code yX6_retry cX6_retry 3 (some .int) :: Gw) rX6_retry [va_rf (some o), .int x1, .int x2] w (some (.int v)) w' :=
  q_met (by decide) (Nat.le_of_ble_eq_true rfl) (fun p e s m below meth c X M ls hl => e_X6_retry X (res := (v, w')) o x1 x2 w s.heap [] 0 0 ls hf M va_S.rf (by decide) (by decide) hl)
abbrev rX6_isServer : Room := { frames := 1, cells := 0, slots := 0, locals := 22 }
def f_X6_isServer (o : Nat) (x1 : Int32) (w : Wd) : Option (Int32 × Wd) := gI w (some o) 7 0 (fun v2 => bnd (f_X6_in x1 0 (v2 - 1) w) (fun v6 w7 => retZ v6 w7))
set_option maxHeartbeats 4000000 in
set_option maxRecDepth 100000 in
theorem e_X6_isServer {l : Launch} {D : va_G} {aC : Nat → ClassId} {b0 : Nat} {p : Program} {e : Env} {s : State} {m : MethodId} {args : Array Value} {below : List Frame} {meth : Method} {c : Code} (X : Cx D aC p s m args meth c cX6_isServer RX6 2 "isServer" (some .boolean)) {res : (Int32 × Wd)} (o : Nat) (x1 : Int32) (w : Wd) : BW l D aC b0 p e rX6_isServer s m args below meth c (Qe D aC b0 below args s 0 0 (some (.int res.1)) res.2) res 0 0 0 0 (f_X6_isServer o x1 w) w 0 2 [(0, va_rf (some o)), (1, .int x1)] [] := by
  intro H locs cells slots ls hf M hS hc hs hl
  unfold f_X6_isServer at hf
  refine lv_iload_n X.1 X.2.1 dX6_isServer_0 rfl (lv_at hl 1 rfl) ?_
  refine lv_iconst (v := 0) X.1 X.2.1 dX6_isServer_1 (by decide) ?_
  refine q_aload_n X dX6_isServer_2 rfl (lv_at hl 0 rfl) ?_
  have ho := gI_e hf
  clear hf
  obtain ⟨a1, v2, e3, k4, q5, hf⟩ := ho
  cases e3
  refine q_get X M flX6_145.g k4 (congrArg Value.int q5) dX6_isServer_3 ?_
  refine lv_iconst (v := 1) X.1 X.2.1 dX6_isServer_6 (by decide) ?_
  refine lv_isub X.1 X.2.1 dX6_isServer_7 ?_
  have ho := bnd_e hf
  clear hf
  obtain ⟨v6, w7, q8, hf⟩ := ho
  refine q_cS X M hS hl.1 (As := [.int x1, .int 0, .int (v2 - 1)]) (m_X6_in x1 0 (v2 - 1) _ _ q8) mlX6_152 gm_171 rfl ⟨(Nat.le_of_ble_eq_true rfl), (Nat.le_of_ble_eq_true rfl)⟩ (rest := []) rfl (Nat.le_of_ble_eq_true rfl) (mc := 0) (ms := 0) (MC := 0) (MS := 0) rfl rfl rfl rfl (by omega) (by omega) dX6_isServer_8 (st2 := [.int v6]) rfl (fun H locs M hS => ?_)
  have ho := retZ_e hf
  clear hf
  obtain ⟨z9, rfl⟩ := ho
  exact q_zret X M hS (by omega) (by omega) z9 dX6_isServer_11
theorem m_X6_isServer {l : Launch} {D : va_G} {aC : Nat → ClassId} {b0 : Nat} {w : Wd} (o : Nat) (x1 : Int32) (v : Int32) (w' : Wd) (hf : f_X6_isServer o x1 w = some (v, w')) : Ct l D aC b0 yX6_isServer (Cond.code yX6_isServer cX6_isServer 2 (some .boolean) :: Gw) rX6_isServer [va_rf (some o), .int x1] w (some (.int v)) w' :=
  q_met (by decide) (Nat.le_of_ble_eq_true rfl) (fun p e s m below meth c X M ls hl => e_X6_isServer X (res := (v, w')) o x1 w s.heap [] 0 0 ls hf M va_S.rf (by decide) (by decide) hl)
abbrev rX6_ack : Room := { frames := 2, cells := 0, slots := 0, locals := 43 }
def f_X6_ack (o : Nat) (x1 : Int32) (x2 : Int32) (w : Wd) : Option (Int32 × Wd) := bnd (f_X6_isClient x1 w) (fun v1 w2 => if v1 = 0 then (some ((-1), w2)) else (chk w2 (some o) 7 (fun a8 => bnd (f_X6_isServer a8 x2 w2) (fun v5 w6 => if v5 = 0 then (some ((-1), w6)) else (gR w6 (some o) 7 7 (fun v13 => aI w6 v13 100 x1 (fun v18 => if v18 = 0 then (some ((-3), w6)) else (chk w6 (some o) 7 (fun a27 => bnd (f_X6_letter a27 5 x2 x1 w6) (fun v24 w25 => gR w25 (some o) 7 34 (fun v31 => gR w25 (some o) 7 7 (fun v36 => aI w25 v36 100 x1 (fun v41 => tI w25 v31 100 v24 v41 (fun w47 => gR w47 (some o) 7 35 (fun v53 => chk w47 (some o) 7 (fun a60 => bnd (f_X6_first a60 x1 w47) (fun v57 w58 => tI w58 v53 100 v24 v57 (fun w64 => gR w64 (some o) 7 35 (fun v70 => aI w64 v70 100 v24 (fun v75 => chk w64 (some o) 7 (fun a83 => bnd (f_X6_go a83 v24 w64) (fun v80 w81 => some (v75, w81)))))))))))))))))))))))
set_option maxHeartbeats 4000000 in
set_option maxRecDepth 100000 in
theorem e_X6_ack {l : Launch} {D : va_G} {aC : Nat → ClassId} {b0 : Nat} {p : Program} {e : Env} {s : State} {m : MethodId} {args : Array Value} {below : List Frame} {meth : Method} {c : Code} (X : Cx D aC p s m args meth c cX6_ack RX6 5 "ack" (some .int)) {res : (Int32 × Wd)} (o : Nat) (x1 : Int32) (x2 : Int32) (w : Wd) : BW l D aC b0 p e rX6_ack s m args below meth c (Qe D aC b0 below args s 0 0 (some (.int res.1)) res.2) res 0 0 0 0 (f_X6_ack o x1 x2 w) w 0 5 [(0, va_rf (some o)), (1, .int x1), (2, .int x2)] [] := by
  intro H locs cells slots ls hf M hS hc hs hl
  unfold f_X6_ack at hf
  refine lv_iload_n X.1 X.2.1 dX6_ack_0 rfl (lv_at hl 1 rfl) ?_
  have ho := bnd_e hf
  clear hf
  obtain ⟨v1, w2, q3, hf⟩ := ho
  refine q_cS X M hS hl.1 (As := [.int x1]) (m_X6_isClient x1 _ _ q3) mlX6_172 gm_168 rfl ⟨(Nat.le_of_ble_eq_true rfl), (Nat.le_of_ble_eq_true rfl)⟩ (rest := []) rfl (Nat.le_of_ble_eq_true rfl) (mc := 0) (ms := 0) (MC := 0) (MS := 0) rfl rfl rfl rfl (by omega) (by omega) dX6_ack_1 (st2 := [.int v1]) rfl (fun H locs M hS => ?_)
  refine lv_if_eq (tgt := 15) X.1 X.2.1 dX6_ack_4 (by decide) (fun c4 => ?_) (fun c4 => ?_)
  · rw [if_pos c4] at hf
    refine lv_iconst (v := (-1)) X.1 X.2.1 dX6_ack_15 (by decide) ?_
    obtain rfl := Option.some.inj hf
    exact q_iret X M hS (by omega) (by omega) dX6_ack_16
  · rw [if_neg c4] at hf
    refine q_aload_n X dX6_ack_7 rfl (lv_at hl 0 rfl) ?_
    refine lv_iload_n X.1 X.2.1 dX6_ack_8 rfl (lv_at hl 2 rfl) ?_
    have ho := chk_e hf
    clear hf
    obtain ⟨a8, e9, k10, hf⟩ := ho
    cases e9
    have ho := bnd_e hf
    clear hf
    obtain ⟨v5, w6, q7, hf⟩ := ho
    refine q_cV X M hS hl.1 (ci := 6) (r := (RX6, TX6, 53)) (As := [.int x2]) (m_X6_isServer o x2 _ _ q7) mlX6_201 gm_302 gm_303 rfl (by decide) k10 rfl ⟨(Nat.le_of_ble_eq_true rfl), (Nat.le_of_ble_eq_true rfl)⟩ (rest := []) rfl (Nat.le_of_ble_eq_true rfl) (mc := 0) (ms := 0) (MC := 0) (MS := 0) rfl rfl rfl rfl (by omega) (by omega) dX6_ack_9 (st2 := [.int v5]) rfl (fun H locs M hS => ?_)
    refine lv_if_ne (tgt := 17) X.1 X.2.1 dX6_ack_12 (by decide) (fun c11 => ?_) (fun c11 => ?_)
    · rw [if_neg c11] at hf
      refine q_aload_n X dX6_ack_17 rfl (lv_at hl 0 rfl) ?_
      have ho := gR_e hf
      clear hf
      obtain ⟨a12, v13, e14, k15, q16, hf⟩ := ho
      cases e14
      refine q_get X M flX6_7.g k15 (congrArg va_rf q16) dX6_ack_18 ?_
      refine lv_iload_n X.1 X.2.1 dX6_ack_21 rfl (lv_at hl 1 rfl) ?_
      have ho := aI_e hf
      clear hf
      obtain ⟨a17, v18, e19, k20, i21, q22, hf⟩ := ho
      cases e19
      refine q_iald X M k20 i21 dX6_ack_22 ?_
      rw [q22]
      refine lv_if_ne (tgt := 29) X.1 X.2.1 dX6_ack_23 (by decide) (fun c23 => ?_) (fun c23 => ?_)
      · rw [if_neg c23] at hf
        refine q_aload_n X dX6_ack_29 rfl (lv_at hl 0 rfl) ?_
        refine lv_iconst (v := 5) X.1 X.2.1 dX6_ack_30 (by decide) ?_
        refine lv_iload_n X.1 X.2.1 dX6_ack_31 rfl (lv_at hl 2 rfl) ?_
        refine lv_iload_n X.1 X.2.1 dX6_ack_32 rfl (lv_at hl 1 rfl) ?_
        have ho := chk_e hf
        clear hf
        obtain ⟨a27, e28, k29, hf⟩ := ho
        cases e28
        have ho := bnd_e hf
        clear hf
        obtain ⟨v24, w25, q26, hf⟩ := ho
        refine q_cV X M hS hl.1 (ci := 6) (r := (RX6, TX6, 53)) (As := [.int 5, .int x2, .int x1]) (m_X6_letter o 5 x2 x1 _ _ q26) mlX6_182 gm_258 gm_259 rfl (by decide) k29 rfl ⟨(Nat.le_of_ble_eq_true rfl), (Nat.le_of_ble_eq_true rfl)⟩ (rest := []) rfl (Nat.le_of_ble_eq_true rfl) (mc := 0) (ms := 0) (MC := 0) (MS := 0) rfl rfl rfl rfl (by omega) (by omega) dX6_ack_33 (st2 := [.int v24]) rfl (fun H locs M hS => ?_)
        refine lv_istore_n (i := 3) (lv' := [(3, .int v24), (0, va_rf (some o)), (1, .int x1), (2, .int x2)]) X.1 X.2.1 dX6_ack_36 rfl hl (by decide) rfl (fun ls hl => ?_)
        refine q_aload_n X dX6_ack_37 rfl (lv_at hl 1 rfl) ?_
        have ho := gR_e hf
        clear hf
        obtain ⟨a30, v31, e32, k33, q34, hf⟩ := ho
        cases e32
        refine q_get X M flX6_93.g k33 (congrArg va_rf q34) dX6_ack_38 ?_
        refine lv_iload_n X.1 X.2.1 dX6_ack_41 rfl (lv_at hl 0 rfl) ?_
        refine q_aload_n X dX6_ack_42 rfl (lv_at hl 1 rfl) ?_
        have ho := gR_e hf
        clear hf
        obtain ⟨a35, v36, e37, k38, q39, hf⟩ := ho
        cases e37
        refine q_get X M flX6_7.g k38 (congrArg va_rf q39) dX6_ack_43 ?_
        refine lv_iload_n X.1 X.2.1 dX6_ack_46 rfl (lv_at hl 2 rfl) ?_
        have ho := aI_e hf
        clear hf
        obtain ⟨a40, v41, e42, k43, i44, q45, hf⟩ := ho
        cases e42
        refine q_iald X M k43 i44 dX6_ack_47 ?_
        rw [q45]
        have ho := tI_e hf
        clear hf
        obtain ⟨a46, w47, e48, k49, i50, q51, hf⟩ := ho
        cases e48
        refine q_iast X M hS k49 i50 dX6_ack_48 (fun H locs M hS => ?_)
        rw [q51] at M
        refine q_aload_n X dX6_ack_49 rfl (lv_at hl 1 rfl) ?_
        have ho := gR_e hf
        clear hf
        obtain ⟨a52, v53, e54, k55, q56, hf⟩ := ho
        cases e54
        refine q_get X M flX6_96.g k55 (congrArg va_rf q56) dX6_ack_50 ?_
        refine lv_iload_n X.1 X.2.1 dX6_ack_53 rfl (lv_at hl 0 rfl) ?_
        refine q_aload_n X dX6_ack_54 rfl (lv_at hl 1 rfl) ?_
        refine lv_iload_n X.1 X.2.1 dX6_ack_55 rfl (lv_at hl 2 rfl) ?_
        have ho := chk_e hf
        clear hf
        obtain ⟨a60, e61, k62, hf⟩ := ho
        cases e61
        have ho := bnd_e hf
        clear hf
        obtain ⟨v57, w58, q59, hf⟩ := ho
        refine q_cV X M hS hl.1 (ci := 6) (r := (RX6, TX6, 53)) (As := [.int x1]) (m_X6_first o x1 _ _ q59) mlX6_186 gm_263 gm_264 rfl (by decide) k62 rfl ⟨(Nat.le_of_ble_eq_true rfl), (Nat.le_of_ble_eq_true rfl)⟩ (rest := [.int v24, va_rf v53]) rfl (by simp [cat1, cati, catl]) (mc := 0) (ms := 0) (MC := 0) (MS := 0) rfl rfl rfl rfl (by omega) (by omega) dX6_ack_56 (st2 := [.int v57, .int v24, va_rf v53]) rfl (fun H locs M hS => ?_)
        have ho := tI_e hf
        clear hf
        obtain ⟨a63, w64, e65, k66, i67, q68, hf⟩ := ho
        cases e65
        refine q_iast X M hS k66 i67 dX6_ack_59 (fun H locs M hS => ?_)
        rw [q68] at M
        refine q_aload_n X dX6_ack_60 rfl (lv_at hl 1 rfl) ?_
        have ho := gR_e hf
        clear hf
        obtain ⟨a69, v70, e71, k72, q73, hf⟩ := ho
        cases e71
        refine q_get X M flX6_96.g k72 (congrArg va_rf q73) dX6_ack_61 ?_
        refine lv_iload_n X.1 X.2.1 dX6_ack_64 rfl (lv_at hl 0 rfl) ?_
        have ho := aI_e hf
        clear hf
        obtain ⟨a74, v75, e76, k77, i78, q79, hf⟩ := ho
        cases e76
        refine q_iald X M k77 i78 dX6_ack_65 ?_
        rw [q79]
        refine lv_istore (i := 4) (lv' := [(4, .int v75), (3, .int v24), (0, va_rf (some o)), (1, .int x1), (2, .int x2)]) X.1 X.2.1 dX6_ack_66 hl (by decide) rfl (fun ls hl => ?_)
        refine q_aload_n X dX6_ack_68 rfl (lv_at hl 2 rfl) ?_
        refine lv_iload_n X.1 X.2.1 dX6_ack_69 rfl (lv_at hl 1 rfl) ?_
        have ho := chk_e hf
        clear hf
        obtain ⟨a83, e84, k85, hf⟩ := ho
        cases e84
        have ho := bnd_e hf
        clear hf
        obtain ⟨v80, w81, q82, hf⟩ := ho
        refine q_cV X M hS hl.1 (ci := 6) (r := (RX6, TX6, 53)) (As := [.int v24]) (m_X6_go o v24 _ _ q82) mlX6_168 gm_267 gm_268 rfl (by decide) k85 rfl ⟨(Nat.le_of_ble_eq_true rfl), (Nat.le_of_ble_eq_true rfl)⟩ (rest := []) rfl (Nat.le_of_ble_eq_true rfl) (mc := 0) (ms := 0) (MC := 0) (MS := 0) rfl rfl rfl rfl (by omega) (by omega) dX6_ack_70 (st2 := []) rfl (fun H locs M hS => ?_)
        refine lv_iload X.1 X.2.1 dX6_ack_73 (lv_at hl 0 rfl) ?_
        obtain rfl := Option.some.inj hf
        exact q_iret X M hS (by omega) (by omega) dX6_ack_75
      · rw [if_pos c23] at hf
        refine lv_bipush (v := (-3)) X.1 X.2.1 dX6_ack_26 (by decide) ?_
        obtain rfl := Option.some.inj hf
        exact q_iret X M hS (by omega) (by omega) dX6_ack_28
    · rw [if_pos c11] at hf
      refine lv_iconst (v := (-1)) X.1 X.2.1 dX6_ack_15 (by decide) ?_
      obtain rfl := Option.some.inj hf
      exact q_iret X M hS (by omega) (by omega) dX6_ack_16
theorem m_X6_ack {l : Launch} {D : va_G} {aC : Nat → ClassId} {b0 : Nat} {w : Wd} (o : Nat) (x1 : Int32) (x2 : Int32) (v : Int32) (w' : Wd) (hf : f_X6_ack o x1 x2 w = some (v, w')) : Ct l D aC b0 yX6_ack (Cond.code yX6_ack cX6_ack 5 (some .int) :: Gw) rX6_ack [va_rf (some o), .int x1, .int x2] w (some (.int v)) w' :=
  q_met (by decide) (Nat.le_of_ble_eq_true rfl) (fun p e s m below meth c X M ls hl => e_X6_ack X (res := (v, w')) o x1 x2 w s.heap [] 0 0 ls hf M va_S.rf (by decide) (by decide) hl)
abbrev rX6_takeOut : Room := { frames := 0, cells := 0, slots := 0, locals := 0 }
def f_X6_takeOut_19 : Nat → Nat → Int32 → Int32 → Wd → Option (Int32 × Wd)
  | 0, _, _, _, _ => none
  | n + 1, o, x2, x3, w => gI w (some o) 7 50 (fun v23 => if v23 ≤ x3 then (some (x2, w)) else (gR w (some o) 7 49 (fun v29 => gR w (some o) 7 49 (fun v34 => aI w v34 100 (x3 + 1) (fun v39 => tI w v29 100 x3 v39 (fun w45 => (f_X6_takeOut_19 n) o x2 (x3 + 1) w45))))))
set_option maxHeartbeats 4000000 in
set_option maxRecDepth 100000 in
theorem b_X6_takeOut_19 {l : Launch} {D : va_G} {aC : Nat → ClassId} {b0 : Nat} {p : Program} {e : Env} {s : State} {m : MethodId} {args : Array Value} {below : List Frame} {meth : Method} {c : Code} (X : Cx D aC p s m args meth c cX6_takeOut RX6 4 "takeOut" (some .int)) {res : (Int32 × Wd)} : ∀ (n : Nat) (o : Nat) (x2 : Int32) (x3 : Int32) (w : Wd), BW l D aC b0 p e rX6_takeOut s m args below meth c (Qe D aC b0 below args s 0 0 (some (.int res.1)) res.2) res 0 0 0 0 (f_X6_takeOut_19 n o x2 x3 w) w 19 4 [(0, va_rf (some o)), (2, .int x2), (3, .int x3)] [] := by
  intro n
  induction n with
  | zero =>
    intro o x2 x3 w H locs cells slots ls hf
    rw [f_X6_takeOut_19.eq_1] at hf
    cases hf
  | succ n ih =>
    intro o x2 x3 w H locs cells slots ls hf M hS hc hs hl
    rw [f_X6_takeOut_19.eq_2] at hf
    refine lv_iload_n X.1 X.2.1 dX6_takeOut_19 rfl (lv_at hl 2 rfl) ?_
    refine q_aload_n X dX6_takeOut_20 rfl (lv_at hl 0 rfl) ?_
    have ho := gI_e hf
    clear hf
    obtain ⟨a22, v23, e24, k25, q26, hf⟩ := ho
    cases e24
    refine q_get X M flX6_162.g k25 (congrArg Value.int q26) dX6_takeOut_21 ?_
    refine lv_icmp_ge (tgt := 47) X.1 X.2.1 dX6_takeOut_24 (by decide) (fun c27 => ?_) (fun c27 => ?_)
    · rw [if_pos c27] at hf
      refine lv_iload_n X.1 X.2.1 dX6_takeOut_47 rfl (lv_at hl 1 rfl) ?_
      obtain rfl := Option.some.inj hf
      exact q_iret X M hS (by omega) (by omega) dX6_takeOut_48
    · rw [if_neg c27] at hf
      refine q_aload_n X dX6_takeOut_27 rfl (lv_at hl 0 rfl) ?_
      have ho := gR_e hf
      clear hf
      obtain ⟨a28, v29, e30, k31, q32, hf⟩ := ho
      cases e30
      refine q_get X M flX6_136.g k31 (congrArg va_rf q32) dX6_takeOut_28 ?_
      refine lv_iload_n X.1 X.2.1 dX6_takeOut_31 rfl (lv_at hl 2 rfl) ?_
      refine q_aload_n X dX6_takeOut_32 rfl (lv_at hl 0 rfl) ?_
      have ho := gR_e hf
      clear hf
      obtain ⟨a33, v34, e35, k36, q37, hf⟩ := ho
      cases e35
      refine q_get X M flX6_136.g k36 (congrArg va_rf q37) dX6_takeOut_33 ?_
      refine lv_iload_n X.1 X.2.1 dX6_takeOut_36 rfl (lv_at hl 2 rfl) ?_
      refine lv_iconst (v := 1) X.1 X.2.1 dX6_takeOut_37 (by decide) ?_
      refine lv_iadd X.1 X.2.1 dX6_takeOut_38 ?_
      have ho := aI_e hf
      clear hf
      obtain ⟨a38, v39, e40, k41, i42, q43, hf⟩ := ho
      cases e40
      refine q_iald X M k41 i42 dX6_takeOut_39 ?_
      rw [q43]
      have ho := tI_e hf
      clear hf
      obtain ⟨a44, w45, e46, k47, i48, q49, hf⟩ := ho
      cases e46
      refine q_iast X M hS k47 i48 dX6_takeOut_40 (fun H locs M hS => ?_)
      rw [q49] at M
      refine lv_iinc (v := (x3 + 1)) (lv' := [(3, .int (x3 + 1)), (0, va_rf (some o)), (2, .int x2)]) X.1 X.2.1 dX6_takeOut_41 hl (k := 2) rfl rfl (by decide) rfl (fun ls hl => ?_)
      refine lv_goto (tgt := 19) X.1 X.2.1 dX6_takeOut_44 (by decide) ?_
      exact ih o x2 (x3 + 1) w45 _ _ _ _ _ hf M hS (by omega) (by omega) (lv_sub hl [1, 2, 0] rfl)
def f_X6_takeOut (o : Nat) (x1 : Int32) (w : Wd) : Option (Int32 × Wd) := gR w (some o) 7 49 (fun v2 => aI w v2 100 x1 (fun v7 => gI w (some o) 7 50 (fun v13 => pI w (some o) 7 50 (v13 - 1) (fun w18 => (f_X6_takeOut_19 FU) o v7 x1 w18))))
set_option maxHeartbeats 4000000 in
set_option maxRecDepth 100000 in
theorem e_X6_takeOut {l : Launch} {D : va_G} {aC : Nat → ClassId} {b0 : Nat} {p : Program} {e : Env} {s : State} {m : MethodId} {args : Array Value} {below : List Frame} {meth : Method} {c : Code} (X : Cx D aC p s m args meth c cX6_takeOut RX6 4 "takeOut" (some .int)) {res : (Int32 × Wd)} (o : Nat) (x1 : Int32) (w : Wd) : BW l D aC b0 p e rX6_takeOut s m args below meth c (Qe D aC b0 below args s 0 0 (some (.int res.1)) res.2) res 0 0 0 0 (f_X6_takeOut o x1 w) w 0 4 [(0, va_rf (some o)), (1, .int x1)] [] := by
  intro H locs cells slots ls hf M hS hc hs hl
  unfold f_X6_takeOut at hf
  refine q_aload_n X dX6_takeOut_0 rfl (lv_at hl 0 rfl) ?_
  have ho := gR_e hf
  clear hf
  obtain ⟨a1, v2, e3, k4, q5, hf⟩ := ho
  cases e3
  refine q_get X M flX6_136.g k4 (congrArg va_rf q5) dX6_takeOut_1 ?_
  refine lv_iload_n X.1 X.2.1 dX6_takeOut_4 rfl (lv_at hl 1 rfl) ?_
  have ho := aI_e hf
  clear hf
  obtain ⟨a6, v7, e8, k9, i10, q11, hf⟩ := ho
  cases e8
  refine q_iald X M k9 i10 dX6_takeOut_5 ?_
  rw [q11]
  refine lv_istore_n (i := 2) (lv' := [(2, .int v7), (0, va_rf (some o)), (1, .int x1)]) X.1 X.2.1 dX6_takeOut_6 rfl hl (by decide) rfl (fun ls hl => ?_)
  refine q_aload_n X dX6_takeOut_7 rfl (lv_at hl 1 rfl) ?_
  refine lv_dup X.1 X.2.1 dX6_takeOut_8 rfl ?_
  have ho := gI_e hf
  clear hf
  obtain ⟨a12, v13, e14, k15, q16, hf⟩ := ho
  cases e14
  refine q_get X M flX6_162.g k15 (congrArg Value.int q16) dX6_takeOut_9 ?_
  refine lv_iconst (v := 1) X.1 X.2.1 dX6_takeOut_12 (by decide) ?_
  refine lv_isub X.1 X.2.1 dX6_takeOut_13 ?_
  have ho := pI_e hf
  clear hf
  obtain ⟨a17, w18, e19, k20, q21, hf⟩ := ho
  cases e19
  refine q_putI X M hS flX6_162 (Or.inl rfl) k20 dX6_takeOut_14 (fun H locs M hS => ?_)
  rw [q21] at M
  refine lv_iload_n X.1 X.2.1 dX6_takeOut_17 rfl (lv_at hl 2 rfl) ?_
  refine lv_istore_n (i := 3) (lv' := [(3, .int x1), (2, .int v7), (0, va_rf (some o)), (1, .int x1)]) X.1 X.2.1 dX6_takeOut_18 rfl hl (by decide) rfl (fun ls hl => ?_)
  exact (b_X6_takeOut_19 X FU) o v7 x1 w18 _ _ _ _ _ hf M hS (by omega) (by omega) (lv_sub hl [2, 1, 0] rfl)
theorem m_X6_takeOut {l : Launch} {D : va_G} {aC : Nat → ClassId} {b0 : Nat} {w : Wd} (o : Nat) (x1 : Int32) (v : Int32) (w' : Wd) (hf : f_X6_takeOut o x1 w = some (v, w')) : Ct l D aC b0 yX6_takeOut (Cond.code yX6_takeOut cX6_takeOut 4 (some .int) :: Gw) rX6_takeOut [va_rf (some o), .int x1] w (some (.int v)) w' :=
  q_met (by decide) (Nat.le_of_ble_eq_true rfl) (fun p e s m below meth c X M ls hl => e_X6_takeOut X (res := (v, w')) o x1 w s.heap [] 0 0 ls hf M va_S.rf (by decide) (by decide) hl)
abbrev rX6_sendFrom : Room := { frames := 1, cells := 0, slots := 0, locals := 21 }
def f_X6_sendFrom (o : Nat) (x1 : Int32) (x2 : Int32) (w : Wd) : Option (Unit × Wd) := gR w (some o) 7 29 (fun v2 => aI w v2 102 x1 (fun v7 => if v7 = 0 then (chk w (some o) 7 (fun a55 => bnd (f_X6_go a55 x2 w) (fun v52 w53 => some ((), w53)))) else (gR w (some o) 7 51 (fun v14 => gR w (some o) 7 52 (fun v19 => aI w v19 100 x1 (fun v24 => tI w v14 100 ((4200 * x1) + v24) x2 (fun w30 => gR w30 (some o) 7 52 (fun v36 => aI w30 v36 100 x1 (fun v41 => tI w30 v36 100 x1 (v41 + 1) (fun w47 => some ((), w47)))))))))))
set_option maxHeartbeats 4000000 in
set_option maxRecDepth 100000 in
theorem e_X6_sendFrom {l : Launch} {D : va_G} {aC : Nat → ClassId} {b0 : Nat} {p : Program} {e : Env} {s : State} {m : MethodId} {args : Array Value} {below : List Frame} {meth : Method} {c : Code} (X : Cx D aC p s m args meth c cX6_sendFrom RX6 3 "sendFrom" none) {res : (Unit × Wd)} (o : Nat) (x1 : Int32) (x2 : Int32) (w : Wd) : BW l D aC b0 p e rX6_sendFrom s m args below meth c (Qe D aC b0 below args s 0 0 none res.2) res 0 0 0 0 (f_X6_sendFrom o x1 x2 w) w 0 3 [(0, va_rf (some o)), (1, .int x1), (2, .int x2)] [] := by
  intro H locs cells slots ls hf M hS hc hs hl
  unfold f_X6_sendFrom at hf
  refine q_aload_n X dX6_sendFrom_0 rfl (lv_at hl 0 rfl) ?_
  have ho := gR_e hf
  clear hf
  obtain ⟨a1, v2, e3, k4, q5, hf⟩ := ho
  cases e3
  refine q_get X M flX6_78.g k4 (congrArg va_rf q5) dX6_sendFrom_1 ?_
  refine lv_iload_n X.1 X.2.1 dX6_sendFrom_4 rfl (lv_at hl 1 rfl) ?_
  have ho := aI_e hf
  clear hf
  obtain ⟨a6, v7, e8, k9, i10, q11, hf⟩ := ho
  cases e8
  refine q_zald X M k9 i10 dX6_sendFrom_5 ?_
  rw [q11]
  refine lv_if_ne (tgt := 15) X.1 X.2.1 dX6_sendFrom_6 (by decide) (fun c12 => ?_) (fun c12 => ?_)
  · rw [if_neg c12] at hf
    refine q_aload_n X dX6_sendFrom_15 rfl (lv_at hl 0 rfl) ?_
    have ho := gR_e hf
    clear hf
    obtain ⟨a13, v14, e15, k16, q17, hf⟩ := ho
    cases e15
    refine q_get X M flX6_139.g k16 (congrArg va_rf q17) dX6_sendFrom_16 ?_
    refine lv_sipush (v := 4200) X.1 X.2.1 dX6_sendFrom_19 (by decide) ?_
    refine lv_iload_n X.1 X.2.1 dX6_sendFrom_22 rfl (lv_at hl 1 rfl) ?_
    refine lv_imul X.1 X.2.1 dX6_sendFrom_23 ?_
    refine q_aload_n X dX6_sendFrom_24 rfl (lv_at hl 0 rfl) ?_
    have ho := gR_e hf
    clear hf
    obtain ⟨a18, v19, e20, k21, q22, hf⟩ := ho
    cases e20
    refine q_get X M flX6_142.g k21 (congrArg va_rf q22) dX6_sendFrom_25 ?_
    refine lv_iload_n X.1 X.2.1 dX6_sendFrom_28 rfl (lv_at hl 1 rfl) ?_
    have ho := aI_e hf
    clear hf
    obtain ⟨a23, v24, e25, k26, i27, q28, hf⟩ := ho
    cases e25
    refine q_iald X M k26 i27 dX6_sendFrom_29 ?_
    rw [q28]
    refine lv_iadd X.1 X.2.1 dX6_sendFrom_30 ?_
    refine lv_iload_n X.1 X.2.1 dX6_sendFrom_31 rfl (lv_at hl 2 rfl) ?_
    have ho := tI_e hf
    clear hf
    obtain ⟨a29, w30, e31, k32, i33, q34, hf⟩ := ho
    cases e31
    refine q_iast X M hS k32 i33 dX6_sendFrom_32 (fun H locs M hS => ?_)
    rw [q34] at M
    refine q_aload_n X dX6_sendFrom_33 rfl (lv_at hl 0 rfl) ?_
    have ho := gR_e hf
    clear hf
    obtain ⟨a35, v36, e37, k38, q39, hf⟩ := ho
    cases e37
    refine q_get X M flX6_142.g k38 (congrArg va_rf q39) dX6_sendFrom_34 ?_
    refine lv_iload_n X.1 X.2.1 dX6_sendFrom_37 rfl (lv_at hl 1 rfl) ?_
    refine lv_dup2_11 X.1 X.2.1 dX6_sendFrom_38 rfl (cat1 _) ?_
    have ho := aI_e hf
    clear hf
    obtain ⟨a40, v41, e42, k43, i44, q45, hf⟩ := ho
    cases e42
    refine q_iald X M k43 i44 dX6_sendFrom_39 ?_
    rw [q45]
    refine lv_iconst (v := 1) X.1 X.2.1 dX6_sendFrom_40 (by decide) ?_
    refine lv_iadd X.1 X.2.1 dX6_sendFrom_41 ?_
    have ho := tI_e hf
    clear hf
    obtain ⟨a46, w47, e48, k49, i50, q51, hf⟩ := ho
    cases e48
    refine q_iast X M hS k49 i50 dX6_sendFrom_42 (fun H locs M hS => ?_)
    rw [q51] at M
    obtain rfl := Option.some.inj hf
    exact q_vret X M hS (by omega) (by omega) dX6_sendFrom_43
  · rw [if_pos c12] at hf
    refine q_aload_n X dX6_sendFrom_9 rfl (lv_at hl 0 rfl) ?_
    refine lv_iload_n X.1 X.2.1 dX6_sendFrom_10 rfl (lv_at hl 2 rfl) ?_
    have ho := chk_e hf
    clear hf
    obtain ⟨a55, e56, k57, hf⟩ := ho
    cases e56
    have ho := bnd_e hf
    clear hf
    obtain ⟨v52, w53, q54, hf⟩ := ho
    refine q_cV X M hS hl.1 (ci := 6) (r := (RX6, TX6, 53)) (As := [.int x2]) (m_X6_go o x2 _ _ q54) mlX6_168 gm_267 gm_268 rfl (by decide) k57 rfl ⟨(Nat.le_of_ble_eq_true rfl), (Nat.le_of_ble_eq_true rfl)⟩ (rest := []) rfl (Nat.le_of_ble_eq_true rfl) (mc := 0) (ms := 0) (MC := 0) (MS := 0) rfl rfl rfl rfl (by omega) (by omega) dX6_sendFrom_11 (st2 := []) rfl (fun H locs M hS => ?_)
    obtain rfl := Option.some.inj hf
    exact q_vret X M hS (by omega) (by omega) dX6_sendFrom_14
theorem m_X6_sendFrom {l : Launch} {D : va_G} {aC : Nat → ClassId} {b0 : Nat} {w : Wd} (o : Nat) (x1 : Int32) (x2 : Int32) (v : Unit) (w' : Wd) (hf : f_X6_sendFrom o x1 x2 w = some (v, w')) : Ct l D aC b0 yX6_sendFrom (Cond.code yX6_sendFrom cX6_sendFrom 3 none :: Gw) rX6_sendFrom [va_rf (some o), .int x1, .int x2] w none w' :=
  q_met (by decide) (Nat.le_of_ble_eq_true rfl) (fun p e s m below meth c X M ls hl => e_X6_sendFrom X (res := (v, w')) o x1 x2 w s.heap [] 0 0 ls hf M va_S.rf (by decide) (by decide) hl)
abbrev rX6_answer : Room := { frames := 2, cells := 0, slots := 0, locals := 43 }
def f_X6_answer (o : Nat) (x1 : Int32) (x2 : Int32) (x3 : Int32) (x4 : Int64) (w : Wd) : Option (Unit × Wd) := gR w (some o) 7 33 (fun v2 => aI w v2 100 x2 (fun v7 => chk w (some o) 7 (fun a15 => bnd (f_X6_letter a15 2 v7 x1 w) (fun v12 w13 => gR w13 (some o) 7 34 (fun v19 => gR w13 (some o) 7 34 (fun v24 => aI w13 v24 100 x2 (fun v29 => tI w13 v19 100 v12 v29 (fun w35 => gR w35 (some o) 7 35 (fun v41 => gR w35 (some o) 7 35 (fun v46 => aI w35 v46 100 x2 (fun v51 => tI w35 v41 100 v12 v51 (fun w57 => gR w57 (some o) 7 36 (fun v63 => tI w57 v63 100 v12 x3 (fun w68 => gR w68 (some o) 7 39 (fun v74 => tL w68 v74 101 v12 x4 (fun w79 => chk w79 (some o) 7 (fun a87 => bnd (f_X6_sendFrom a87 x1 v12 w79) (fun v84 w85 => some ((), w85)))))))))))))))))))
set_option maxHeartbeats 4000000 in
set_option maxRecDepth 100000 in
theorem e_X6_answer {l : Launch} {D : va_G} {aC : Nat → ClassId} {b0 : Nat} {p : Program} {e : Env} {s : State} {m : MethodId} {args : Array Value} {below : List Frame} {meth : Method} {c : Code} (X : Cx D aC p s m args meth c cX6_answer RX6 7 "answer" none) {res : (Unit × Wd)} (o : Nat) (x1 : Int32) (x2 : Int32) (x3 : Int32) (x4 : Int64) (w : Wd) : BW l D aC b0 p e rX6_answer s m args below meth c (Qe D aC b0 below args s 0 0 none res.2) res 0 0 0 0 (f_X6_answer o x1 x2 x3 x4 w) w 0 7 [(0, va_rf (some o)), (1, .int x1), (2, .int x2), (3, .int x3), (4, .long x4)] [] := by
  intro H locs cells slots ls hf M hS hc hs hl
  unfold f_X6_answer at hf
  refine q_aload_n X dX6_answer_0 rfl (lv_at hl 0 rfl) ?_
  refine lv_iconst (v := 2) X.1 X.2.1 dX6_answer_1 (by decide) ?_
  refine q_aload_n X dX6_answer_2 rfl (lv_at hl 0 rfl) ?_
  have ho := gR_e hf
  clear hf
  obtain ⟨a1, v2, e3, k4, q5, hf⟩ := ho
  cases e3
  refine q_get X M flX6_90.g k4 (congrArg va_rf q5) dX6_answer_3 ?_
  refine lv_iload_n X.1 X.2.1 dX6_answer_6 rfl (lv_at hl 2 rfl) ?_
  have ho := aI_e hf
  clear hf
  obtain ⟨a6, v7, e8, k9, i10, q11, hf⟩ := ho
  cases e8
  refine q_iald X M k9 i10 dX6_answer_7 ?_
  rw [q11]
  refine lv_iload_n X.1 X.2.1 dX6_answer_8 rfl (lv_at hl 1 rfl) ?_
  have ho := chk_e hf
  clear hf
  obtain ⟨a15, e16, k17, hf⟩ := ho
  cases e16
  have ho := bnd_e hf
  clear hf
  obtain ⟨v12, w13, q14, hf⟩ := ho
  refine q_cV X M hS hl.1 (ci := 6) (r := (RX6, TX6, 53)) (As := [.int 2, .int v7, .int x1]) (m_X6_letter o 2 v7 x1 _ _ q14) mlX6_182 gm_258 gm_259 rfl (by decide) k17 rfl ⟨(Nat.le_of_ble_eq_true rfl), (Nat.le_of_ble_eq_true rfl)⟩ (rest := []) rfl (Nat.le_of_ble_eq_true rfl) (mc := 0) (ms := 0) (MC := 0) (MS := 0) rfl rfl rfl rfl (by omega) (by omega) dX6_answer_9 (st2 := [.int v12]) rfl (fun H locs M hS => ?_)
  refine lv_istore (i := 6) (lv' := [(6, .int v12), (0, va_rf (some o)), (1, .int x1), (2, .int x2), (3, .int x3), (4, .long x4)]) X.1 X.2.1 dX6_answer_12 hl (by decide) rfl (fun ls hl => ?_)
  refine q_aload_n X dX6_answer_14 rfl (lv_at hl 1 rfl) ?_
  have ho := gR_e hf
  clear hf
  obtain ⟨a18, v19, e20, k21, q22, hf⟩ := ho
  cases e20
  refine q_get X M flX6_93.g k21 (congrArg va_rf q22) dX6_answer_15 ?_
  refine lv_iload X.1 X.2.1 dX6_answer_18 (lv_at hl 0 rfl) ?_
  refine q_aload_n X dX6_answer_20 rfl (lv_at hl 1 rfl) ?_
  have ho := gR_e hf
  clear hf
  obtain ⟨a23, v24, e25, k26, q27, hf⟩ := ho
  cases e25
  refine q_get X M flX6_93.g k26 (congrArg va_rf q27) dX6_answer_21 ?_
  refine lv_iload_n X.1 X.2.1 dX6_answer_24 rfl (lv_at hl 3 rfl) ?_
  have ho := aI_e hf
  clear hf
  obtain ⟨a28, v29, e30, k31, i32, q33, hf⟩ := ho
  cases e30
  refine q_iald X M k31 i32 dX6_answer_25 ?_
  rw [q33]
  have ho := tI_e hf
  clear hf
  obtain ⟨a34, w35, e36, k37, i38, q39, hf⟩ := ho
  cases e36
  refine q_iast X M hS k37 i38 dX6_answer_26 (fun H locs M hS => ?_)
  rw [q39] at M
  refine q_aload_n X dX6_answer_27 rfl (lv_at hl 1 rfl) ?_
  have ho := gR_e hf
  clear hf
  obtain ⟨a40, v41, e42, k43, q44, hf⟩ := ho
  cases e42
  refine q_get X M flX6_96.g k43 (congrArg va_rf q44) dX6_answer_28 ?_
  refine lv_iload X.1 X.2.1 dX6_answer_31 (lv_at hl 0 rfl) ?_
  refine q_aload_n X dX6_answer_33 rfl (lv_at hl 1 rfl) ?_
  have ho := gR_e hf
  clear hf
  obtain ⟨a45, v46, e47, k48, q49, hf⟩ := ho
  cases e47
  refine q_get X M flX6_96.g k48 (congrArg va_rf q49) dX6_answer_34 ?_
  refine lv_iload_n X.1 X.2.1 dX6_answer_37 rfl (lv_at hl 3 rfl) ?_
  have ho := aI_e hf
  clear hf
  obtain ⟨a50, v51, e52, k53, i54, q55, hf⟩ := ho
  cases e52
  refine q_iald X M k53 i54 dX6_answer_38 ?_
  rw [q55]
  have ho := tI_e hf
  clear hf
  obtain ⟨a56, w57, e58, k59, i60, q61, hf⟩ := ho
  cases e58
  refine q_iast X M hS k59 i60 dX6_answer_39 (fun H locs M hS => ?_)
  rw [q61] at M
  refine q_aload_n X dX6_answer_40 rfl (lv_at hl 1 rfl) ?_
  have ho := gR_e hf
  clear hf
  obtain ⟨a62, v63, e64, k65, q66, hf⟩ := ho
  cases e64
  refine q_get X M flX6_99.g k65 (congrArg va_rf q66) dX6_answer_41 ?_
  refine lv_iload X.1 X.2.1 dX6_answer_44 (lv_at hl 0 rfl) ?_
  refine lv_iload_n X.1 X.2.1 dX6_answer_46 rfl (lv_at hl 4 rfl) ?_
  have ho := tI_e hf
  clear hf
  obtain ⟨a67, w68, e69, k70, i71, q72, hf⟩ := ho
  cases e69
  refine q_iast X M hS k70 i71 dX6_answer_47 (fun H locs M hS => ?_)
  rw [q72] at M
  refine q_aload_n X dX6_answer_48 rfl (lv_at hl 1 rfl) ?_
  have ho := gR_e hf
  clear hf
  obtain ⟨a73, v74, e75, k76, q77, hf⟩ := ho
  cases e75
  refine q_get X M flX6_108.g k76 (congrArg va_rf q77) dX6_answer_49 ?_
  refine lv_iload X.1 X.2.1 dX6_answer_52 (lv_at hl 0 rfl) ?_
  refine lv_lload X.1 X.2.1 dX6_answer_54 (lv_at hl 5 rfl) ?_
  have ho := tL_e hf
  clear hf
  obtain ⟨a78, w79, e80, k81, i82, q83, hf⟩ := ho
  cases e80
  refine q_last X M hS k81 i82 dX6_answer_56 (fun H locs M hS => ?_)
  rw [q83] at M
  refine q_aload_n X dX6_answer_57 rfl (lv_at hl 1 rfl) ?_
  refine lv_iload_n X.1 X.2.1 dX6_answer_58 rfl (lv_at hl 2 rfl) ?_
  refine lv_iload X.1 X.2.1 dX6_answer_59 (lv_at hl 0 rfl) ?_
  have ho := chk_e hf
  clear hf
  obtain ⟨a87, e88, k89, hf⟩ := ho
  cases e88
  have ho := bnd_e hf
  clear hf
  obtain ⟨v84, w85, q86, hf⟩ := ho
  refine q_cV X M hS hl.1 (ci := 6) (r := (RX6, TX6, 53)) (As := [.int x1, .int v12]) (m_X6_sendFrom o x1 v12 _ _ q86) mlX6_210 gm_450 gm_451 rfl (by decide) k89 rfl ⟨(Nat.le_of_ble_eq_true rfl), (Nat.le_of_ble_eq_true rfl)⟩ (rest := []) rfl (Nat.le_of_ble_eq_true rfl) (mc := 0) (ms := 0) (MC := 0) (MS := 0) rfl rfl rfl rfl (by omega) (by omega) dX6_answer_61 (st2 := []) rfl (fun H locs M hS => ?_)
  obtain rfl := Option.some.inj hf
  exact q_vret X M hS (by omega) (by omega) dX6_answer_64
theorem m_X6_answer {l : Launch} {D : va_G} {aC : Nat → ClassId} {b0 : Nat} {w : Wd} (o : Nat) (x1 : Int32) (x2 : Int32) (x3 : Int32) (x4 : Int64) (v : Unit) (w' : Wd) (hf : f_X6_answer o x1 x2 x3 x4 w = some (v, w')) : Ct l D aC b0 yX6_answer (Cond.code yX6_answer cX6_answer 7 none :: Gw) rX6_answer [va_rf (some o), .int x1, .int x2, .int x3, .long x4] w none w' :=
  q_met (by decide) (Nat.le_of_ble_eq_true rfl) (fun p e s m below meth c X M ls hl => e_X6_answer X (res := (v, w')) o x1 x2 x3 x4 w s.heap [] 0 0 ls hf M va_S.rf (by decide) (by decide) hl)
abbrev rX6_forget : Room := { frames := 0, cells := 0, slots := 0, locals := 0 }
def f_X6_forget_12 : Nat → Nat → Int32 → Int32 → Wd → Option (Unit × Wd)
  | 0, _, _, _, _ => none
  | n + 1, o, x1, x3, w => gR w (some o) 7 21 (fun v19 => aI w v19 100 x1 (fun v24 => if v24 ≤ x3 then (some ((), w)) else (gR w (some o) 7 22 (fun v31 => gR w (some o) 7 22 (fun v36 => aI w v36 100 (((12 * x1) + x3) + 1) (fun v41 => tI w v31 100 ((12 * x1) + x3) v41 (fun w47 => gR w47 (some o) 7 23 (fun v53 => gR w47 (some o) 7 23 (fun v58 => aI w47 v58 100 (((12 * x1) + x3) + 1) (fun v63 => tI w47 v53 100 ((12 * x1) + x3) v63 (fun w69 => gR w69 (some o) 7 24 (fun v75 => gR w69 (some o) 7 24 (fun v80 => aI w69 v80 100 (((12 * x1) + x3) + 1) (fun v85 => tI w69 v75 100 ((12 * x1) + x3) v85 (fun w91 => gR w91 (some o) 7 25 (fun v97 => gR w91 (some o) 7 25 (fun v102 => aL w91 v102 101 (((12 * x1) + x3) + 1) (fun v107 => tL w91 v97 101 ((12 * x1) + x3) v107 (fun w113 => (f_X6_forget_12 n) o x1 (x3 + 1) w113)))))))))))))))))))
set_option maxHeartbeats 4000000 in
set_option maxRecDepth 100000 in
theorem b_X6_forget_12 {l : Launch} {D : va_G} {aC : Nat → ClassId} {b0 : Nat} {p : Program} {e : Env} {s : State} {m : MethodId} {args : Array Value} {below : List Frame} {meth : Method} {c : Code} (X : Cx D aC p s m args meth c cX6_forget RX6 5 "forget" none) {res : (Unit × Wd)} : ∀ (n : Nat) (o : Nat) (x1 : Int32) (x3 : Int32) (w : Wd), BW l D aC b0 p e rX6_forget s m args below meth c (Qe D aC b0 below args s 0 0 none res.2) res 0 0 0 0 (f_X6_forget_12 n o x1 x3 w) w 12 5 [(0, va_rf (some o)), (1, .int x1), (3, .int x3)] [] := by
  intro n
  induction n with
  | zero =>
    intro o x1 x3 w H locs cells slots ls hf
    rw [f_X6_forget_12.eq_1] at hf
    cases hf
  | succ n ih =>
    intro o x1 x3 w H locs cells slots ls hf M hS hc hs hl
    rw [f_X6_forget_12.eq_2] at hf
    refine lv_iload_n X.1 X.2.1 dX6_forget_12 rfl (lv_at hl 2 rfl) ?_
    refine q_aload_n X dX6_forget_13 rfl (lv_at hl 0 rfl) ?_
    have ho := gR_e hf
    clear hf
    obtain ⟨a18, v19, e20, k21, q22, hf⟩ := ho
    cases e20
    refine q_get X M flX6_53.g k21 (congrArg va_rf q22) dX6_forget_14 ?_
    refine lv_iload_n X.1 X.2.1 dX6_forget_17 rfl (lv_at hl 1 rfl) ?_
    have ho := aI_e hf
    clear hf
    obtain ⟨a23, v24, e25, k26, i27, q28, hf⟩ := ho
    cases e25
    refine q_iald X M k26 i27 dX6_forget_18 ?_
    rw [q28]
    refine lv_icmp_ge (tgt := 100) X.1 X.2.1 dX6_forget_19 (by decide) (fun c29 => ?_) (fun c29 => ?_)
    · rw [if_pos c29] at hf
      obtain rfl := Option.some.inj hf
      exact q_vret X M hS (by omega) (by omega) dX6_forget_100
    · rw [if_neg c29] at hf
      refine lv_bipush (v := 12) X.1 X.2.1 dX6_forget_22 (by decide) ?_
      refine lv_iload_n X.1 X.2.1 dX6_forget_24 rfl (lv_at hl 1 rfl) ?_
      refine lv_imul X.1 X.2.1 dX6_forget_25 ?_
      refine lv_iload_n X.1 X.2.1 dX6_forget_26 rfl (lv_at hl 2 rfl) ?_
      refine lv_iadd X.1 X.2.1 dX6_forget_27 ?_
      refine lv_istore (i := 4) (lv' := [(4, .int ((12 * x1) + x3)), (0, va_rf (some o)), (1, .int x1), (3, .int x3)]) X.1 X.2.1 dX6_forget_28 hl (by decide) rfl (fun ls hl => ?_)
      refine q_aload_n X dX6_forget_30 rfl (lv_at hl 1 rfl) ?_
      have ho := gR_e hf
      clear hf
      obtain ⟨a30, v31, e32, k33, q34, hf⟩ := ho
      cases e32
      refine q_get X M flX6_56.g k33 (congrArg va_rf q34) dX6_forget_31 ?_
      refine lv_iload X.1 X.2.1 dX6_forget_34 (lv_at hl 0 rfl) ?_
      refine q_aload_n X dX6_forget_36 rfl (lv_at hl 1 rfl) ?_
      have ho := gR_e hf
      clear hf
      obtain ⟨a35, v36, e37, k38, q39, hf⟩ := ho
      cases e37
      refine q_get X M flX6_56.g k38 (congrArg va_rf q39) dX6_forget_37 ?_
      refine lv_iload X.1 X.2.1 dX6_forget_40 (lv_at hl 0 rfl) ?_
      refine lv_iconst (v := 1) X.1 X.2.1 dX6_forget_42 (by decide) ?_
      refine lv_iadd X.1 X.2.1 dX6_forget_43 ?_
      have ho := aI_e hf
      clear hf
      obtain ⟨a40, v41, e42, k43, i44, q45, hf⟩ := ho
      cases e42
      refine q_iald X M k43 i44 dX6_forget_44 ?_
      rw [q45]
      have ho := tI_e hf
      clear hf
      obtain ⟨a46, w47, e48, k49, i50, q51, hf⟩ := ho
      cases e48
      refine q_iast X M hS k49 i50 dX6_forget_45 (fun H locs M hS => ?_)
      rw [q51] at M
      refine q_aload_n X dX6_forget_46 rfl (lv_at hl 1 rfl) ?_
      have ho := gR_e hf
      clear hf
      obtain ⟨a52, v53, e54, k55, q56, hf⟩ := ho
      cases e54
      refine q_get X M flX6_59.g k55 (congrArg va_rf q56) dX6_forget_47 ?_
      refine lv_iload X.1 X.2.1 dX6_forget_50 (lv_at hl 0 rfl) ?_
      refine q_aload_n X dX6_forget_52 rfl (lv_at hl 1 rfl) ?_
      have ho := gR_e hf
      clear hf
      obtain ⟨a57, v58, e59, k60, q61, hf⟩ := ho
      cases e59
      refine q_get X M flX6_59.g k60 (congrArg va_rf q61) dX6_forget_53 ?_
      refine lv_iload X.1 X.2.1 dX6_forget_56 (lv_at hl 0 rfl) ?_
      refine lv_iconst (v := 1) X.1 X.2.1 dX6_forget_58 (by decide) ?_
      refine lv_iadd X.1 X.2.1 dX6_forget_59 ?_
      have ho := aI_e hf
      clear hf
      obtain ⟨a62, v63, e64, k65, i66, q67, hf⟩ := ho
      cases e64
      refine q_iald X M k65 i66 dX6_forget_60 ?_
      rw [q67]
      have ho := tI_e hf
      clear hf
      obtain ⟨a68, w69, e70, k71, i72, q73, hf⟩ := ho
      cases e70
      refine q_iast X M hS k71 i72 dX6_forget_61 (fun H locs M hS => ?_)
      rw [q73] at M
      refine q_aload_n X dX6_forget_62 rfl (lv_at hl 1 rfl) ?_
      have ho := gR_e hf
      clear hf
      obtain ⟨a74, v75, e76, k77, q78, hf⟩ := ho
      cases e76
      refine q_get X M flX6_62.g k77 (congrArg va_rf q78) dX6_forget_63 ?_
      refine lv_iload X.1 X.2.1 dX6_forget_66 (lv_at hl 0 rfl) ?_
      refine q_aload_n X dX6_forget_68 rfl (lv_at hl 1 rfl) ?_
      have ho := gR_e hf
      clear hf
      obtain ⟨a79, v80, e81, k82, q83, hf⟩ := ho
      cases e81
      refine q_get X M flX6_62.g k82 (congrArg va_rf q83) dX6_forget_69 ?_
      refine lv_iload X.1 X.2.1 dX6_forget_72 (lv_at hl 0 rfl) ?_
      refine lv_iconst (v := 1) X.1 X.2.1 dX6_forget_74 (by decide) ?_
      refine lv_iadd X.1 X.2.1 dX6_forget_75 ?_
      have ho := aI_e hf
      clear hf
      obtain ⟨a84, v85, e86, k87, i88, q89, hf⟩ := ho
      cases e86
      refine q_iald X M k87 i88 dX6_forget_76 ?_
      rw [q89]
      have ho := tI_e hf
      clear hf
      obtain ⟨a90, w91, e92, k93, i94, q95, hf⟩ := ho
      cases e92
      refine q_iast X M hS k93 i94 dX6_forget_77 (fun H locs M hS => ?_)
      rw [q95] at M
      refine q_aload_n X dX6_forget_78 rfl (lv_at hl 1 rfl) ?_
      have ho := gR_e hf
      clear hf
      obtain ⟨a96, v97, e98, k99, q100, hf⟩ := ho
      cases e98
      refine q_get X M flX6_65.g k99 (congrArg va_rf q100) dX6_forget_79 ?_
      refine lv_iload X.1 X.2.1 dX6_forget_82 (lv_at hl 0 rfl) ?_
      refine q_aload_n X dX6_forget_84 rfl (lv_at hl 1 rfl) ?_
      have ho := gR_e hf
      clear hf
      obtain ⟨a101, v102, e103, k104, q105, hf⟩ := ho
      cases e103
      refine q_get X M flX6_65.g k104 (congrArg va_rf q105) dX6_forget_85 ?_
      refine lv_iload X.1 X.2.1 dX6_forget_88 (lv_at hl 0 rfl) ?_
      refine lv_iconst (v := 1) X.1 X.2.1 dX6_forget_90 (by decide) ?_
      refine lv_iadd X.1 X.2.1 dX6_forget_91 ?_
      have ho := aL_e hf
      clear hf
      obtain ⟨a106, v107, e108, k109, i110, q111, hf⟩ := ho
      cases e108
      refine q_lald X M k109 i110 dX6_forget_92 ?_
      rw [q111]
      have ho := tL_e hf
      clear hf
      obtain ⟨a112, w113, e114, k115, i116, q117, hf⟩ := ho
      cases e114
      refine q_last X M hS k115 i116 dX6_forget_93 (fun H locs M hS => ?_)
      rw [q117] at M
      refine lv_iinc (v := (x3 + 1)) (lv' := [(3, .int (x3 + 1)), (4, .int ((12 * x1) + x3)), (0, va_rf (some o)), (1, .int x1)]) X.1 X.2.1 dX6_forget_94 hl (k := 3) rfl rfl (by decide) rfl (fun ls hl => ?_)
      refine lv_goto (tgt := 12) X.1 X.2.1 dX6_forget_97 (by decide) ?_
      exact ih o x1 (x3 + 1) w113 _ _ _ _ _ hf M hS (by omega) (by omega) (lv_sub hl [2, 3, 0] rfl)
def f_X6_forget (o : Nat) (x1 : Int32) (x2 : Int32) (w : Wd) : Option (Unit × Wd) := gR w (some o) 7 21 (fun v2 => aI w v2 100 x1 (fun v7 => tI w v2 100 x1 (v7 - 1) (fun w13 => (f_X6_forget_12 FU) o x1 x2 w13)))
set_option maxHeartbeats 4000000 in
set_option maxRecDepth 100000 in
theorem e_X6_forget {l : Launch} {D : va_G} {aC : Nat → ClassId} {b0 : Nat} {p : Program} {e : Env} {s : State} {m : MethodId} {args : Array Value} {below : List Frame} {meth : Method} {c : Code} (X : Cx D aC p s m args meth c cX6_forget RX6 5 "forget" none) {res : (Unit × Wd)} (o : Nat) (x1 : Int32) (x2 : Int32) (w : Wd) : BW l D aC b0 p e rX6_forget s m args below meth c (Qe D aC b0 below args s 0 0 none res.2) res 0 0 0 0 (f_X6_forget o x1 x2 w) w 0 5 [(0, va_rf (some o)), (1, .int x1), (2, .int x2)] [] := by
  intro H locs cells slots ls hf M hS hc hs hl
  unfold f_X6_forget at hf
  refine q_aload_n X dX6_forget_0 rfl (lv_at hl 0 rfl) ?_
  have ho := gR_e hf
  clear hf
  obtain ⟨a1, v2, e3, k4, q5, hf⟩ := ho
  cases e3
  refine q_get X M flX6_53.g k4 (congrArg va_rf q5) dX6_forget_1 ?_
  refine lv_iload_n X.1 X.2.1 dX6_forget_4 rfl (lv_at hl 1 rfl) ?_
  refine lv_dup2_11 X.1 X.2.1 dX6_forget_5 rfl (cat1 _) ?_
  have ho := aI_e hf
  clear hf
  obtain ⟨a6, v7, e8, k9, i10, q11, hf⟩ := ho
  cases e8
  refine q_iald X M k9 i10 dX6_forget_6 ?_
  rw [q11]
  refine lv_iconst (v := 1) X.1 X.2.1 dX6_forget_7 (by decide) ?_
  refine lv_isub X.1 X.2.1 dX6_forget_8 ?_
  have ho := tI_e hf
  clear hf
  obtain ⟨a12, w13, e14, k15, i16, q17, hf⟩ := ho
  cases e14
  refine q_iast X M hS k15 i16 dX6_forget_9 (fun H locs M hS => ?_)
  rw [q17] at M
  refine lv_iload_n X.1 X.2.1 dX6_forget_10 rfl (lv_at hl 2 rfl) ?_
  refine lv_istore_n (i := 3) (lv' := [(3, .int x2), (0, va_rf (some o)), (1, .int x1), (2, .int x2)]) X.1 X.2.1 dX6_forget_11 rfl hl (by decide) rfl (fun ls hl => ?_)
  exact (b_X6_forget_12 X FU) o x1 x2 w13 _ _ _ _ _ hf M hS (by omega) (by omega) (lv_sub hl [1, 2, 0] rfl)
theorem m_X6_forget {l : Launch} {D : va_G} {aC : Nat → ClassId} {b0 : Nat} {w : Wd} (o : Nat) (x1 : Int32) (x2 : Int32) (v : Unit) (w' : Wd) (hf : f_X6_forget o x1 x2 w = some (v, w')) : Ct l D aC b0 yX6_forget (Cond.code yX6_forget cX6_forget 5 none :: Gw) rX6_forget [va_rf (some o), .int x1, .int x2] w none w' :=
  q_met (by decide) (Nat.le_of_ble_eq_true rfl) (fun p e s m below meth c X M ls hl => e_X6_forget X (res := (v, w')) o x1 x2 w s.heap [] 0 0 ls hf M va_S.rf (by decide) (by decide) hl)
abbrev rX6_know : Room := { frames := 1, cells := 0, slots := 0, locals := 24 }
def f_X6_know_141 (K92 : Nat → Int32 → Int32 → Int32 → Int32 → Int32 → Wd → Option (Unit × Wd)) (o : Nat) (x2 : Int32) (x3 : Int32) (x5 : Int32) (x7 : Int32) (x8 : Int32) (w : Wd) : Option (Unit × Wd) := K92 o x2 x3 x5 x7 (x8 + (-1)) w
set_option maxHeartbeats 4000000 in
set_option maxRecDepth 100000 in
theorem b_X6_know_141 {l : Launch} {D : va_G} {aC : Nat → ClassId} {b0 : Nat} {p : Program} {e : Env} {s : State} {m : MethodId} {args : Array Value} {below : List Frame} {meth : Method} {c : Code} (X : Cx D aC p s m args meth c cX6_know RX6 10 "know" none) {res : (Unit × Wd)} {K92 : Nat → Int32 → Int32 → Int32 → Int32 → Int32 → Wd → Option (Unit × Wd)} (hK92 : ∀ (o : Nat) (x2 : Int32) (x3 : Int32) (x5 : Int32) (x7 : Int32) (x8 : Int32) (w : Wd), BW l D aC b0 p e rX6_know s m args below meth c (Qe D aC b0 below args s 0 0 none res.2) res 0 0 0 0 (K92 o x2 x3 x5 x7 x8 w) w 92 10 [(0, va_rf (some o)), (2, .int x2), (3, .int x3), (5, .int x5), (7, .int x7), (8, .int x8)] []) : ∀ (o : Nat) (x2 : Int32) (x3 : Int32) (x5 : Int32) (x7 : Int32) (x8 : Int32) (w : Wd), BW l D aC b0 p e rX6_know s m args below meth c (Qe D aC b0 below args s 0 0 none res.2) res 0 0 0 0 (f_X6_know_141 K92 o x2 x3 x5 x7 x8 w) w 141 10 [(0, va_rf (some o)), (2, .int x2), (3, .int x3), (5, .int x5), (7, .int x7), (8, .int x8)] [] := by
  intro o x2 x3 x5 x7 x8 w H locs cells slots ls hf M hS hc hs hl
  unfold f_X6_know_141 at hf
  refine lv_iinc (v := (x8 + (-1))) (lv' := [(8, .int (x8 + (-1))), (0, va_rf (some o)), (2, .int x2), (3, .int x3), (5, .int x5), (7, .int x7)]) X.1 X.2.1 dX6_know_141 hl (k := 5) rfl rfl (by decide) rfl (fun ls hl => ?_)
  refine lv_goto (tgt := 92) X.1 X.2.1 dX6_know_144 (by decide) ?_
  exact hK92 o x2 x3 x5 x7 (x8 + (-1)) w _ _ _ _ _ hf M hS (by omega) (by omega) (lv_sub hl [1, 2, 3, 4, 5, 0] rfl)
def f_X6_know_134 (K92 : Nat → Int32 → Int32 → Int32 → Int32 → Int32 → Wd → Option (Unit × Wd)) (o : Nat) (x2 : Int32) (x3 : Int32) (x5 : Int32) (x7 : Int32) (x8 : Int32) (w : Wd) : Option (Unit × Wd) := chk w (some o) 7 (fun a76 => bnd (f_X6_forget a76 x2 x8 w) (fun v73 w74 => (f_X6_know_141 K92) o x2 x3 x5 x7 x8 w74))
set_option maxHeartbeats 4000000 in
set_option maxRecDepth 100000 in
theorem b_X6_know_134 {l : Launch} {D : va_G} {aC : Nat → ClassId} {b0 : Nat} {p : Program} {e : Env} {s : State} {m : MethodId} {args : Array Value} {below : List Frame} {meth : Method} {c : Code} (X : Cx D aC p s m args meth c cX6_know RX6 10 "know" none) {res : (Unit × Wd)} {K92 : Nat → Int32 → Int32 → Int32 → Int32 → Int32 → Wd → Option (Unit × Wd)} (hK92 : ∀ (o : Nat) (x2 : Int32) (x3 : Int32) (x5 : Int32) (x7 : Int32) (x8 : Int32) (w : Wd), BW l D aC b0 p e rX6_know s m args below meth c (Qe D aC b0 below args s 0 0 none res.2) res 0 0 0 0 (K92 o x2 x3 x5 x7 x8 w) w 92 10 [(0, va_rf (some o)), (2, .int x2), (3, .int x3), (5, .int x5), (7, .int x7), (8, .int x8)] []) : ∀ (o : Nat) (x2 : Int32) (x3 : Int32) (x5 : Int32) (x7 : Int32) (x8 : Int32) (w : Wd), BW l D aC b0 p e rX6_know s m args below meth c (Qe D aC b0 below args s 0 0 none res.2) res 0 0 0 0 (f_X6_know_134 K92 o x2 x3 x5 x7 x8 w) w 134 10 [(0, va_rf (some o)), (2, .int x2), (3, .int x3), (5, .int x5), (7, .int x7), (8, .int x8)] [] := by
  intro o x2 x3 x5 x7 x8 w H locs cells slots ls hf M hS hc hs hl
  unfold f_X6_know_134 at hf
  refine q_aload_n X dX6_know_134 rfl (lv_at hl 0 rfl) ?_
  refine lv_iload_n X.1 X.2.1 dX6_know_135 rfl (lv_at hl 1 rfl) ?_
  refine lv_iload X.1 X.2.1 dX6_know_136 (lv_at hl 5 rfl) ?_
  have ho := chk_e hf
  clear hf
  obtain ⟨a76, e77, k78, hf⟩ := ho
  cases e77
  have ho := bnd_e hf
  clear hf
  obtain ⟨v73, w74, q75, hf⟩ := ho
  refine q_cV X M hS hl.1 (ci := 6) (r := (RX6, TX6, 53)) (As := [.int x2, .int x8]) (m_X6_forget o x2 x8 _ _ q75) mlX6_207 gm_458 gm_459 rfl (by decide) k78 rfl ⟨(Nat.le_of_ble_eq_true rfl), (Nat.le_of_ble_eq_true rfl)⟩ (rest := []) rfl (Nat.le_of_ble_eq_true rfl) (mc := 0) (ms := 0) (MC := 0) (MS := 0) rfl rfl rfl rfl (by omega) (by omega) dX6_know_138 (st2 := []) rfl (fun H locs M hS => ?_)
  exact (b_X6_know_141 X hK92) o x2 x3 x5 x7 x8 w74 _ _ _ _ _ hf M hS (by omega) (by omega) (lv_sub hl [0, 1, 2, 3, 4, 5] rfl)
def f_X6_know_92 : Nat → Nat → Int32 → Int32 → Int32 → Int32 → Int32 → Wd → Option (Unit × Wd)
  | 0, _, _, _, _, _, _, _ => none
  | n + 1, o, x2, x3, x5, x7, x8, w => if x8 < 0 then (some ((), w)) else (gR w (some o) 7 22 (fun v61 => aI w v61 100 ((12 * x2) + x8) (fun v66 => if v66 = x3 then (if x7 = 0 then (gR w (some o) 7 24 (fun v80 => aI w v80 100 ((12 * x2) + x8) (fun v85 => if x5 ≤ v85 then ((f_X6_know_141 (f_X6_know_92 n)) o x2 x3 x5 x7 x8 w) else ((f_X6_know_134 (f_X6_know_92 n)) o x2 x3 x5 x7 x8 w)))) else ((f_X6_know_134 (f_X6_know_92 n)) o x2 x3 x5 x7 x8 w)) else ((f_X6_know_141 (f_X6_know_92 n)) o x2 x3 x5 x7 x8 w))))
set_option maxHeartbeats 4000000 in
set_option maxRecDepth 100000 in
theorem b_X6_know_92 {l : Launch} {D : va_G} {aC : Nat → ClassId} {b0 : Nat} {p : Program} {e : Env} {s : State} {m : MethodId} {args : Array Value} {below : List Frame} {meth : Method} {c : Code} (X : Cx D aC p s m args meth c cX6_know RX6 10 "know" none) {res : (Unit × Wd)} : ∀ (n : Nat) (o : Nat) (x2 : Int32) (x3 : Int32) (x5 : Int32) (x7 : Int32) (x8 : Int32) (w : Wd), BW l D aC b0 p e rX6_know s m args below meth c (Qe D aC b0 below args s 0 0 none res.2) res 0 0 0 0 (f_X6_know_92 n o x2 x3 x5 x7 x8 w) w 92 10 [(0, va_rf (some o)), (2, .int x2), (3, .int x3), (5, .int x5), (7, .int x7), (8, .int x8)] [] := by
  intro n
  induction n with
  | zero =>
    intro o x2 x3 x5 x7 x8 w H locs cells slots ls hf
    rw [f_X6_know_92.eq_1] at hf
    cases hf
  | succ n ih =>
    intro o x2 x3 x5 x7 x8 w H locs cells slots ls hf M hS hc hs hl
    rw [f_X6_know_92.eq_2] at hf
    refine lv_iload X.1 X.2.1 dX6_know_92 (lv_at hl 5 rfl) ?_
    refine lv_if_lt (tgt := 147) X.1 X.2.1 dX6_know_94 (by decide) (fun c59 => ?_) (fun c59 => ?_)
    · rw [if_pos c59] at hf
      obtain rfl := Option.some.inj hf
      exact q_vret X M hS (by omega) (by omega) dX6_know_147
    · rw [if_neg c59] at hf
      refine lv_bipush (v := 12) X.1 X.2.1 dX6_know_97 (by decide) ?_
      refine lv_iload_n X.1 X.2.1 dX6_know_99 rfl (lv_at hl 1 rfl) ?_
      refine lv_imul X.1 X.2.1 dX6_know_100 ?_
      refine lv_iload X.1 X.2.1 dX6_know_101 (lv_at hl 5 rfl) ?_
      refine lv_iadd X.1 X.2.1 dX6_know_103 ?_
      refine lv_istore (i := 9) (lv' := [(9, .int ((12 * x2) + x8)), (0, va_rf (some o)), (2, .int x2), (3, .int x3), (5, .int x5), (7, .int x7), (8, .int x8)]) X.1 X.2.1 dX6_know_104 hl (by decide) rfl (fun ls hl => ?_)
      refine q_aload_n X dX6_know_106 rfl (lv_at hl 1 rfl) ?_
      have ho := gR_e hf
      clear hf
      obtain ⟨a60, v61, e62, k63, q64, hf⟩ := ho
      cases e62
      refine q_get X M flX6_56.g k63 (congrArg va_rf q64) dX6_know_107 ?_
      refine lv_iload X.1 X.2.1 dX6_know_110 (lv_at hl 0 rfl) ?_
      have ho := aI_e hf
      clear hf
      obtain ⟨a65, v66, e67, k68, i69, q70, hf⟩ := ho
      cases e67
      refine q_iald X M k68 i69 dX6_know_112 ?_
      rw [q70]
      refine lv_iload_n X.1 X.2.1 dX6_know_113 rfl (lv_at hl 3 rfl) ?_
      refine lv_icmp_ne (tgt := 141) X.1 X.2.1 dX6_know_114 (by decide) (fun c71 => ?_) (fun c71 => ?_)
      · rw [if_neg c71] at hf
        exact (b_X6_know_141 X ih) o x2 x3 x5 x7 x8 w _ _ _ _ _ hf M hS (by omega) (by omega) (lv_sub hl [1, 2, 3, 4, 5, 6] rfl)
      · rw [if_pos c71] at hf
        refine lv_iload X.1 X.2.1 dX6_know_117 (lv_at hl 5 rfl) ?_
        refine lv_if_ne (tgt := 134) X.1 X.2.1 dX6_know_119 (by decide) (fun c72 => ?_) (fun c72 => ?_)
        · rw [if_neg c72] at hf
          exact (b_X6_know_134 X ih) o x2 x3 x5 x7 x8 w _ _ _ _ _ hf M hS (by omega) (by omega) (lv_sub hl [1, 2, 3, 4, 5, 6] rfl)
        · rw [if_pos c72] at hf
          refine q_aload_n X dX6_know_122 rfl (lv_at hl 1 rfl) ?_
          have ho := gR_e hf
          clear hf
          obtain ⟨a79, v80, e81, k82, q83, hf⟩ := ho
          cases e81
          refine q_get X M flX6_62.g k82 (congrArg va_rf q83) dX6_know_123 ?_
          refine lv_iload X.1 X.2.1 dX6_know_126 (lv_at hl 0 rfl) ?_
          have ho := aI_e hf
          clear hf
          obtain ⟨a84, v85, e86, k87, i88, q89, hf⟩ := ho
          cases e86
          refine q_iald X M k87 i88 dX6_know_128 ?_
          rw [q89]
          refine lv_iload X.1 X.2.1 dX6_know_129 (lv_at hl 4 rfl) ?_
          refine lv_icmp_ge (tgt := 141) X.1 X.2.1 dX6_know_131 (by decide) (fun c90 => ?_) (fun c90 => ?_)
          · rw [if_pos c90] at hf
            exact (b_X6_know_141 X ih) o x2 x3 x5 x7 x8 w _ _ _ _ _ hf M hS (by omega) (by omega) (lv_sub hl [1, 2, 3, 4, 5, 6] rfl)
          · rw [if_neg c90] at hf
            exact (b_X6_know_134 X ih) o x2 x3 x5 x7 x8 w _ _ _ _ _ hf M hS (by omega) (by omega) (lv_sub hl [1, 2, 3, 4, 5, 6] rfl)
def f_X6_know_57 (o : Nat) (x1 : Int32) (x2 : Int32) (x3 : Int32) (x4 : Int32) (x5 : Int32) (x6 : Int32) (x7 : Int32) (w : Wd) : Option (Unit × Wd) := gR w (some o) 7 26 (fun v15 => tI w v15 100 x6 x4 (fun w20 => gR w20 (some o) 7 27 (fun v26 => tI w20 v26 100 x6 x5 (fun w31 => gR w31 (some o) 7 29 (fun v37 => tZ w31 v37 102 x1 1 (fun w42 => gR w42 (some o) 7 21 (fun v49 => aI w42 v49 100 x2 (fun v54 => (f_X6_know_92 FU) o x2 x3 x5 x7 (v54 - 1) w42))))))))
set_option maxHeartbeats 4000000 in
set_option maxRecDepth 100000 in
theorem b_X6_know_57 {l : Launch} {D : va_G} {aC : Nat → ClassId} {b0 : Nat} {p : Program} {e : Env} {s : State} {m : MethodId} {args : Array Value} {below : List Frame} {meth : Method} {c : Code} (X : Cx D aC p s m args meth c cX6_know RX6 10 "know" none) {res : (Unit × Wd)} : ∀ (o : Nat) (x1 : Int32) (x2 : Int32) (x3 : Int32) (x4 : Int32) (x5 : Int32) (x6 : Int32) (x7 : Int32) (w : Wd), BW l D aC b0 p e rX6_know s m args below meth c (Qe D aC b0 below args s 0 0 none res.2) res 0 0 0 0 (f_X6_know_57 o x1 x2 x3 x4 x5 x6 x7 w) w 57 10 [(0, va_rf (some o)), (1, .int x1), (2, .int x2), (3, .int x3), (4, .int x4), (5, .int x5), (6, .int x6), (7, .int x7)] [] := by
  intro o x1 x2 x3 x4 x5 x6 x7 w H locs cells slots ls hf M hS hc hs hl
  unfold f_X6_know_57 at hf
  refine q_aload_n X dX6_know_57 rfl (lv_at hl 0 rfl) ?_
  have ho := gR_e hf
  clear hf
  obtain ⟨a14, v15, e16, k17, q18, hf⟩ := ho
  cases e16
  refine q_get X M flX6_68.g k17 (congrArg va_rf q18) dX6_know_58 ?_
  refine lv_iload X.1 X.2.1 dX6_know_61 (lv_at hl 6 rfl) ?_
  refine lv_iload X.1 X.2.1 dX6_know_63 (lv_at hl 4 rfl) ?_
  have ho := tI_e hf
  clear hf
  obtain ⟨a19, w20, e21, k22, i23, q24, hf⟩ := ho
  cases e21
  refine q_iast X M hS k22 i23 dX6_know_65 (fun H locs M hS => ?_)
  rw [q24] at M
  refine q_aload_n X dX6_know_66 rfl (lv_at hl 0 rfl) ?_
  have ho := gR_e hf
  clear hf
  obtain ⟨a25, v26, e27, k28, q29, hf⟩ := ho
  cases e27
  refine q_get X M flX6_71.g k28 (congrArg va_rf q29) dX6_know_67 ?_
  refine lv_iload X.1 X.2.1 dX6_know_70 (lv_at hl 6 rfl) ?_
  refine lv_iload X.1 X.2.1 dX6_know_72 (lv_at hl 5 rfl) ?_
  have ho := tI_e hf
  clear hf
  obtain ⟨a30, w31, e32, k33, i34, q35, hf⟩ := ho
  cases e32
  refine q_iast X M hS k33 i34 dX6_know_74 (fun H locs M hS => ?_)
  rw [q35] at M
  refine q_aload_n X dX6_know_75 rfl (lv_at hl 0 rfl) ?_
  have ho := gR_e hf
  clear hf
  obtain ⟨a36, v37, e38, k39, q40, hf⟩ := ho
  cases e38
  refine q_get X M flX6_78.g k39 (congrArg va_rf q40) dX6_know_76 ?_
  refine lv_iload_n X.1 X.2.1 dX6_know_79 rfl (lv_at hl 1 rfl) ?_
  refine lv_iconst (v := 1) X.1 X.2.1 dX6_know_80 (by decide) ?_
  have ho := tZ_e hf
  clear hf
  obtain ⟨a41, w42, e43, k44, i45, z47, q46, hf⟩ := ho
  cases e43
  refine q_zast X M hS k44 z47 i45 dX6_know_81 (fun H locs M hS => ?_)
  rw [q46] at M
  refine q_aload_n X dX6_know_82 rfl (lv_at hl 0 rfl) ?_
  have ho := gR_e hf
  clear hf
  obtain ⟨a48, v49, e50, k51, q52, hf⟩ := ho
  cases e50
  refine q_get X M flX6_53.g k51 (congrArg va_rf q52) dX6_know_83 ?_
  refine lv_iload_n X.1 X.2.1 dX6_know_86 rfl (lv_at hl 2 rfl) ?_
  have ho := aI_e hf
  clear hf
  obtain ⟨a53, v54, e55, k56, i57, q58, hf⟩ := ho
  cases e55
  refine q_iald X M k56 i57 dX6_know_87 ?_
  rw [q58]
  refine lv_iconst (v := 1) X.1 X.2.1 dX6_know_88 (by decide) ?_
  refine lv_isub X.1 X.2.1 dX6_know_89 ?_
  refine lv_istore (i := 8) (lv' := [(8, .int (v54 - 1)), (0, va_rf (some o)), (1, .int x1), (2, .int x2), (3, .int x3), (4, .int x4), (5, .int x5), (6, .int x6), (7, .int x7)]) X.1 X.2.1 dX6_know_90 hl (by decide) rfl (fun ls hl => ?_)
  exact (b_X6_know_92 X FU) o x2 x3 x5 x7 (v54 - 1) w42 _ _ _ _ _ hf M hS (by omega) (by omega) (lv_sub hl [1, 3, 4, 6, 8, 0] rfl)
def f_X6_know_25 (o : Nat) (x1 : Int32) (x2 : Int32) (x3 : Int32) (x4 : Int32) (x5 : Int32) (x6 : Int32) (y0 : Int32) (w : Wd) : Option (Unit × Wd) := if y0 = 0 then (gR w (some o) 7 26 (fun v92 => aI w v92 100 x6 (fun v97 => if x4 < v97 then (some ((), w)) else (gR w (some o) 7 27 (fun v104 => aI w v104 100 x6 (fun v109 => if v109 < x5 then ((f_X6_know_57) o x1 x2 x3 x4 x5 x6 y0 w) else (some ((), w)))))))) else ((f_X6_know_57) o x1 x2 x3 x4 x5 x6 y0 w)
set_option maxHeartbeats 4000000 in
set_option maxRecDepth 100000 in
theorem b_X6_know_25 {l : Launch} {D : va_G} {aC : Nat → ClassId} {b0 : Nat} {p : Program} {e : Env} {s : State} {m : MethodId} {args : Array Value} {below : List Frame} {meth : Method} {c : Code} (X : Cx D aC p s m args meth c cX6_know RX6 10 "know" none) {res : (Unit × Wd)} : ∀ (o : Nat) (x1 : Int32) (x2 : Int32) (x3 : Int32) (x4 : Int32) (x5 : Int32) (x6 : Int32) (y0 : Int32) (w : Wd), BW l D aC b0 p e rX6_know s m args below meth c (Qe D aC b0 below args s 0 0 none res.2) res 0 0 0 0 (f_X6_know_25 o x1 x2 x3 x4 x5 x6 y0 w) w 25 10 [(0, va_rf (some o)), (1, .int x1), (2, .int x2), (3, .int x3), (4, .int x4), (5, .int x5), (6, .int x6)] [.int y0] := by
  intro o x1 x2 x3 x4 x5 x6 y0 w H locs cells slots ls hf M hS hc hs hl
  unfold f_X6_know_25 at hf
  refine lv_istore (i := 7) (lv' := [(7, .int y0), (0, va_rf (some o)), (1, .int x1), (2, .int x2), (3, .int x3), (4, .int x4), (5, .int x5), (6, .int x6)]) X.1 X.2.1 dX6_know_25 hl (by decide) rfl (fun ls hl => ?_)
  refine lv_iload X.1 X.2.1 dX6_know_27 (lv_at hl 0 rfl) ?_
  refine lv_if_ne (tgt := 57) X.1 X.2.1 dX6_know_29 (by decide) (fun c13 => ?_) (fun c13 => ?_)
  · rw [if_neg c13] at hf
    exact (b_X6_know_57 X) o x1 x2 x3 x4 x5 x6 y0 w _ _ _ _ _ hf M hS (by omega) (by omega) (lv_sub hl [1, 2, 3, 4, 5, 6, 7, 0] rfl)
  · rw [if_pos c13] at hf
    refine lv_iload X.1 X.2.1 dX6_know_32 (lv_at hl 5 rfl) ?_
    refine q_aload_n X dX6_know_34 rfl (lv_at hl 1 rfl) ?_
    have ho := gR_e hf
    clear hf
    obtain ⟨a91, v92, e93, k94, q95, hf⟩ := ho
    cases e93
    refine q_get X M flX6_68.g k94 (congrArg va_rf q95) dX6_know_35 ?_
    refine lv_iload X.1 X.2.1 dX6_know_38 (lv_at hl 7 rfl) ?_
    have ho := aI_e hf
    clear hf
    obtain ⟨a96, v97, e98, k99, i100, q101, hf⟩ := ho
    cases e98
    refine q_iald X M k99 i100 dX6_know_40 ?_
    rw [q101]
    refine lv_icmp_lt (tgt := 56) X.1 X.2.1 dX6_know_41 (by decide) (fun c102 => ?_) (fun c102 => ?_)
    · rw [if_pos c102] at hf
      obtain rfl := Option.some.inj hf
      exact q_vret X M hS (by omega) (by omega) dX6_know_56
    · rw [if_neg c102] at hf
      refine lv_iload X.1 X.2.1 dX6_know_44 (lv_at hl 6 rfl) ?_
      refine q_aload_n X dX6_know_46 rfl (lv_at hl 1 rfl) ?_
      have ho := gR_e hf
      clear hf
      obtain ⟨a103, v104, e105, k106, q107, hf⟩ := ho
      cases e105
      refine q_get X M flX6_71.g k106 (congrArg va_rf q107) dX6_know_47 ?_
      refine lv_iload X.1 X.2.1 dX6_know_50 (lv_at hl 7 rfl) ?_
      have ho := aI_e hf
      clear hf
      obtain ⟨a108, v109, e110, k111, i112, q113, hf⟩ := ho
      cases e110
      refine q_iald X M k111 i112 dX6_know_52 ?_
      rw [q113]
      refine lv_icmp_gt (tgt := 57) X.1 X.2.1 dX6_know_53 (by decide) (fun c114 => ?_) (fun c114 => ?_)
      · rw [if_pos c114] at hf
        exact (b_X6_know_57 X) o x1 x2 x3 x4 x5 x6 y0 w _ _ _ _ _ hf M hS (by omega) (by omega) (lv_sub hl [1, 2, 3, 4, 5, 6, 7, 0] rfl)
      · rw [if_neg c114] at hf
        obtain rfl := Option.some.inj hf
        exact q_vret X M hS (by omega) (by omega) dX6_know_56
def f_X6_know (o : Nat) (x1 : Int32) (x2 : Int32) (x3 : Int32) (x4 : Int32) (x5 : Int32) (w : Wd) : Option (Unit × Wd) := gR w (some o) 7 26 (fun v2 => aI w v2 100 ((6 * x2) + x3) (fun v7 => if x4 ≤ v7 then ((f_X6_know_25) o x1 x2 x3 x4 x5 ((6 * x2) + x3) 0 w) else ((f_X6_know_25) o x1 x2 x3 x4 x5 ((6 * x2) + x3) 1 w)))
set_option maxHeartbeats 4000000 in
set_option maxRecDepth 100000 in
theorem e_X6_know {l : Launch} {D : va_G} {aC : Nat → ClassId} {b0 : Nat} {p : Program} {e : Env} {s : State} {m : MethodId} {args : Array Value} {below : List Frame} {meth : Method} {c : Code} (X : Cx D aC p s m args meth c cX6_know RX6 10 "know" none) {res : (Unit × Wd)} (o : Nat) (x1 : Int32) (x2 : Int32) (x3 : Int32) (x4 : Int32) (x5 : Int32) (w : Wd) : BW l D aC b0 p e rX6_know s m args below meth c (Qe D aC b0 below args s 0 0 none res.2) res 0 0 0 0 (f_X6_know o x1 x2 x3 x4 x5 w) w 0 10 [(0, va_rf (some o)), (1, .int x1), (2, .int x2), (3, .int x3), (4, .int x4), (5, .int x5)] [] := by
  intro H locs cells slots ls hf M hS hc hs hl
  unfold f_X6_know at hf
  refine lv_bipush (v := 6) X.1 X.2.1 dX6_know_0 (by decide) ?_
  refine lv_iload_n X.1 X.2.1 dX6_know_2 rfl (lv_at hl 2 rfl) ?_
  refine lv_imul X.1 X.2.1 dX6_know_3 ?_
  refine lv_iload_n X.1 X.2.1 dX6_know_4 rfl (lv_at hl 3 rfl) ?_
  refine lv_iadd X.1 X.2.1 dX6_know_5 ?_
  refine lv_istore (i := 6) (lv' := [(6, .int ((6 * x2) + x3)), (0, va_rf (some o)), (1, .int x1), (2, .int x2), (3, .int x3), (4, .int x4), (5, .int x5)]) X.1 X.2.1 dX6_know_6 hl (by decide) rfl (fun ls hl => ?_)
  refine lv_iload X.1 X.2.1 dX6_know_8 (lv_at hl 5 rfl) ?_
  refine q_aload_n X dX6_know_10 rfl (lv_at hl 1 rfl) ?_
  have ho := gR_e hf
  clear hf
  obtain ⟨a1, v2, e3, k4, q5, hf⟩ := ho
  cases e3
  refine q_get X M flX6_68.g k4 (congrArg va_rf q5) dX6_know_11 ?_
  refine lv_iload X.1 X.2.1 dX6_know_14 (lv_at hl 0 rfl) ?_
  have ho := aI_e hf
  clear hf
  obtain ⟨a6, v7, e8, k9, i10, q11, hf⟩ := ho
  cases e8
  refine q_iald X M k9 i10 dX6_know_16 ?_
  rw [q11]
  refine lv_icmp_le (tgt := 24) X.1 X.2.1 dX6_know_17 (by decide) (fun c12 => ?_) (fun c12 => ?_)
  · rw [if_pos c12] at hf
    refine lv_iconst (v := 0) X.1 X.2.1 dX6_know_24 (by decide) ?_
    exact (b_X6_know_25 X) o x1 x2 x3 x4 x5 ((6 * x2) + x3) 0 w _ _ _ _ _ hf M hS (by omega) (by omega) (lv_sub hl [1, 2, 3, 4, 5, 6, 0] rfl)
  · rw [if_neg c12] at hf
    refine lv_iconst (v := 1) X.1 X.2.1 dX6_know_20 (by decide) ?_
    refine lv_goto (tgt := 25) X.1 X.2.1 dX6_know_21 (by decide) ?_
    exact (b_X6_know_25 X) o x1 x2 x3 x4 x5 ((6 * x2) + x3) 1 w _ _ _ _ _ hf M hS (by omega) (by omega) (lv_sub hl [1, 2, 3, 4, 5, 6, 0] rfl)
theorem m_X6_know {l : Launch} {D : va_G} {aC : Nat → ClassId} {b0 : Nat} {w : Wd} (o : Nat) (x1 : Int32) (x2 : Int32) (x3 : Int32) (x4 : Int32) (x5 : Int32) (v : Unit) (w' : Wd) (hf : f_X6_know o x1 x2 x3 x4 x5 w = some (v, w')) : Ct l D aC b0 yX6_know (Cond.code yX6_know cX6_know 10 none :: Gw) rX6_know [va_rf (some o), .int x1, .int x2, .int x3, .int x4, .int x5] w none w' :=
  q_met (by decide) (Nat.le_of_ble_eq_true rfl) (fun p e s m below meth c X M ls hl => e_X6_know X (res := (v, w')) o x1 x2 x3 x4 x5 w s.heap [] 0 0 ls hf M va_S.rf (by decide) (by decide) hl)
