abbrev rX6_bucket : Room := { frames := 2, cells := 0, slots := 0, locals := 43 }
def f_X6_bucket (o : Nat) (x1 : Int32) (x2 : Int32) (x3 : Int32) (w : Wd) : Option (Int32 × Wd) := chk w (some o) 7 (fun a4 => bnd (f_X6_isServer a4 x1 w) (fun v1 w2 => if v1 = 0 then (some ((-1), w2)) else (bnd (f_X6_in x2 0 7 w2) (fun v8 w9 => if v8 = 0 then (some ((-1), w9)) else (chk w9 (some o) 7 (fun a15 => bnd (f_X6_store a15 x1 w9) (fun v12 w13 => bnd (f_X6_in x3 10 15 w13) (fun v18 w19 => if v18 = 0 then (bnd (f_X6_in x3 20 25 w19) (fun v22 w23 => if v22 = 0 then (if x3 = 0 then (gR w23 (some o) 7 17 (fun v28 => aI w23 v28 100 (v12 + x2) (fun v33 => some (v33, w23)))) else if x3 = 1 then (gR w23 (some o) 7 18 (fun v40 => aI w23 v40 100 (v12 + x2) (fun v45 => some (v45, w23)))) else if x3 = 2 then (gR w23 (some o) 7 19 (fun v52 => aI w23 v52 100 (v12 + x2) (fun v57 => some (v57, w23)))) else if x3 = 3 then (gR w23 (some o) 7 21 (fun v64 => aI w23 v64 100 (v12 + x2) (fun v69 => some (v69, w23)))) else (some ((-1), w23))) else (gR w23 (some o) 7 27 (fun v75 => aI w23 v75 100 (((6 * (v12 + x2)) + x3) - 20) (fun v80 => some (v80, w23)))))) else (gR w19 (some o) 7 26 (fun v86 => aI w19 v86 100 (((6 * (v12 + x2)) + x3) - 10) (fun v91 => some (v91, w19))))))))))))
set_option maxHeartbeats 4000000 in
set_option maxRecDepth 100000 in
theorem e_X6_bucket {l : Launch} {D : va_G} {aC : Nat → ClassId} {b0 : Nat} {p : Program} {e : Env} {s : State} {m : MethodId} {args : Array Value} {below : List Frame} {meth : Method} {c : Code} (X : Cx D aC p s m args meth c cX6_bucket RX6 5 "bucket" (some .int)) {res : (Int32 × Wd)} (o : Nat) (x1 : Int32) (x2 : Int32) (x3 : Int32) (w : Wd) : BW l D aC b0 p e rX6_bucket s m args below meth c (Qe D aC b0 below args s 0 0 (some (.int res.1)) res.2) res 0 0 0 0 (f_X6_bucket o x1 x2 x3 w) w 0 5 [(0, va_rf (some o)), (1, .int x1), (2, .int x2), (3, .int x3)] [] := by
  intro H locs cells slots ls hf M hS hc hs hl
  unfold f_X6_bucket at hf
  refine q_aload_n X dX6_bucket_0 rfl (lv_at hl 0 rfl) ?_
  refine lv_iload_n X.1 X.2.1 dX6_bucket_1 rfl (lv_at hl 1 rfl) ?_
  have ho := chk_e hf
  clear hf
  obtain ⟨a4, e5, k6, hf⟩ := ho
  cases e5
  have ho := bnd_e hf
  clear hf
  obtain ⟨v1, w2, q3, hf⟩ := ho
  refine q_cV X M hS hl.1 (ci := 6) (r := (RX6, TX6, 53)) (As := [.int x1]) (m_X6_isServer o x1 _ _ q3) mlX6_201 gm_302 gm_303 rfl (by decide) k6 rfl ⟨(Nat.le_of_ble_eq_true rfl), (Nat.le_of_ble_eq_true rfl)⟩ (rest := []) rfl (Nat.le_of_ble_eq_true rfl) (mc := 0) (ms := 0) (MC := 0) (MS := 0) rfl rfl rfl rfl (by omega) (by omega) dX6_bucket_2 (st2 := [.int v1]) rfl (fun H locs M hS => ?_)
  refine lv_if_eq (tgt := 18) X.1 X.2.1 dX6_bucket_5 (by decide) (fun c7 => ?_) (fun c7 => ?_)
  · rw [if_pos c7] at hf
    refine lv_iconst (v := (-1)) X.1 X.2.1 dX6_bucket_18 (by decide) ?_
    obtain rfl := Option.some.inj hf
    exact q_iret X M hS (by omega) (by omega) dX6_bucket_19
  · rw [if_neg c7] at hf
    refine lv_iload_n X.1 X.2.1 dX6_bucket_8 rfl (lv_at hl 2 rfl) ?_
    refine lv_iconst (v := 0) X.1 X.2.1 dX6_bucket_9 (by decide) ?_
    refine lv_bipush (v := 7) X.1 X.2.1 dX6_bucket_10 (by decide) ?_
    have ho := bnd_e hf
    clear hf
    obtain ⟨v8, w9, q10, hf⟩ := ho
    refine q_cS X M hS hl.1 (As := [.int x2, .int 0, .int 7]) (m_X6_in x2 0 7 _ _ q10) mlX6_152 gm_171 rfl ⟨(Nat.le_of_ble_eq_true rfl), (Nat.le_of_ble_eq_true rfl)⟩ (rest := []) rfl (Nat.le_of_ble_eq_true rfl) (mc := 0) (ms := 0) (MC := 0) (MS := 0) rfl rfl rfl rfl (by omega) (by omega) dX6_bucket_12 (st2 := [.int v8]) rfl (fun H locs M hS => ?_)
    refine lv_if_ne (tgt := 20) X.1 X.2.1 dX6_bucket_15 (by decide) (fun c11 => ?_) (fun c11 => ?_)
    · rw [if_neg c11] at hf
      refine q_aload_n X dX6_bucket_20 rfl (lv_at hl 0 rfl) ?_
      refine lv_iload_n X.1 X.2.1 dX6_bucket_21 rfl (lv_at hl 1 rfl) ?_
      have ho := chk_e hf
      clear hf
      obtain ⟨a15, e16, k17, hf⟩ := ho
      cases e16
      have ho := bnd_e hf
      clear hf
      obtain ⟨v12, w13, q14, hf⟩ := ho
      refine q_cV X M hS hl.1 (ci := 6) (r := (RX6, TX6, 53)) (As := [.int x1]) (m_X6_store o x1 _ _ q14) mlX6_246 gm_602 gm_603 rfl (by decide) k17 rfl ⟨(Nat.le_of_ble_eq_true rfl), (Nat.le_of_ble_eq_true rfl)⟩ (rest := []) rfl (Nat.le_of_ble_eq_true rfl) (mc := 0) (ms := 0) (MC := 0) (MS := 0) rfl rfl rfl rfl (by omega) (by omega) dX6_bucket_22 (st2 := [.int v12]) rfl (fun H locs M hS => ?_)
      refine lv_iload_n X.1 X.2.1 dX6_bucket_25 rfl (lv_at hl 2 rfl) ?_
      refine lv_iadd X.1 X.2.1 dX6_bucket_26 ?_
      refine lv_istore (i := 4) (lv' := [(4, .int (v12 + x2)), (0, va_rf (some o)), (1, .int x1), (2, .int x2), (3, .int x3)]) X.1 X.2.1 dX6_bucket_27 hl (by decide) rfl (fun ls hl => ?_)
      refine lv_iload_n X.1 X.2.1 dX6_bucket_29 rfl (lv_at hl 4 rfl) ?_
      refine lv_bipush (v := 10) X.1 X.2.1 dX6_bucket_30 (by decide) ?_
      refine lv_bipush (v := 15) X.1 X.2.1 dX6_bucket_32 (by decide) ?_
      have ho := bnd_e hf
      clear hf
      obtain ⟨v18, w19, q20, hf⟩ := ho
      refine q_cS X M hS hl.1 (As := [.int x3, .int 10, .int 15]) (m_X6_in x3 10 15 _ _ q20) mlX6_152 gm_171 rfl ⟨(Nat.le_of_ble_eq_true rfl), (Nat.le_of_ble_eq_true rfl)⟩ (rest := []) rfl (Nat.le_of_ble_eq_true rfl) (mc := 0) (ms := 0) (MC := 0) (MS := 0) rfl rfl rfl rfl (by omega) (by omega) dX6_bucket_34 (st2 := [.int v18]) rfl (fun H locs M hS => ?_)
      refine lv_if_eq (tgt := 56) X.1 X.2.1 dX6_bucket_37 (by decide) (fun c21 => ?_) (fun c21 => ?_)
      · rw [if_pos c21] at hf
        refine lv_iload_n X.1 X.2.1 dX6_bucket_56 rfl (lv_at hl 4 rfl) ?_
        refine lv_bipush (v := 20) X.1 X.2.1 dX6_bucket_57 (by decide) ?_
        refine lv_bipush (v := 25) X.1 X.2.1 dX6_bucket_59 (by decide) ?_
        have ho := bnd_e hf
        clear hf
        obtain ⟨v22, w23, q24, hf⟩ := ho
        refine q_cS X M hS hl.1 (As := [.int x3, .int 20, .int 25]) (m_X6_in x3 20 25 _ _ q24) mlX6_152 gm_171 rfl ⟨(Nat.le_of_ble_eq_true rfl), (Nat.le_of_ble_eq_true rfl)⟩ (rest := []) rfl (Nat.le_of_ble_eq_true rfl) (mc := 0) (ms := 0) (MC := 0) (MS := 0) rfl rfl rfl rfl (by omega) (by omega) dX6_bucket_61 (st2 := [.int v22]) rfl (fun H locs M hS => ?_)
        refine lv_if_eq (tgt := 83) X.1 X.2.1 dX6_bucket_64 (by decide) (fun c25 => ?_) (fun c25 => ?_)
        · rw [if_pos c25] at hf
          refine lv_iload_n X.1 X.2.1 dX6_bucket_83 rfl (lv_at hl 4 rfl) ?_
          by_cases c26 : x3 = 0
          · rw [if_pos c26] at hf
            refine lv_tableIn (tgt := 116) (off := 32) X.1 X.2.1 dX6_bucket_84 (by rw [c26]; decide) (by rw [c26]; decide) (by rw [c26]; rfl) (by decide) ?_
            refine q_aload_n X dX6_bucket_116 rfl (lv_at hl 1 rfl) ?_
            have ho := gR_e hf
            clear hf
            obtain ⟨a27, v28, e29, k30, q31, hf⟩ := ho
            cases e29
            refine q_get X M flX6_41.g k30 (congrArg va_rf q31) dX6_bucket_117 ?_
            refine lv_iload X.1 X.2.1 dX6_bucket_120 (lv_at hl 0 rfl) ?_
            have ho := aI_e hf
            clear hf
            obtain ⟨a32, v33, e34, k35, i36, q37, hf⟩ := ho
            cases e34
            refine q_iald X M k35 i36 dX6_bucket_122 ?_
            rw [q37]
            obtain rfl := Option.some.inj hf
            exact q_iret X M hS (by omega) (by omega) dX6_bucket_123
          rw [if_neg c26] at hf
          by_cases c38 : x3 = 1
          · rw [if_pos c38] at hf
            refine lv_tableIn (tgt := 124) (off := 40) X.1 X.2.1 dX6_bucket_84 (by rw [c38]; decide) (by rw [c38]; decide) (by rw [c38]; rfl) (by decide) ?_
            refine q_aload_n X dX6_bucket_124 rfl (lv_at hl 1 rfl) ?_
            have ho := gR_e hf
            clear hf
            obtain ⟨a39, v40, e41, k42, q43, hf⟩ := ho
            cases e41
            refine q_get X M flX6_44.g k42 (congrArg va_rf q43) dX6_bucket_125 ?_
            refine lv_iload X.1 X.2.1 dX6_bucket_128 (lv_at hl 0 rfl) ?_
            have ho := aI_e hf
            clear hf
            obtain ⟨a44, v45, e46, k47, i48, q49, hf⟩ := ho
            cases e46
            refine q_iald X M k47 i48 dX6_bucket_130 ?_
            rw [q49]
            obtain rfl := Option.some.inj hf
            exact q_iret X M hS (by omega) (by omega) dX6_bucket_131
          rw [if_neg c38] at hf
          by_cases c50 : x3 = 2
          · rw [if_pos c50] at hf
            refine lv_tableIn (tgt := 132) (off := 48) X.1 X.2.1 dX6_bucket_84 (by rw [c50]; decide) (by rw [c50]; decide) (by rw [c50]; rfl) (by decide) ?_
            refine q_aload_n X dX6_bucket_132 rfl (lv_at hl 1 rfl) ?_
            have ho := gR_e hf
            clear hf
            obtain ⟨a51, v52, e53, k54, q55, hf⟩ := ho
            cases e53
            refine q_get X M flX6_47.g k54 (congrArg va_rf q55) dX6_bucket_133 ?_
            refine lv_iload X.1 X.2.1 dX6_bucket_136 (lv_at hl 0 rfl) ?_
            have ho := aI_e hf
            clear hf
            obtain ⟨a56, v57, e58, k59, i60, q61, hf⟩ := ho
            cases e58
            refine q_iald X M k59 i60 dX6_bucket_138 ?_
            rw [q61]
            obtain rfl := Option.some.inj hf
            exact q_iret X M hS (by omega) (by omega) dX6_bucket_139
          rw [if_neg c50] at hf
          by_cases c62 : x3 = 3
          · rw [if_pos c62] at hf
            refine lv_tableIn (tgt := 140) (off := 56) X.1 X.2.1 dX6_bucket_84 (by rw [c62]; decide) (by rw [c62]; decide) (by rw [c62]; rfl) (by decide) ?_
            refine q_aload_n X dX6_bucket_140 rfl (lv_at hl 1 rfl) ?_
            have ho := gR_e hf
            clear hf
            obtain ⟨a63, v64, e65, k66, q67, hf⟩ := ho
            cases e65
            refine q_get X M flX6_53.g k66 (congrArg va_rf q67) dX6_bucket_141 ?_
            refine lv_iload X.1 X.2.1 dX6_bucket_144 (lv_at hl 0 rfl) ?_
            have ho := aI_e hf
            clear hf
            obtain ⟨a68, v69, e70, k71, i72, q73, hf⟩ := ho
            cases e70
            refine q_iald X M k71 i72 dX6_bucket_146 ?_
            rw [q73]
            obtain rfl := Option.some.inj hf
            exact q_iret X M hS (by omega) (by omega) dX6_bucket_147
          rw [if_neg c62] at hf
          have ht84 : x3.toInt < 0 ∨ 3 < x3.toInt := by
            have g0 : x3.toInt ≠ 0 := by simpa using ne_i c26
            have g1 : x3.toInt ≠ 1 := by simpa using ne_i c38
            have g2 : x3.toInt ≠ 2 := by simpa using ne_i c50
            have g3 : x3.toInt ≠ 3 := by simpa using ne_i c62
            omega
          refine lv_tableOut (tgt := 148) X.1 X.2.1 dX6_bucket_84 ht84 (by decide) ?_
          refine lv_iconst (v := (-1)) X.1 X.2.1 dX6_bucket_148 (by decide) ?_
          obtain rfl := Option.some.inj hf
          exact q_iret X M hS (by omega) (by omega) dX6_bucket_149
        · rw [if_neg c25] at hf
          refine q_aload_n X dX6_bucket_67 rfl (lv_at hl 1 rfl) ?_
          have ho := gR_e hf
          clear hf
          obtain ⟨a74, v75, e76, k77, q78, hf⟩ := ho
          cases e76
          refine q_get X M flX6_71.g k77 (congrArg va_rf q78) dX6_bucket_68 ?_
          refine lv_bipush (v := 6) X.1 X.2.1 dX6_bucket_71 (by decide) ?_
          refine lv_iload X.1 X.2.1 dX6_bucket_73 (lv_at hl 0 rfl) ?_
          refine lv_imul X.1 X.2.1 dX6_bucket_75 ?_
          refine lv_iload_n X.1 X.2.1 dX6_bucket_76 rfl (lv_at hl 4 rfl) ?_
          refine lv_iadd X.1 X.2.1 dX6_bucket_77 ?_
          refine lv_bipush (v := 20) X.1 X.2.1 dX6_bucket_78 (by decide) ?_
          refine lv_isub X.1 X.2.1 dX6_bucket_80 ?_
          have ho := aI_e hf
          clear hf
          obtain ⟨a79, v80, e81, k82, i83, q84, hf⟩ := ho
          cases e81
          refine q_iald X M k82 i83 dX6_bucket_81 ?_
          rw [q84]
          obtain rfl := Option.some.inj hf
          exact q_iret X M hS (by omega) (by omega) dX6_bucket_82
      · rw [if_neg c21] at hf
        refine q_aload_n X dX6_bucket_40 rfl (lv_at hl 1 rfl) ?_
        have ho := gR_e hf
        clear hf
        obtain ⟨a85, v86, e87, k88, q89, hf⟩ := ho
        cases e87
        refine q_get X M flX6_68.g k88 (congrArg va_rf q89) dX6_bucket_41 ?_
        refine lv_bipush (v := 6) X.1 X.2.1 dX6_bucket_44 (by decide) ?_
        refine lv_iload X.1 X.2.1 dX6_bucket_46 (lv_at hl 0 rfl) ?_
        refine lv_imul X.1 X.2.1 dX6_bucket_48 ?_
        refine lv_iload_n X.1 X.2.1 dX6_bucket_49 rfl (lv_at hl 4 rfl) ?_
        refine lv_iadd X.1 X.2.1 dX6_bucket_50 ?_
        refine lv_bipush (v := 10) X.1 X.2.1 dX6_bucket_51 (by decide) ?_
        refine lv_isub X.1 X.2.1 dX6_bucket_53 ?_
        have ho := aI_e hf
        clear hf
        obtain ⟨a90, v91, e92, k93, i94, q95, hf⟩ := ho
        cases e92
        refine q_iald X M k93 i94 dX6_bucket_54 ?_
        rw [q95]
        obtain rfl := Option.some.inj hf
        exact q_iret X M hS (by omega) (by omega) dX6_bucket_55
    · rw [if_pos c11] at hf
      refine lv_iconst (v := (-1)) X.1 X.2.1 dX6_bucket_18 (by decide) ?_
      obtain rfl := Option.some.inj hf
      exact q_iret X M hS (by omega) (by omega) dX6_bucket_19
theorem m_X6_bucket {l : Launch} {D : va_G} {aC : Nat → ClassId} {b0 : Nat} {w : Wd} (o : Nat) (x1 : Int32) (x2 : Int32) (x3 : Int32) (v : Int32) (w' : Wd) (hf : f_X6_bucket o x1 x2 x3 w = some (v, w')) : Ct l D aC b0 yX6_bucket (Cond.code yX6_bucket cX6_bucket 5 (some .int) :: Gw) rX6_bucket [va_rf (some o), .int x1, .int x2, .int x3] w (some (.int v)) w' :=
  q_met (by decide) (Nat.le_of_ble_eq_true rfl) (fun p e s m below meth c X M ls hl => e_X6_bucket X (res := (v, w')) o x1 x2 x3 w s.heap [] 0 0 ls hf M va_S.rf (by decide) (by decide) hl)
abbrev rX6_value : Room := { frames := 2, cells := 0, slots := 0, locals := 43 }
def f_X6_value (o : Nat) (x1 : Int32) (x2 : Int32) (w : Wd) : Option (Int64 × Wd) := chk w (some o) 7 (fun a4 => bnd (f_X6_isServer a4 x1 w) (fun v1 w2 => if v1 = 0 then (some (0, w2)) else (bnd (f_X6_in x2 0 31 w2) (fun v8 w9 => if v8 = 0 then (some (0, w9)) else (gR w9 (some o) 7 20 (fun v13 => chk w9 (some o) 7 (fun a20 => bnd (f_X6_store a20 x1 w9) (fun v17 w18 => aL w18 v13 101 ((4 * (v17 + (x2 - x2 / 8 * 8))) + (x2 / 8)) (fun v24 => some (v24, w18))))))))))
set_option maxHeartbeats 4000000 in
set_option maxRecDepth 100000 in
theorem e_X6_value {l : Launch} {D : va_G} {aC : Nat → ClassId} {b0 : Nat} {p : Program} {e : Env} {s : State} {m : MethodId} {args : Array Value} {below : List Frame} {meth : Method} {c : Code} (X : Cx D aC p s m args meth c cX6_value RX6 3 "value" (some .long)) {res : (Int64 × Wd)} (o : Nat) (x1 : Int32) (x2 : Int32) (w : Wd) : BW l D aC b0 p e rX6_value s m args below meth c (Qe D aC b0 below args s 0 0 (some (.long res.1)) res.2) res 0 0 0 0 (f_X6_value o x1 x2 w) w 0 3 [(0, va_rf (some o)), (1, .int x1), (2, .int x2)] [] := by
  intro H locs cells slots ls hf M hS hc hs hl
  unfold f_X6_value at hf
  refine q_aload_n X dX6_value_0 rfl (lv_at hl 0 rfl) ?_
  refine lv_iload_n X.1 X.2.1 dX6_value_1 rfl (lv_at hl 1 rfl) ?_
  have ho := chk_e hf
  clear hf
  obtain ⟨a4, e5, k6, hf⟩ := ho
  cases e5
  have ho := bnd_e hf
  clear hf
  obtain ⟨v1, w2, q3, hf⟩ := ho
  refine q_cV X M hS hl.1 (ci := 6) (r := (RX6, TX6, 53)) (As := [.int x1]) (m_X6_isServer o x1 _ _ q3) mlX6_201 gm_302 gm_303 rfl (by decide) k6 rfl ⟨(Nat.le_of_ble_eq_true rfl), (Nat.le_of_ble_eq_true rfl)⟩ (rest := []) rfl (Nat.le_of_ble_eq_true rfl) (mc := 0) (ms := 0) (MC := 0) (MS := 0) rfl rfl rfl rfl (by omega) (by omega) dX6_value_2 (st2 := [.int v1]) rfl (fun H locs M hS => ?_)
  refine lv_if_eq (tgt := 43) X.1 X.2.1 dX6_value_5 (by decide) (fun c7 => ?_) (fun c7 => ?_)
  · rw [if_pos c7] at hf
    refine lv_lconst (v := 0) X.1 X.2.1 dX6_value_43 (by decide) ?_
    obtain rfl := Option.some.inj hf
    exact q_lret X M hS (by omega) (by omega) dX6_value_44
  · rw [if_neg c7] at hf
    refine lv_iload_n X.1 X.2.1 dX6_value_8 rfl (lv_at hl 2 rfl) ?_
    refine lv_iconst (v := 0) X.1 X.2.1 dX6_value_9 (by decide) ?_
    refine lv_bipush (v := 31) X.1 X.2.1 dX6_value_10 (by decide) ?_
    have ho := bnd_e hf
    clear hf
    obtain ⟨v8, w9, q10, hf⟩ := ho
    refine q_cS X M hS hl.1 (As := [.int x2, .int 0, .int 31]) (m_X6_in x2 0 31 _ _ q10) mlX6_152 gm_171 rfl ⟨(Nat.le_of_ble_eq_true rfl), (Nat.le_of_ble_eq_true rfl)⟩ (rest := []) rfl (Nat.le_of_ble_eq_true rfl) (mc := 0) (ms := 0) (MC := 0) (MS := 0) rfl rfl rfl rfl (by omega) (by omega) dX6_value_12 (st2 := [.int v8]) rfl (fun H locs M hS => ?_)
    refine lv_if_eq (tgt := 43) X.1 X.2.1 dX6_value_15 (by decide) (fun c11 => ?_) (fun c11 => ?_)
    · rw [if_pos c11] at hf
      refine lv_lconst (v := 0) X.1 X.2.1 dX6_value_43 (by decide) ?_
      obtain rfl := Option.some.inj hf
      exact q_lret X M hS (by omega) (by omega) dX6_value_44
    · rw [if_neg c11] at hf
      refine q_aload_n X dX6_value_18 rfl (lv_at hl 0 rfl) ?_
      have ho := gR_e hf
      clear hf
      obtain ⟨a12, v13, e14, k15, q16, hf⟩ := ho
      cases e14
      refine q_get X M flX6_50.g k15 (congrArg va_rf q16) dX6_value_19 ?_
      refine lv_iconst (v := 4) X.1 X.2.1 dX6_value_22 (by decide) ?_
      refine q_aload_n X dX6_value_23 rfl (lv_at hl 0 rfl) ?_
      refine lv_iload_n X.1 X.2.1 dX6_value_24 rfl (lv_at hl 1 rfl) ?_
      have ho := chk_e hf
      clear hf
      obtain ⟨a20, e21, k22, hf⟩ := ho
      cases e21
      have ho := bnd_e hf
      clear hf
      obtain ⟨v17, w18, q19, hf⟩ := ho
      refine q_cV X M hS hl.1 (ci := 6) (r := (RX6, TX6, 53)) (As := [.int x1]) (m_X6_store o x1 _ _ q19) mlX6_246 gm_602 gm_603 rfl (by decide) k22 rfl ⟨(Nat.le_of_ble_eq_true rfl), (Nat.le_of_ble_eq_true rfl)⟩ (rest := [.int 4, va_rf v13]) rfl (by simp [cat1, cati, catl]) (mc := 0) (ms := 0) (MC := 0) (MS := 0) rfl rfl rfl rfl (by omega) (by omega) dX6_value_25 (st2 := [.int v17, .int 4, va_rf v13]) rfl (fun H locs M hS => ?_)
      refine lv_iload_n X.1 X.2.1 dX6_value_28 rfl (lv_at hl 2 rfl) ?_
      refine lv_bipush (v := 8) X.1 X.2.1 dX6_value_29 (by decide) ?_
      refine lv_irem X.1 X.2.1 dX6_value_31 (by decide) ?_
      refine lv_iadd X.1 X.2.1 dX6_value_32 ?_
      refine lv_imul X.1 X.2.1 dX6_value_33 ?_
      refine lv_iload_n X.1 X.2.1 dX6_value_34 rfl (lv_at hl 2 rfl) ?_
      refine lv_bipush (v := 8) X.1 X.2.1 dX6_value_35 (by decide) ?_
      refine lv_idiv X.1 X.2.1 dX6_value_37 (by decide) ?_
      refine lv_iadd X.1 X.2.1 dX6_value_38 ?_
      have ho := aL_e hf
      clear hf
      obtain ⟨a23, v24, e25, k26, i27, q28, hf⟩ := ho
      cases e25
      refine q_lald X M k26 i27 dX6_value_39 ?_
      rw [q28]
      refine lv_goto (tgt := 44) X.1 X.2.1 dX6_value_40 (by decide) ?_
      obtain rfl := Option.some.inj hf
      exact q_lret X M hS (by omega) (by omega) dX6_value_44
theorem m_X6_value {l : Launch} {D : va_G} {aC : Nat → ClassId} {b0 : Nat} {w : Wd} (o : Nat) (x1 : Int32) (x2 : Int32) (v : Int64) (w' : Wd) (hf : f_X6_value o x1 x2 w = some (v, w')) : Ct l D aC b0 yX6_value (Cond.code yX6_value cX6_value 3 (some .long) :: Gw) rX6_value [va_rf (some o), .int x1, .int x2] w (some (.long v)) w' :=
  q_met (by decide) (Nat.le_of_ble_eq_true rfl) (fun p e s m below meth c X M ls hl => e_X6_value X (res := (v, w')) o x1 x2 w s.heap [] 0 0 ls hf M va_S.rf (by decide) (by decide) hl)
abbrev rX6_record : Room := { frames := 2, cells := 0, slots := 0, locals := 43 }
def f_X6_record (o : Nat) (x1 : Int32) (x2 : Int32) (x3 : Int32) (x4 : Int32) (w : Wd) : Option (Int32 × Wd) := chk w (some o) 7 (fun a4 => bnd (f_X6_isServer a4 x1 w) (fun v1 w2 => if v1 = 0 then (some ((-1), w2)) else (bnd (f_X6_in x2 0 7 w2) (fun v8 w9 => if v8 = 0 then (some ((-1), w9)) else (chk w9 (some o) 7 (fun a15 => bnd (f_X6_store a15 x1 w9) (fun v12 w13 => gR w13 (some o) 7 21 (fun v19 => aI w13 v19 100 (v12 + x2) (fun v24 => bnd (f_X6_in x3 0 (v24 - 1) w13) (fun v29 w30 => if v29 = 0 then (some ((-1), w30)) else (if x4 = 0 then (gR w30 (some o) 7 22 (fun v59 => aI w30 v59 100 ((12 * (v12 + x2)) + x3) (fun v64 => some (v64, w30)))) else (if x4 = 1 then (gR w30 (some o) 7 23 (fun v48 => aI w30 v48 100 ((12 * (v12 + x2)) + x3) (fun v53 => some (v53, w30)))) else (if x4 = 2 then (gR w30 (some o) 7 24 (fun v37 => aI w30 v37 100 ((12 * (v12 + x2)) + x3) (fun v42 => some (v42, w30)))) else (some ((-1), w30)))))))))))))))
set_option maxHeartbeats 4000000 in
set_option maxRecDepth 100000 in
theorem e_X6_record {l : Launch} {D : va_G} {aC : Nat → ClassId} {b0 : Nat} {p : Program} {e : Env} {s : State} {m : MethodId} {args : Array Value} {below : List Frame} {meth : Method} {c : Code} (X : Cx D aC p s m args meth c cX6_record RX6 7 "record" (some .int)) {res : (Int32 × Wd)} (o : Nat) (x1 : Int32) (x2 : Int32) (x3 : Int32) (x4 : Int32) (w : Wd) : BW l D aC b0 p e rX6_record s m args below meth c (Qe D aC b0 below args s 0 0 (some (.int res.1)) res.2) res 0 0 0 0 (f_X6_record o x1 x2 x3 x4 w) w 0 7 [(0, va_rf (some o)), (1, .int x1), (2, .int x2), (3, .int x3), (4, .int x4)] [] := by
  intro H locs cells slots ls hf M hS hc hs hl
  unfold f_X6_record at hf
  refine q_aload_n X dX6_record_0 rfl (lv_at hl 0 rfl) ?_
  refine lv_iload_n X.1 X.2.1 dX6_record_1 rfl (lv_at hl 1 rfl) ?_
  have ho := chk_e hf
  clear hf
  obtain ⟨a4, e5, k6, hf⟩ := ho
  cases e5
  have ho := bnd_e hf
  clear hf
  obtain ⟨v1, w2, q3, hf⟩ := ho
  refine q_cV X M hS hl.1 (ci := 6) (r := (RX6, TX6, 53)) (As := [.int x1]) (m_X6_isServer o x1 _ _ q3) mlX6_201 gm_302 gm_303 rfl (by decide) k6 rfl ⟨(Nat.le_of_ble_eq_true rfl), (Nat.le_of_ble_eq_true rfl)⟩ (rest := []) rfl (Nat.le_of_ble_eq_true rfl) (mc := 0) (ms := 0) (MC := 0) (MS := 0) rfl rfl rfl rfl (by omega) (by omega) dX6_record_2 (st2 := [.int v1]) rfl (fun H locs M hS => ?_)
  refine lv_if_eq (tgt := 18) X.1 X.2.1 dX6_record_5 (by decide) (fun c7 => ?_) (fun c7 => ?_)
  · rw [if_pos c7] at hf
    refine lv_iconst (v := (-1)) X.1 X.2.1 dX6_record_18 (by decide) ?_
    obtain rfl := Option.some.inj hf
    exact q_iret X M hS (by omega) (by omega) dX6_record_19
  · rw [if_neg c7] at hf
    refine lv_iload_n X.1 X.2.1 dX6_record_8 rfl (lv_at hl 2 rfl) ?_
    refine lv_iconst (v := 0) X.1 X.2.1 dX6_record_9 (by decide) ?_
    refine lv_bipush (v := 7) X.1 X.2.1 dX6_record_10 (by decide) ?_
    have ho := bnd_e hf
    clear hf
    obtain ⟨v8, w9, q10, hf⟩ := ho
    refine q_cS X M hS hl.1 (As := [.int x2, .int 0, .int 7]) (m_X6_in x2 0 7 _ _ q10) mlX6_152 gm_171 rfl ⟨(Nat.le_of_ble_eq_true rfl), (Nat.le_of_ble_eq_true rfl)⟩ (rest := []) rfl (Nat.le_of_ble_eq_true rfl) (mc := 0) (ms := 0) (MC := 0) (MS := 0) rfl rfl rfl rfl (by omega) (by omega) dX6_record_12 (st2 := [.int v8]) rfl (fun H locs M hS => ?_)
    refine lv_if_ne (tgt := 20) X.1 X.2.1 dX6_record_15 (by decide) (fun c11 => ?_) (fun c11 => ?_)
    · rw [if_neg c11] at hf
      refine q_aload_n X dX6_record_20 rfl (lv_at hl 0 rfl) ?_
      refine lv_iload_n X.1 X.2.1 dX6_record_21 rfl (lv_at hl 1 rfl) ?_
      have ho := chk_e hf
      clear hf
      obtain ⟨a15, e16, k17, hf⟩ := ho
      cases e16
      have ho := bnd_e hf
      clear hf
      obtain ⟨v12, w13, q14, hf⟩ := ho
      refine q_cV X M hS hl.1 (ci := 6) (r := (RX6, TX6, 53)) (As := [.int x1]) (m_X6_store o x1 _ _ q14) mlX6_246 gm_602 gm_603 rfl (by decide) k17 rfl ⟨(Nat.le_of_ble_eq_true rfl), (Nat.le_of_ble_eq_true rfl)⟩ (rest := []) rfl (Nat.le_of_ble_eq_true rfl) (mc := 0) (ms := 0) (MC := 0) (MS := 0) rfl rfl rfl rfl (by omega) (by omega) dX6_record_22 (st2 := [.int v12]) rfl (fun H locs M hS => ?_)
      refine lv_iload_n X.1 X.2.1 dX6_record_25 rfl (lv_at hl 2 rfl) ?_
      refine lv_iadd X.1 X.2.1 dX6_record_26 ?_
      refine lv_istore (i := 5) (lv' := [(5, .int (v12 + x2)), (0, va_rf (some o)), (1, .int x1), (2, .int x2), (3, .int x3), (4, .int x4)]) X.1 X.2.1 dX6_record_27 hl (by decide) rfl (fun ls hl => ?_)
      refine lv_iload_n X.1 X.2.1 dX6_record_29 rfl (lv_at hl 4 rfl) ?_
      refine lv_iconst (v := 0) X.1 X.2.1 dX6_record_30 (by decide) ?_
      refine q_aload_n X dX6_record_31 rfl (lv_at hl 1 rfl) ?_
      have ho := gR_e hf
      clear hf
      obtain ⟨a18, v19, e20, k21, q22, hf⟩ := ho
      cases e20
      refine q_get X M flX6_53.g k21 (congrArg va_rf q22) dX6_record_32 ?_
      refine lv_iload X.1 X.2.1 dX6_record_35 (lv_at hl 0 rfl) ?_
      have ho := aI_e hf
      clear hf
      obtain ⟨a23, v24, e25, k26, i27, q28, hf⟩ := ho
      cases e25
      refine q_iald X M k26 i27 dX6_record_37 ?_
      rw [q28]
      refine lv_iconst (v := 1) X.1 X.2.1 dX6_record_38 (by decide) ?_
      refine lv_isub X.1 X.2.1 dX6_record_39 ?_
      have ho := bnd_e hf
      clear hf
      obtain ⟨v29, w30, q31, hf⟩ := ho
      refine q_cS X M hS hl.1 (As := [.int x3, .int 0, .int (v24 - 1)]) (m_X6_in x3 0 (v24 - 1) _ _ q31) mlX6_152 gm_171 rfl ⟨(Nat.le_of_ble_eq_true rfl), (Nat.le_of_ble_eq_true rfl)⟩ (rest := []) rfl (Nat.le_of_ble_eq_true rfl) (mc := 0) (ms := 0) (MC := 0) (MS := 0) rfl rfl rfl rfl (by omega) (by omega) dX6_record_40 (st2 := [.int v29]) rfl (fun H locs M hS => ?_)
      refine lv_if_ne (tgt := 48) X.1 X.2.1 dX6_record_43 (by decide) (fun c32 => ?_) (fun c32 => ?_)
      · rw [if_neg c32] at hf
        refine lv_bipush (v := 12) X.1 X.2.1 dX6_record_48 (by decide) ?_
        refine lv_iload X.1 X.2.1 dX6_record_50 (lv_at hl 0 rfl) ?_
        refine lv_imul X.1 X.2.1 dX6_record_52 ?_
        refine lv_iload_n X.1 X.2.1 dX6_record_53 rfl (lv_at hl 4 rfl) ?_
        refine lv_iadd X.1 X.2.1 dX6_record_54 ?_
        refine lv_istore (i := 6) (lv' := [(6, .int ((12 * (v12 + x2)) + x3)), (5, .int (v12 + x2)), (0, va_rf (some o)), (1, .int x1), (2, .int x2), (3, .int x3), (4, .int x4)]) X.1 X.2.1 dX6_record_55 hl (by decide) rfl (fun ls hl => ?_)
        refine lv_iload X.1 X.2.1 dX6_record_57 (lv_at hl 6 rfl) ?_
        refine lv_if_ne (tgt := 72) X.1 X.2.1 dX6_record_59 (by decide) (fun c33 => ?_) (fun c33 => ?_)
        · rw [if_neg c33] at hf
          refine lv_iload X.1 X.2.1 dX6_record_72 (lv_at hl 6 rfl) ?_
          refine lv_iconst (v := 1) X.1 X.2.1 dX6_record_74 (by decide) ?_
          refine lv_icmp_ne (tgt := 88) X.1 X.2.1 dX6_record_75 (by decide) (fun c34 => ?_) (fun c34 => ?_)
          · rw [if_neg c34] at hf
            refine lv_iload X.1 X.2.1 dX6_record_88 (lv_at hl 6 rfl) ?_
            refine lv_iconst (v := 2) X.1 X.2.1 dX6_record_90 (by decide) ?_
            refine lv_icmp_ne (tgt := 104) X.1 X.2.1 dX6_record_91 (by decide) (fun c35 => ?_) (fun c35 => ?_)
            · rw [if_neg c35] at hf
              refine lv_iconst (v := (-1)) X.1 X.2.1 dX6_record_104 (by decide) ?_
              obtain rfl := Option.some.inj hf
              exact q_iret X M hS (by omega) (by omega) dX6_record_105
            · rw [if_pos c35] at hf
              refine q_aload_n X dX6_record_94 rfl (lv_at hl 2 rfl) ?_
              have ho := gR_e hf
              clear hf
              obtain ⟨a36, v37, e38, k39, q40, hf⟩ := ho
              cases e38
              refine q_get X M flX6_62.g k39 (congrArg va_rf q40) dX6_record_95 ?_
              refine lv_iload X.1 X.2.1 dX6_record_98 (lv_at hl 0 rfl) ?_
              have ho := aI_e hf
              clear hf
              obtain ⟨a41, v42, e43, k44, i45, q46, hf⟩ := ho
              cases e43
              refine q_iald X M k44 i45 dX6_record_100 ?_
              rw [q46]
              refine lv_goto (tgt := 105) X.1 X.2.1 dX6_record_101 (by decide) ?_
              obtain rfl := Option.some.inj hf
              exact q_iret X M hS (by omega) (by omega) dX6_record_105
          · rw [if_pos c34] at hf
            refine q_aload_n X dX6_record_78 rfl (lv_at hl 2 rfl) ?_
            have ho := gR_e hf
            clear hf
            obtain ⟨a47, v48, e49, k50, q51, hf⟩ := ho
            cases e49
            refine q_get X M flX6_59.g k50 (congrArg va_rf q51) dX6_record_79 ?_
            refine lv_iload X.1 X.2.1 dX6_record_82 (lv_at hl 0 rfl) ?_
            have ho := aI_e hf
            clear hf
            obtain ⟨a52, v53, e54, k55, i56, q57, hf⟩ := ho
            cases e54
            refine q_iald X M k55 i56 dX6_record_84 ?_
            rw [q57]
            refine lv_goto (tgt := 105) X.1 X.2.1 dX6_record_85 (by decide) ?_
            obtain rfl := Option.some.inj hf
            exact q_iret X M hS (by omega) (by omega) dX6_record_105
        · rw [if_pos c33] at hf
          refine q_aload_n X dX6_record_62 rfl (lv_at hl 2 rfl) ?_
          have ho := gR_e hf
          clear hf
          obtain ⟨a58, v59, e60, k61, q62, hf⟩ := ho
          cases e60
          refine q_get X M flX6_56.g k61 (congrArg va_rf q62) dX6_record_63 ?_
          refine lv_iload X.1 X.2.1 dX6_record_66 (lv_at hl 0 rfl) ?_
          have ho := aI_e hf
          clear hf
          obtain ⟨a63, v64, e65, k66, i67, q68, hf⟩ := ho
          cases e65
          refine q_iald X M k66 i67 dX6_record_68 ?_
          rw [q68]
          refine lv_goto (tgt := 105) X.1 X.2.1 dX6_record_69 (by decide) ?_
          obtain rfl := Option.some.inj hf
          exact q_iret X M hS (by omega) (by omega) dX6_record_105
      · rw [if_pos c32] at hf
        refine lv_iconst (v := (-1)) X.1 X.2.1 dX6_record_46 (by decide) ?_
        obtain rfl := Option.some.inj hf
        exact q_iret X M hS (by omega) (by omega) dX6_record_47
    · rw [if_pos c11] at hf
      refine lv_iconst (v := (-1)) X.1 X.2.1 dX6_record_18 (by decide) ?_
      obtain rfl := Option.some.inj hf
      exact q_iret X M hS (by omega) (by omega) dX6_record_19
theorem m_X6_record {l : Launch} {D : va_G} {aC : Nat → ClassId} {b0 : Nat} {w : Wd} (o : Nat) (x1 : Int32) (x2 : Int32) (x3 : Int32) (x4 : Int32) (v : Int32) (w' : Wd) (hf : f_X6_record o x1 x2 x3 x4 w = some (v, w')) : Ct l D aC b0 yX6_record (Cond.code yX6_record cX6_record 7 (some .int) :: Gw) rX6_record [va_rf (some o), .int x1, .int x2, .int x3, .int x4] w (some (.int v)) w' :=
  q_met (by decide) (Nat.le_of_ble_eq_true rfl) (fun p e s m below meth c X M ls hl => e_X6_record X (res := (v, w')) o x1 x2 x3 x4 w s.heap [] 0 0 ls hf M va_S.rf (by decide) (by decide) hl)
abbrev rX6_client : Room := { frames := 2, cells := 0, slots := 0, locals := 42 }
def f_X6_client (o : Nat) (x1 : Int32) (x2 : Int32) (w : Wd) : Option (Int32 × Wd) := bnd (f_X6_isClient x1 w) (fun v1 w2 => if v1 = 0 then (some ((-1), w2)) else (bnd (f_X6_in x2 10 17 w2) (fun v5 w6 => if v5 = 0 then (if x2 = 0 then (gR w6 (some o) 7 7 (fun v11 => aI w6 v11 100 x1 (fun v16 => some (v16, w6)))) else if x2 = 1 then (gR w6 (some o) 7 8 (fun v23 => aI w6 v23 100 x1 (fun v28 => some (v28, w6)))) else if x2 = 2 then (gR w6 (some o) 7 7 (fun v35 => aI w6 v35 100 x1 (fun v40 => chk w6 (some o) 7 (fun a48 => bnd (f_X6_isLive a48 v40 w6) (fun v45 w46 => if v45 = 0 then (some (0, w46)) else (some (1, w46))))))) else if x2 = 3 then (gR w6 (some o) 7 9 (fun v54 => aI w6 v54 100 x1 (fun v59 => some (v59, w6)))) else if x2 = 4 then (chk w6 (some o) 7 (fun a68 => bnd (f_X6_first a68 x1 w6) (fun v65 w66 => some (v65, w66)))) else if x2 = 5 then (chk w6 (some o) 7 (fun a75 => bnd (f_X6_waiting a75 x1 w6) (fun v72 w73 => some (v72, w73)))) else (some ((-1), w6))) else (gR w6 (some o) 7 10 (fun v79 => aI w6 v79 100 (((8 * x1) + x2) - 10) (fun v84 => some (v84, w6)))))))
set_option maxHeartbeats 4000000 in
set_option maxRecDepth 100000 in
theorem e_X6_client {l : Launch} {D : va_G} {aC : Nat → ClassId} {b0 : Nat} {p : Program} {e : Env} {s : State} {m : MethodId} {args : Array Value} {below : List Frame} {meth : Method} {c : Code} (X : Cx D aC p s m args meth c cX6_client RX6 3 "client" (some .int)) {res : (Int32 × Wd)} (o : Nat) (x1 : Int32) (x2 : Int32) (w : Wd) : BW l D aC b0 p e rX6_client s m args below meth c (Qe D aC b0 below args s 0 0 (some (.int res.1)) res.2) res 0 0 0 0 (f_X6_client o x1 x2 w) w 0 3 [(0, va_rf (some o)), (1, .int x1), (2, .int x2)] [] := by
  intro H locs cells slots ls hf M hS hc hs hl
  unfold f_X6_client at hf
  refine lv_iload_n X.1 X.2.1 dX6_client_0 rfl (lv_at hl 1 rfl) ?_
  have ho := bnd_e hf
  clear hf
  obtain ⟨v1, w2, q3, hf⟩ := ho
  refine q_cS X M hS hl.1 (As := [.int x1]) (m_X6_isClient x1 _ _ q3) mlX6_172 gm_168 rfl ⟨(Nat.le_of_ble_eq_true rfl), (Nat.le_of_ble_eq_true rfl)⟩ (rest := []) rfl (Nat.le_of_ble_eq_true rfl) (mc := 0) (ms := 0) (MC := 0) (MS := 0) rfl rfl rfl rfl (by omega) (by omega) dX6_client_1 (st2 := [.int v1]) rfl (fun H locs M hS => ?_)
  refine lv_if_ne (tgt := 9) X.1 X.2.1 dX6_client_4 (by decide) (fun c4 => ?_) (fun c4 => ?_)
  · rw [if_neg c4] at hf
    refine lv_iload_n X.1 X.2.1 dX6_client_9 rfl (lv_at hl 2 rfl) ?_
    refine lv_bipush (v := 10) X.1 X.2.1 dX6_client_10 (by decide) ?_
    refine lv_bipush (v := 17) X.1 X.2.1 dX6_client_12 (by decide) ?_
    have ho := bnd_e hf
    clear hf
    obtain ⟨v5, w6, q7, hf⟩ := ho
    refine q_cS X M hS hl.1 (As := [.int x2, .int 10, .int 17]) (m_X6_in x2 10 17 _ _ q7) mlX6_152 gm_171 rfl ⟨(Nat.le_of_ble_eq_true rfl), (Nat.le_of_ble_eq_true rfl)⟩ (rest := []) rfl (Nat.le_of_ble_eq_true rfl) (mc := 0) (ms := 0) (MC := 0) (MS := 0) rfl rfl rfl rfl (by omega) (by omega) dX6_client_14 (st2 := [.int v5]) rfl (fun H locs M hS => ?_)
    refine lv_if_eq (tgt := 35) X.1 X.2.1 dX6_client_17 (by decide) (fun c8 => ?_) (fun c8 => ?_)
    · rw [if_pos c8] at hf
      refine lv_iload_n X.1 X.2.1 dX6_client_35 rfl (lv_at hl 2 rfl) ?_
      by_cases c9 : x2 = 0
      · rw [if_pos c9] at hf
        refine lv_tableIn (tgt := 76) (off := 40) X.1 X.2.1 dX6_client_36 (by rw [c9]; decide) (by rw [c9]; decide) (by rw [c9]; rfl) (by decide) ?_
        refine q_aload_n X dX6_client_76 rfl (lv_at hl 0 rfl) ?_
        have ho := gR_e hf
        clear hf
        obtain ⟨a10, v11, e12, k13, q14, hf⟩ := ho
        cases e12
        refine q_get X M flX6_7.g k13 (congrArg va_rf q14) dX6_client_77 ?_
        refine lv_iload_n X.1 X.2.1 dX6_client_80 rfl (lv_at hl 1 rfl) ?_
        have ho := aI_e hf
        clear hf
        obtain ⟨a15, v16, e17, k18, i19, q20, hf⟩ := ho
        cases e17
        refine q_iald X M k18 i19 dX6_client_81 ?_
        rw [q20]
        obtain rfl := Option.some.inj hf
        exact q_iret X M hS (by omega) (by omega) dX6_client_82
      rw [if_neg c9] at hf
      by_cases c21 : x2 = 1
      · rw [if_pos c21] at hf
        refine lv_tableIn (tgt := 83) (off := 47) X.1 X.2.1 dX6_client_36 (by rw [c21]; decide) (by rw [c21]; decide) (by rw [c21]; rfl) (by decide) ?_
        refine q_aload_n X dX6_client_83 rfl (lv_at hl 0 rfl) ?_
        have ho := gR_e hf
        clear hf
        obtain ⟨a22, v23, e24, k25, q26, hf⟩ := ho
        cases e24
        refine q_get X M flX6_13.g k25 (congrArg va_rf q26) dX6_client_84 ?_
        refine lv_iload_n X.1 X.2.1 dX6_client_87 rfl (lv_at hl 1 rfl) ?_
        have ho := aI_e hf
        clear hf
        obtain ⟨a27, v28, e29, k30, i31, q32, hf⟩ := ho
        cases e29
        refine q_iald X M k30 i31 dX6_client_88 ?_
        rw [q32]
        obtain rfl := Option.some.inj hf
        exact q_iret X M hS (by omega) (by omega) dX6_client_89
      rw [if_neg c21] at hf
      by_cases c33 : x2 = 2
      · rw [if_pos c33] at hf
        refine lv_tableIn (tgt := 90) (off := 54) X.1 X.2.1 dX6_client_36 (by rw [c33]; decide) (by rw [c33]; decide) (by rw [c33]; rfl) (by decide) ?_
        refine q_aload_n X dX6_client_90 rfl (lv_at hl 0 rfl) ?_
        refine q_aload_n X dX6_client_91 rfl (lv_at hl 0 rfl) ?_
        have ho := gR_e hf
        clear hf
        obtain ⟨a34, v35, e36, k37, q38, hf⟩ := ho
        cases e36
        refine q_get X M flX6_7.g k37 (congrArg va_rf q38) dX6_client_92 ?_
        refine lv_iload_n X.1 X.2.1 dX6_client_95 rfl (lv_at hl 1 rfl) ?_
        have ho := aI_e hf
        clear hf
        obtain ⟨a39, v40, e41, k42, i43, q44, hf⟩ := ho
        cases e41
        refine q_iald X M k42 i43 dX6_client_96 ?_
        rw [q44]
        have ho := chk_e hf
        clear hf
        obtain ⟨a48, e49, k50, hf⟩ := ho
        cases e49
        have ho := bnd_e hf
        clear hf
        obtain ⟨v45, w46, q47, hf⟩ := ho
        refine q_cV X M hS hl.1 (ci := 6) (r := (RX6, TX6, 53)) (As := [.int v40]) (m_X6_isLive o v40 _ _ q47) mlX6_179 gm_186 gm_187 rfl (by decide) k50 rfl ⟨(Nat.le_of_ble_eq_true rfl), (Nat.le_of_ble_eq_true rfl)⟩ (rest := []) rfl (Nat.le_of_ble_eq_true rfl) (mc := 0) (ms := 0) (MC := 0) (MS := 0) rfl rfl rfl rfl (by omega) (by omega) dX6_client_97 (st2 := [.int v45]) rfl (fun H locs M hS => ?_)
        refine lv_if_eq (tgt := 107) X.1 X.2.1 dX6_client_100 (by decide) (fun c51 => ?_) (fun c51 => ?_)
        · rw [if_pos c51] at hf
          refine lv_iconst (v := 0) X.1 X.2.1 dX6_client_107 (by decide) ?_
          obtain rfl := Option.some.inj hf
          exact q_iret X M hS (by omega) (by omega) dX6_client_108
        · rw [if_neg c51] at hf
          refine lv_iconst (v := 1) X.1 X.2.1 dX6_client_103 (by decide) ?_
          refine lv_goto (tgt := 108) X.1 X.2.1 dX6_client_104 (by decide) ?_
          obtain rfl := Option.some.inj hf
          exact q_iret X M hS (by omega) (by omega) dX6_client_108
      rw [if_neg c33] at hf
      by_cases c52 : x2 = 3
      · rw [if_pos c52] at hf
        refine lv_tableIn (tgt := 109) (off := 73) X.1 X.2.1 dX6_client_36 (by rw [c52]; decide) (by rw [c52]; decide) (by rw [c52]; rfl) (by decide) ?_
        refine q_aload_n X dX6_client_109 rfl (lv_at hl 0 rfl) ?_
        have ho := gR_e hf
        clear hf
        obtain ⟨a53, v54, e55, k56, q57, hf⟩ := ho
        cases e55
        refine q_get X M flX6_16.g k56 (congrArg va_rf q57) dX6_client_110 ?_
        refine lv_iload_n X.1 X.2.1 dX6_client_113 rfl (lv_at hl 1 rfl) ?_
        have ho := aI_e hf
        clear hf
        obtain ⟨a58, v59, e60, k61, i62, q63, hf⟩ := ho
        cases e60
        refine q_iald X M k61 i62 dX6_client_114 ?_
        rw [q63]
        obtain rfl := Option.some.inj hf
        exact q_iret X M hS (by omega) (by omega) dX6_client_115
      rw [if_neg c52] at hf
      by_cases c64 : x2 = 4
      · rw [if_pos c64] at hf
        refine lv_tableIn (tgt := 116) (off := 80) X.1 X.2.1 dX6_client_36 (by rw [c64]; decide) (by rw [c64]; decide) (by rw [c64]; rfl) (by decide) ?_
        refine q_aload_n X dX6_client_116 rfl (lv_at hl 0 rfl) ?_
        refine lv_iload_n X.1 X.2.1 dX6_client_117 rfl (lv_at hl 1 rfl) ?_
        have ho := chk_e hf
        clear hf
        obtain ⟨a68, e69, k70, hf⟩ := ho
        cases e69
        have ho := bnd_e hf
        clear hf
        obtain ⟨v65, w66, q67, hf⟩ := ho
        refine q_cV X M hS hl.1 (ci := 6) (r := (RX6, TX6, 53)) (As := [.int x1]) (m_X6_first o x1 _ _ q67) mlX6_186 gm_263 gm_264 rfl (by decide) k70 rfl ⟨(Nat.le_of_ble_eq_true rfl), (Nat.le_of_ble_eq_true rfl)⟩ (rest := []) rfl (Nat.le_of_ble_eq_true rfl) (mc := 0) (ms := 0) (MC := 0) (MS := 0) rfl rfl rfl rfl (by omega) (by omega) dX6_client_118 (st2 := [.int v65]) rfl (fun H locs M hS => ?_)
        obtain rfl := Option.some.inj hf
        exact q_iret X M hS (by omega) (by omega) dX6_client_121
      rw [if_neg c64] at hf
      by_cases c71 : x2 = 5
      · rw [if_pos c71] at hf
        refine lv_tableIn (tgt := 122) (off := 86) X.1 X.2.1 dX6_client_36 (by rw [c71]; decide) (by rw [c71]; decide) (by rw [c71]; rfl) (by decide) ?_
        refine q_aload_n X dX6_client_122 rfl (lv_at hl 0 rfl) ?_
        refine lv_iload_n X.1 X.2.1 dX6_client_123 rfl (lv_at hl 1 rfl) ?_
        have ho := chk_e hf
        clear hf
        obtain ⟨a75, e76, k77, hf⟩ := ho
        cases e76
        have ho := bnd_e hf
        clear hf
        obtain ⟨v72, w73, q74, hf⟩ := ho
        refine q_cV X M hS hl.1 (ci := 6) (r := (RX6, TX6, 53)) (As := [.int x1]) (m_X6_waiting o x1 _ _ q74) mlX6_190 gm_250 gm_251 rfl (by decide) k77 rfl ⟨(Nat.le_of_ble_eq_true rfl), (Nat.le_of_ble_eq_true rfl)⟩ (rest := []) rfl (Nat.le_of_ble_eq_true rfl) (mc := 0) (ms := 0) (MC := 0) (MS := 0) rfl rfl rfl rfl (by omega) (by omega) dX6_client_124 (st2 := [.int v72]) rfl (fun H locs M hS => ?_)
        obtain rfl := Option.some.inj hf
        exact q_iret X M hS (by omega) (by omega) dX6_client_127
      rw [if_neg c71] at hf
      have ht36 : x2.toInt < 0 ∨ 5 < x2.toInt := by
        have g0 : x2.toInt ≠ 0 := by simpa using ne_i c9
        have g1 : x2.toInt ≠ 1 := by simpa using ne_i c21
        have g2 : x2.toInt ≠ 2 := by simpa using ne_i c33
        have g3 : x2.toInt ≠ 3 := by simpa using ne_i c52
        have g4 : x2.toInt ≠ 4 := by simpa using ne_i c64
        have g5 : x2.toInt ≠ 5 := by simpa using ne_i c71
        omega
      refine lv_tableOut (tgt := 128) X.1 X.2.1 dX6_client_36 ht36 (by decide) ?_
      refine lv_iconst (v := (-1)) X.1 X.2.1 dX6_client_128 (by decide) ?_
      obtain rfl := Option.some.inj hf
      exact q_iret X M hS (by omega) (by omega) dX6_client_129
    · rw [if_neg c8] at hf
      refine q_aload_n X dX6_client_20 rfl (lv_at hl 0 rfl) ?_
      have ho := gR_e hf
      clear hf
      obtain ⟨a78, v79, e80, k81, q82, hf⟩ := ho
      cases e80
      refine q_get X M flX6_19.g k81 (congrArg va_rf q82) dX6_client_21 ?_
      refine lv_bipush (v := 8) X.1 X.2.1 dX6_client_24 (by decide) ?_
      refine lv_iload_n X.1 X.2.1 dX6_client_26 rfl (lv_at hl 1 rfl) ?_
      refine lv_imul X.1 X.2.1 dX6_client_27 ?_
      refine lv_iload_n X.1 X.2.1 dX6_client_28 rfl (lv_at hl 2 rfl) ?_
      refine lv_iadd X.1 X.2.1 dX6_client_29 ?_
      refine lv_bipush (v := 10) X.1 X.2.1 dX6_client_30 (by decide) ?_
      refine lv_isub X.1 X.2.1 dX6_client_32 ?_
      have ho := aI_e hf
      clear hf
      obtain ⟨a83, v84, e85, k86, i87, q88, hf⟩ := ho
      cases e85
      refine q_iald X M k86 i87 dX6_client_33 ?_
      rw [q88]
      obtain rfl := Option.some.inj hf
      exact q_iret X M hS (by omega) (by omega) dX6_client_34
  · rw [if_pos c4] at hf
    refine lv_iconst (v := (-1)) X.1 X.2.1 dX6_client_7 (by decide) ?_
    obtain rfl := Option.some.inj hf
    exact q_iret X M hS (by omega) (by omega) dX6_client_8
theorem m_X6_client {l : Launch} {D : va_G} {aC : Nat → ClassId} {b0 : Nat} {w : Wd} (o : Nat) (x1 : Int32) (x2 : Int32) (v : Int32) (w' : Wd) (hf : f_X6_client o x1 x2 w = some (v, w')) : Ct l D aC b0 yX6_client (Cond.code yX6_client cX6_client 3 (some .int) :: Gw) rX6_client [va_rf (some o), .int x1, .int x2] w (some (.int v)) w' :=
  q_met (by decide) (Nat.le_of_ble_eq_true rfl) (fun p e s m below meth c X M ls hl => e_X6_client X (res := (v, w')) o x1 x2 w s.heap [] 0 0 ls hf M va_S.rf (by decide) (by decide) hl)
abbrev rX6_state : Room := { frames := 3, cells := 0, slots := 0, locals := 64 }
def f_X6_state (o : Nat) (x1 : Int32) (x2 : Int32) (w : Wd) : Option (Int32 × Wd) := chk w (some o) 7 (fun a4 => bnd (f_X6_isCall a4 x1 x2 w) (fun v1 w2 => if v1 = 0 then (some ((-1), w2)) else (gR w2 (some o) 7 11 (fun v9 => aI w2 v9 100 (((60 * x1) + x2) - 1) (fun v14 => some (v14, w2))))))
set_option maxHeartbeats 4000000 in
set_option maxRecDepth 100000 in
theorem e_X6_state {l : Launch} {D : va_G} {aC : Nat → ClassId} {b0 : Nat} {p : Program} {e : Env} {s : State} {m : MethodId} {args : Array Value} {below : List Frame} {meth : Method} {c : Code} (X : Cx D aC p s m args meth c cX6_state RX6 3 "state" (some .int)) {res : (Int32 × Wd)} (o : Nat) (x1 : Int32) (x2 : Int32) (w : Wd) : BW l D aC b0 p e rX6_state s m args below meth c (Qe D aC b0 below args s 0 0 (some (.int res.1)) res.2) res 0 0 0 0 (f_X6_state o x1 x2 w) w 0 3 [(0, va_rf (some o)), (1, .int x1), (2, .int x2)] [] := by
  intro H locs cells slots ls hf M hS hc hs hl
  unfold f_X6_state at hf
  refine q_aload_n X dX6_state_0 rfl (lv_at hl 0 rfl) ?_
  refine lv_iload_n X.1 X.2.1 dX6_state_1 rfl (lv_at hl 1 rfl) ?_
  refine lv_iload_n X.1 X.2.1 dX6_state_2 rfl (lv_at hl 2 rfl) ?_
  have ho := chk_e hf
  clear hf
  obtain ⟨a4, e5, k6, hf⟩ := ho
  cases e5
  have ho := bnd_e hf
  clear hf
  obtain ⟨v1, w2, q3, hf⟩ := ho
  refine q_cV X M hS hl.1 (ci := 6) (r := (RX6, TX6, 53)) (As := [.int x1, .int x2]) (m_X6_isCall o x1 x2 _ _ q3) mlX6_197 gm_286 gm_287 rfl (by decide) k6 rfl ⟨(Nat.le_of_ble_eq_true rfl), (Nat.le_of_ble_eq_true rfl)⟩ (rest := []) rfl (Nat.le_of_ble_eq_true rfl) (mc := 0) (ms := 0) (MC := 0) (MS := 0) rfl rfl rfl rfl (by omega) (by omega) dX6_state_3 (st2 := [.int v1]) rfl (fun H locs M hS => ?_)
  refine lv_if_eq (tgt := 25) X.1 X.2.1 dX6_state_6 (by decide) (fun c7 => ?_) (fun c7 => ?_)
  · rw [if_pos c7] at hf
    refine lv_iconst (v := (-1)) X.1 X.2.1 dX6_state_25 (by decide) ?_
    obtain rfl := Option.some.inj hf
    exact q_iret X M hS (by omega) (by omega) dX6_state_26
  · rw [if_neg c7] at hf
    refine q_aload_n X dX6_state_9 rfl (lv_at hl 0 rfl) ?_
    have ho := gR_e hf
    clear hf
    obtain ⟨a8, v9, e10, k11, q12, hf⟩ := ho
    cases e10
    refine q_get X M flX6_22.g k11 (congrArg va_rf q12) dX6_state_10 ?_
    refine lv_bipush (v := 60) X.1 X.2.1 dX6_state_13 (by decide) ?_
    refine lv_iload_n X.1 X.2.1 dX6_state_15 rfl (lv_at hl 1 rfl) ?_
    refine lv_imul X.1 X.2.1 dX6_state_16 ?_
    refine lv_iload_n X.1 X.2.1 dX6_state_17 rfl (lv_at hl 2 rfl) ?_
    refine lv_iadd X.1 X.2.1 dX6_state_18 ?_
    refine lv_iconst (v := 1) X.1 X.2.1 dX6_state_19 (by decide) ?_
    refine lv_isub X.1 X.2.1 dX6_state_20 ?_
    have ho := aI_e hf
    clear hf
    obtain ⟨a13, v14, e15, k16, i17, q18, hf⟩ := ho
    cases e15
    refine q_iald X M k16 i17 dX6_state_21 ?_
    rw [q18]
    refine lv_goto (tgt := 26) X.1 X.2.1 dX6_state_22 (by decide) ?_
    obtain rfl := Option.some.inj hf
    exact q_iret X M hS (by omega) (by omega) dX6_state_26
theorem m_X6_state {l : Launch} {D : va_G} {aC : Nat → ClassId} {b0 : Nat} {w : Wd} (o : Nat) (x1 : Int32) (x2 : Int32) (v : Int32) (w' : Wd) (hf : f_X6_state o x1 x2 w = some (v, w')) : Ct l D aC b0 yX6_state (Cond.code yX6_state cX6_state 3 (some .int) :: Gw) rX6_state [va_rf (some o), .int x1, .int x2] w (some (.int v)) w' :=
  q_met (by decide) (Nat.le_of_ble_eq_true rfl) (fun p e s m below meth c X M ls hl => e_X6_state X (res := (v, w')) o x1 x2 w s.heap [] 0 0 ls hf M va_S.rf (by decide) (by decide) hl)
abbrev rX6_result : Room := { frames := 3, cells := 0, slots := 0, locals := 64 }
def f_X6_result (o : Nat) (x1 : Int32) (x2 : Int32) (w : Wd) : Option (Int64 × Wd) := chk w (some o) 7 (fun a4 => bnd (f_X6_isCall a4 x1 x2 w) (fun v1 w2 => if v1 = 0 then (some (0, w2)) else (gR w2 (some o) 7 11 (fun v9 => aI w2 v9 100 (((60 * x1) + x2) - 1) (fun v14 => if v14 = 1 then (gR w2 (some o) 7 12 (fun v21 => aL w2 v21 101 (((60 * x1) + x2) - 1) (fun v26 => some (v26, w2)))) else (some (0, w2)))))))
set_option maxHeartbeats 4000000 in
set_option maxRecDepth 100000 in
theorem e_X6_result {l : Launch} {D : va_G} {aC : Nat → ClassId} {b0 : Nat} {p : Program} {e : Env} {s : State} {m : MethodId} {args : Array Value} {below : List Frame} {meth : Method} {c : Code} (X : Cx D aC p s m args meth c cX6_result RX6 3 "result" (some .long)) {res : (Int64 × Wd)} (o : Nat) (x1 : Int32) (x2 : Int32) (w : Wd) : BW l D aC b0 p e rX6_result s m args below meth c (Qe D aC b0 below args s 0 0 (some (.long res.1)) res.2) res 0 0 0 0 (f_X6_result o x1 x2 w) w 0 3 [(0, va_rf (some o)), (1, .int x1), (2, .int x2)] [] := by
  intro H locs cells slots ls hf M hS hc hs hl
  unfold f_X6_result at hf
  refine q_aload_n X dX6_result_0 rfl (lv_at hl 0 rfl) ?_
  refine lv_iload_n X.1 X.2.1 dX6_result_1 rfl (lv_at hl 1 rfl) ?_
  refine lv_iload_n X.1 X.2.1 dX6_result_2 rfl (lv_at hl 2 rfl) ?_
  have ho := chk_e hf
  clear hf
  obtain ⟨a4, e5, k6, hf⟩ := ho
  cases e5
  have ho := bnd_e hf
  clear hf
  obtain ⟨v1, w2, q3, hf⟩ := ho
  refine q_cV X M hS hl.1 (ci := 6) (r := (RX6, TX6, 53)) (As := [.int x1, .int x2]) (m_X6_isCall o x1 x2 _ _ q3) mlX6_197 gm_286 gm_287 rfl (by decide) k6 rfl ⟨(Nat.le_of_ble_eq_true rfl), (Nat.le_of_ble_eq_true rfl)⟩ (rest := []) rfl (Nat.le_of_ble_eq_true rfl) (mc := 0) (ms := 0) (MC := 0) (MS := 0) rfl rfl rfl rfl (by omega) (by omega) dX6_result_3 (st2 := [.int v1]) rfl (fun H locs M hS => ?_)
  refine lv_if_eq (tgt := 42) X.1 X.2.1 dX6_result_6 (by decide) (fun c7 => ?_) (fun c7 => ?_)
  · rw [if_pos c7] at hf
    refine lv_lconst (v := 0) X.1 X.2.1 dX6_result_42 (by decide) ?_
    obtain rfl := Option.some.inj hf
    exact q_lret X M hS (by omega) (by omega) dX6_result_43
  · rw [if_neg c7] at hf
    refine q_aload_n X dX6_result_9 rfl (lv_at hl 0 rfl) ?_
    have ho := gR_e hf
    clear hf
    obtain ⟨a8, v9, e10, k11, q12, hf⟩ := ho
    cases e10
    refine q_get X M flX6_22.g k11 (congrArg va_rf q12) dX6_result_10 ?_
    refine lv_bipush (v := 60) X.1 X.2.1 dX6_result_13 (by decide) ?_
    refine lv_iload_n X.1 X.2.1 dX6_result_15 rfl (lv_at hl 1 rfl) ?_
    refine lv_imul X.1 X.2.1 dX6_result_16 ?_
    refine lv_iload_n X.1 X.2.1 dX6_result_17 rfl (lv_at hl 2 rfl) ?_
    refine lv_iadd X.1 X.2.1 dX6_result_18 ?_
    refine lv_iconst (v := 1) X.1 X.2.1 dX6_result_19 (by decide) ?_
    refine lv_isub X.1 X.2.1 dX6_result_20 ?_
    have ho := aI_e hf
    clear hf
    obtain ⟨a13, v14, e15, k16, i17, q18, hf⟩ := ho
    cases e15
    refine q_iald X M k16 i17 dX6_result_21 ?_
    rw [q18]
    refine lv_iconst (v := 1) X.1 X.2.1 dX6_result_22 (by decide) ?_
    refine lv_icmp_ne (tgt := 42) X.1 X.2.1 dX6_result_23 (by decide) (fun c19 => ?_) (fun c19 => ?_)
    · rw [if_neg c19] at hf
      refine lv_lconst (v := 0) X.1 X.2.1 dX6_result_42 (by decide) ?_
      obtain rfl := Option.some.inj hf
      exact q_lret X M hS (by omega) (by omega) dX6_result_43
    · rw [if_pos c19] at hf
      refine q_aload_n X dX6_result_26 rfl (lv_at hl 0 rfl) ?_
      have ho := gR_e hf
      clear hf
      obtain ⟨a20, v21, e22, k23, q24, hf⟩ := ho
      cases e22
      refine q_get X M flX6_25.g k23 (congrArg va_rf q24) dX6_result_27 ?_
      refine lv_bipush (v := 60) X.1 X.2.1 dX6_result_30 (by decide) ?_
      refine lv_iload_n X.1 X.2.1 dX6_result_32 rfl (lv_at hl 1 rfl) ?_
      refine lv_imul X.1 X.2.1 dX6_result_33 ?_
      refine lv_iload_n X.1 X.2.1 dX6_result_34 rfl (lv_at hl 2 rfl) ?_
      refine lv_iadd X.1 X.2.1 dX6_result_35 ?_
      refine lv_iconst (v := 1) X.1 X.2.1 dX6_result_36 (by decide) ?_
      refine lv_isub X.1 X.2.1 dX6_result_37 ?_
      have ho := aL_e hf
      clear hf
      obtain ⟨a25, v26, e27, k28, i29, q30, hf⟩ := ho
      cases e27
      refine q_lald X M k28 i29 dX6_result_38 ?_
      rw [q30]
      refine lv_goto (tgt := 43) X.1 X.2.1 dX6_result_39 (by decide) ?_
      obtain rfl := Option.some.inj hf
      exact q_lret X M hS (by omega) (by omega) dX6_result_43
theorem m_X6_result {l : Launch} {D : va_G} {aC : Nat → ClassId} {b0 : Nat} {w : Wd} (o : Nat) (x1 : Int32) (x2 : Int32) (v : Int64) (w' : Wd) (hf : f_X6_result o x1 x2 w = some (v, w')) : Ct l D aC b0 yX6_result (Cond.code yX6_result cX6_result 3 (some .long) :: Gw) rX6_result [va_rf (some o), .int x1, .int x2] w (some (.long v)) w' :=
  q_met (by decide) (Nat.le_of_ble_eq_true rfl) (fun p e s m below meth c X M ls hl => e_X6_result X (res := (v, w')) o x1 x2 w s.heap [] 0 0 ls hf M va_S.rf (by decide) (by decide) hl)
abbrev rX6_letter_ : Room := { frames := 1, cells := 0, slots := 0, locals := 22 }
def f_X6_letter_ (o : Nat) (x1 : Int32) (x2 : Int32) (w : Wd) : Option (Int32 × Wd) := gI w (some o) 7 50 (fun v2 => bnd (f_X6_in x1 0 (v2 - 1) w) (fun v6 w7 => if v6 = 0 then (some ((-1), w7)) else (gR w7 (some o) 7 49 (fun v11 => aI w7 v11 100 x1 (fun v16 => gR w7 (some o) 7 31 (fun v22 => aI w7 v22 100 v16 (fun v27 => if x2 = 0 then (some (v27, w7)) else if x2 = 1 then (gR w7 (some o) 7 32 (fun v35 => aI w7 v35 100 v16 (fun v40 => some (v40, w7)))) else if x2 = 2 then (gR w7 (some o) 7 33 (fun v47 => aI w7 v47 100 v16 (fun v52 => some (v52, w7)))) else if x2 = 3 then (gR w7 (some o) 7 34 (fun v59 => aI w7 v59 100 v16 (fun v64 => some (v64, w7)))) else if x2 = 4 then (gR w7 (some o) 7 35 (fun v71 => aI w7 v71 100 v16 (fun v76 => some (v76, w7)))) else if x2 = 5 then (if v27 = 4 then (some (0, w7)) else (if v27 = 5 then (some (0, w7)) else (gR w7 (some o) 7 36 (fun v85 => aI w7 v85 100 v16 (fun v90 => some (v90, w7)))))) else (some ((-1), w7)))))))))
set_option maxHeartbeats 4000000 in
set_option maxRecDepth 100000 in
theorem e_X6_letter_ {l : Launch} {D : va_G} {aC : Nat → ClassId} {b0 : Nat} {p : Program} {e : Env} {s : State} {m : MethodId} {args : Array Value} {below : List Frame} {meth : Method} {c : Code} (X : Cx D aC p s m args meth c cX6_letter_ RX6 5 "letter" (some .int)) {res : (Int32 × Wd)} (o : Nat) (x1 : Int32) (x2 : Int32) (w : Wd) : BW l D aC b0 p e rX6_letter_ s m args below meth c (Qe D aC b0 below args s 0 0 (some (.int res.1)) res.2) res 0 0 0 0 (f_X6_letter_ o x1 x2 w) w 0 5 [(0, va_rf (some o)), (1, .int x1), (2, .int x2)] [] := by
  intro H locs cells slots ls hf M hS hc hs hl
  unfold f_X6_letter_ at hf
  refine lv_iload_n X.1 X.2.1 dX6_letter__0 rfl (lv_at hl 1 rfl) ?_
  refine lv_iconst (v := 0) X.1 X.2.1 dX6_letter__1 (by decide) ?_
  refine q_aload_n X dX6_letter__2 rfl (lv_at hl 0 rfl) ?_
  have ho := gI_e hf
  clear hf
  obtain ⟨a1, v2, e3, k4, q5, hf⟩ := ho
  cases e3
  refine q_get X M flX6_162.g k4 (congrArg Value.int q5) dX6_letter__3 ?_
  refine lv_iconst (v := 1) X.1 X.2.1 dX6_letter__6 (by decide) ?_
  refine lv_isub X.1 X.2.1 dX6_letter__7 ?_
  have ho := bnd_e hf
  clear hf
  obtain ⟨v6, w7, q8, hf⟩ := ho
  refine q_cS X M hS hl.1 (As := [.int x1, .int 0, .int (v2 - 1)]) (m_X6_in x1 0 (v2 - 1) _ _ q8) mlX6_152 gm_171 rfl ⟨(Nat.le_of_ble_eq_true rfl), (Nat.le_of_ble_eq_true rfl)⟩ (rest := []) rfl (Nat.le_of_ble_eq_true rfl) (mc := 0) (ms := 0) (MC := 0) (MS := 0) rfl rfl rfl rfl (by omega) (by omega) dX6_letter__8 (st2 := [.int v6]) rfl (fun H locs M hS => ?_)
  refine lv_if_ne (tgt := 16) X.1 X.2.1 dX6_letter__11 (by decide) (fun c9 => ?_) (fun c9 => ?_)
  · rw [if_neg c9] at hf
    refine q_aload_n X dX6_letter__16 rfl (lv_at hl 0 rfl) ?_
    have ho := gR_e hf
    clear hf
    obtain ⟨a10, v11, e12, k13, q14, hf⟩ := ho
    cases e12
    refine q_get X M flX6_136.g k13 (congrArg va_rf q14) dX6_letter__17 ?_
    refine lv_iload_n X.1 X.2.1 dX6_letter__20 rfl (lv_at hl 1 rfl) ?_
    have ho := aI_e hf
    clear hf
    obtain ⟨a15, v16, e17, k18, i19, q20, hf⟩ := ho
    cases e17
    refine q_iald X M k18 i19 dX6_letter__21 ?_
    rw [q20]
    refine lv_istore_n (i := 3) (lv' := [(3, .int v16), (0, va_rf (some o)), (1, .int x1), (2, .int x2)]) X.1 X.2.1 dX6_letter__22 rfl hl (by decide) rfl (fun ls hl => ?_)
    refine q_aload_n X dX6_letter__23 rfl (lv_at hl 1 rfl) ?_
    have ho := gR_e hf
    clear hf
    obtain ⟨a21, v22, e23, k24, q25, hf⟩ := ho
    cases e23
    refine q_get X M flX6_84.g k24 (congrArg va_rf q25) dX6_letter__24 ?_
    refine lv_iload_n X.1 X.2.1 dX6_letter__27 rfl (lv_at hl 0 rfl) ?_
    have ho := aI_e hf
    clear hf
    obtain ⟨a26, v27, e28, k29, i30, q31, hf⟩ := ho
    cases e28
    refine q_iald X M k29 i30 dX6_letter__28 ?_
    rw [q31]
    refine lv_istore (i := 4) (lv' := [(4, .int v27), (3, .int v16), (0, va_rf (some o)), (1, .int x1), (2, .int x2)]) X.1 X.2.1 dX6_letter__29 hl (by decide) rfl (fun ls hl => ?_)
    refine lv_iload_n X.1 X.2.1 dX6_letter__31 rfl (lv_at hl 4 rfl) ?_
    by_cases c32 : x2 = 0
    · rw [if_pos c32] at hf
      refine lv_tableIn (tgt := 72) (off := 40) X.1 X.2.1 dX6_letter__32 (by rw [c32]; decide) (by rw [c32]; decide) (by rw [c32]; rfl) (by decide) ?_
      refine lv_iload X.1 X.2.1 dX6_letter__72 (lv_at hl 0 rfl) ?_
      obtain rfl := Option.some.inj hf
      exact q_iret X M hS (by omega) (by omega) dX6_letter__74
    rw [if_neg c32] at hf
    by_cases c33 : x2 = 1
    · rw [if_pos c33] at hf
      refine lv_tableIn (tgt := 75) (off := 43) X.1 X.2.1 dX6_letter__32 (by rw [c33]; decide) (by rw [c33]; decide) (by rw [c33]; rfl) (by decide) ?_
      refine q_aload_n X dX6_letter__75 rfl (lv_at hl 2 rfl) ?_
      have ho := gR_e hf
      clear hf
      obtain ⟨a34, v35, e36, k37, q38, hf⟩ := ho
      cases e36
      refine q_get X M flX6_87.g k37 (congrArg va_rf q38) dX6_letter__76 ?_
      refine lv_iload_n X.1 X.2.1 dX6_letter__79 rfl (lv_at hl 1 rfl) ?_
      have ho := aI_e hf
      clear hf
      obtain ⟨a39, v40, e41, k42, i43, q44, hf⟩ := ho
      cases e41
      refine q_iald X M k42 i43 dX6_letter__80 ?_
      rw [q44]
      obtain rfl := Option.some.inj hf
      exact q_iret X M hS (by omega) (by omega) dX6_letter__81
    rw [if_neg c33] at hf
    by_cases c45 : x2 = 2
    · rw [if_pos c45] at hf
      refine lv_tableIn (tgt := 82) (off := 50) X.1 X.2.1 dX6_letter__32 (by rw [c45]; decide) (by rw [c45]; decide) (by rw [c45]; rfl) (by decide) ?_
      refine q_aload_n X dX6_letter__82 rfl (lv_at hl 2 rfl) ?_
      have ho := gR_e hf
      clear hf
      obtain ⟨a46, v47, e48, k49, q50, hf⟩ := ho
      cases e48
      refine q_get X M flX6_90.g k49 (congrArg va_rf q50) dX6_letter__83 ?_
      refine lv_iload_n X.1 X.2.1 dX6_letter__86 rfl (lv_at hl 1 rfl) ?_
      have ho := aI_e hf
      clear hf
      obtain ⟨a51, v52, e53, k54, i55, q56, hf⟩ := ho
      cases e53
      refine q_iald X M k54 i55 dX6_letter__87 ?_
      rw [q56]
      obtain rfl := Option.some.inj hf
      exact q_iret X M hS (by omega) (by omega) dX6_letter__88
    rw [if_neg c45] at hf
    by_cases c57 : x2 = 3
    · rw [if_pos c57] at hf
      refine lv_tableIn (tgt := 89) (off := 57) X.1 X.2.1 dX6_letter__32 (by rw [c57]; decide) (by rw [c57]; decide) (by rw [c57]; rfl) (by decide) ?_
      refine q_aload_n X dX6_letter__89 rfl (lv_at hl 2 rfl) ?_
      have ho := gR_e hf
      clear hf
      obtain ⟨a58, v59, e60, k61, q62, hf⟩ := ho
      cases e60
      refine q_get X M flX6_93.g k61 (congrArg va_rf q62) dX6_letter__90 ?_
      refine lv_iload_n X.1 X.2.1 dX6_letter__93 rfl (lv_at hl 1 rfl) ?_
      have ho := aI_e hf
      clear hf
      obtain ⟨a63, v64, e65, k66, i67, q68, hf⟩ := ho
      cases e65
      refine q_iald X M k66 i67 dX6_letter__94 ?_
      rw [q68]
      obtain rfl := Option.some.inj hf
      exact q_iret X M hS (by omega) (by omega) dX6_letter__95
    rw [if_neg c57] at hf
    by_cases c69 : x2 = 4
    · rw [if_pos c69] at hf
      refine lv_tableIn (tgt := 96) (off := 64) X.1 X.2.1 dX6_letter__32 (by rw [c69]; decide) (by rw [c69]; decide) (by rw [c69]; rfl) (by decide) ?_
      refine q_aload_n X dX6_letter__96 rfl (lv_at hl 2 rfl) ?_
      have ho := gR_e hf
      clear hf
      obtain ⟨a70, v71, e72, k73, q74, hf⟩ := ho
      cases e72
      refine q_get X M flX6_96.g k73 (congrArg va_rf q74) dX6_letter__97 ?_
      refine lv_iload_n X.1 X.2.1 dX6_letter__100 rfl (lv_at hl 1 rfl) ?_
      have ho := aI_e hf
      clear hf
      obtain ⟨a75, v76, e77, k78, i79, q80, hf⟩ := ho
      cases e77
      refine q_iald X M k78 i79 dX6_letter__101 ?_
      rw [q80]
      obtain rfl := Option.some.inj hf
      exact q_iret X M hS (by omega) (by omega) dX6_letter__102
    rw [if_neg c69] at hf
    by_cases c81 : x2 = 5
    · rw [if_pos c81] at hf
      refine lv_tableIn (tgt := 103) (off := 71) X.1 X.2.1 dX6_letter__32 (by rw [c81]; decide) (by rw [c81]; decide) (by rw [c81]; rfl) (by decide) ?_
      refine lv_iload X.1 X.2.1 dX6_letter__103 (lv_at hl 0 rfl) ?_
      refine lv_iconst (v := 4) X.1 X.2.1 dX6_letter__105 (by decide) ?_
      refine lv_icmp_eq (tgt := 115) X.1 X.2.1 dX6_letter__106 (by decide) (fun c82 => ?_) (fun c82 => ?_)
      · rw [if_pos c82] at hf
        refine lv_iconst (v := 0) X.1 X.2.1 dX6_letter__115 (by decide) ?_
        refine lv_goto (tgt := 125) X.1 X.2.1 dX6_letter__116 (by decide) ?_
        obtain rfl := Option.some.inj hf
        exact q_iret X M hS (by omega) (by omega) dX6_letter__125
      · rw [if_neg c82] at hf
        refine lv_iload X.1 X.2.1 dX6_letter__109 (lv_at hl 0 rfl) ?_
        refine lv_iconst (v := 5) X.1 X.2.1 dX6_letter__111 (by decide) ?_
        refine lv_icmp_ne (tgt := 119) X.1 X.2.1 dX6_letter__112 (by decide) (fun c83 => ?_) (fun c83 => ?_)
        · rw [if_neg c83] at hf
          refine q_aload_n X dX6_letter__119 rfl (lv_at hl 2 rfl) ?_
          have ho := gR_e hf
          clear hf
          obtain ⟨a84, v85, e86, k87, q88, hf⟩ := ho
          cases e86
          refine q_get X M flX6_99.g k87 (congrArg va_rf q88) dX6_letter__120 ?_
          refine lv_iload_n X.1 X.2.1 dX6_letter__123 rfl (lv_at hl 1 rfl) ?_
          have ho := aI_e hf
          clear hf
          obtain ⟨a89, v90, e91, k92, i93, q94, hf⟩ := ho
          cases e91
          refine q_iald X M k92 i93 dX6_letter__124 ?_
          rw [q94]
          obtain rfl := Option.some.inj hf
          exact q_iret X M hS (by omega) (by omega) dX6_letter__125
        · rw [if_pos c83] at hf
          refine lv_iconst (v := 0) X.1 X.2.1 dX6_letter__115 (by decide) ?_
          refine lv_goto (tgt := 125) X.1 X.2.1 dX6_letter__116 (by decide) ?_
          obtain rfl := Option.some.inj hf
          exact q_iret X M hS (by omega) (by omega) dX6_letter__125
    rw [if_neg c81] at hf
    have ht32 : x2.toInt < 0 ∨ 5 < x2.toInt := by
      have g0 : x2.toInt ≠ 0 := by simpa using ne_i c32
      have g1 : x2.toInt ≠ 1 := by simpa using ne_i c33
      have g2 : x2.toInt ≠ 2 := by simpa using ne_i c45
      have g3 : x2.toInt ≠ 3 := by simpa using ne_i c57
      have g4 : x2.toInt ≠ 4 := by simpa using ne_i c69
      have g5 : x2.toInt ≠ 5 := by simpa using ne_i c81
      omega
    refine lv_tableOut (tgt := 126) X.1 X.2.1 dX6_letter__32 ht32 (by decide) ?_
    refine lv_iconst (v := (-1)) X.1 X.2.1 dX6_letter__126 (by decide) ?_
    obtain rfl := Option.some.inj hf
    exact q_iret X M hS (by omega) (by omega) dX6_letter__127
  · rw [if_pos c9] at hf
    refine lv_iconst (v := (-1)) X.1 X.2.1 dX6_letter__14 (by decide) ?_
    obtain rfl := Option.some.inj hf
    exact q_iret X M hS (by omega) (by omega) dX6_letter__15
theorem m_X6_letter_ {l : Launch} {D : va_G} {aC : Nat → ClassId} {b0 : Nat} {w : Wd} (o : Nat) (x1 : Int32) (x2 : Int32) (v : Int32) (w' : Wd) (hf : f_X6_letter_ o x1 x2 w = some (v, w')) : Ct l D aC b0 yX6_letter_ (Cond.code yX6_letter_ cX6_letter_ 5 (some .int) :: Gw) rX6_letter_ [va_rf (some o), .int x1, .int x2] w (some (.int v)) w' :=
  q_met (by decide) (Nat.le_of_ble_eq_true rfl) (fun p e s m below meth c X M ls hl => e_X6_letter_ X (res := (v, w')) o x1 x2 w s.heap [] 0 0 ls hf M va_S.rf (by decide) (by decide) hl)
abbrev rX6_count : Room := { frames := 0, cells := 0, slots := 0, locals := 0 }
def f_X6_count (o : Nat) (x1 : Int32) (w : Wd) : Option (Int32 × Wd) := if x1 = 0 then (gI w (some o) 7 50 (fun v3 => some (v3, w))) else if x1 = 1 then (gI w (some o) 7 3 (fun v9 => some (v9, w))) else if x1 = 2 then (gI w (some o) 7 4 (fun v15 => some (v15, w))) else if x1 = 3 then (gI w (some o) 7 5 (fun v21 => some (v21, w))) else if x1 = 4 then (gI w (some o) 7 2 (fun v27 => some (v27, w))) else (some ((-1), w))
set_option maxHeartbeats 4000000 in
set_option maxRecDepth 100000 in
theorem e_X6_count {l : Launch} {D : va_G} {aC : Nat → ClassId} {b0 : Nat} {p : Program} {e : Env} {s : State} {m : MethodId} {args : Array Value} {below : List Frame} {meth : Method} {c : Code} (X : Cx D aC p s m args meth c cX6_count RX6 2 "count" (some .int)) {res : (Int32 × Wd)} (o : Nat) (x1 : Int32) (w : Wd) : BW l D aC b0 p e rX6_count s m args below meth c (Qe D aC b0 below args s 0 0 (some (.int res.1)) res.2) res 0 0 0 0 (f_X6_count o x1 w) w 0 2 [(0, va_rf (some o)), (1, .int x1)] [] := by
  intro H locs cells slots ls hf M hS hc hs hl
  unfold f_X6_count at hf
  refine lv_iload_n X.1 X.2.1 dX6_count_0 rfl (lv_at hl 1 rfl) ?_
  by_cases c1 : x1 = 0
  · rw [if_pos c1] at hf
    refine lv_tableIn (tgt := 36) (off := 35) X.1 X.2.1 dX6_count_1 (by rw [c1]; decide) (by rw [c1]; decide) (by rw [c1]; rfl) (by decide) ?_
    refine q_aload_n X dX6_count_36 rfl (lv_at hl 0 rfl) ?_
    have ho := gI_e hf
    clear hf
    obtain ⟨a2, v3, e4, k5, q6, hf⟩ := ho
    cases e4
    refine q_get X M flX6_162.g k5 (congrArg Value.int q6) dX6_count_37 ?_
    obtain rfl := Option.some.inj hf
    exact q_iret X M hS (by omega) (by omega) dX6_count_40
  rw [if_neg c1] at hf
  by_cases c7 : x1 = 1
  · rw [if_pos c7] at hf
    refine lv_tableIn (tgt := 41) (off := 40) X.1 X.2.1 dX6_count_1 (by rw [c7]; decide) (by rw [c7]; decide) (by rw [c7]; rfl) (by decide) ?_
    refine q_aload_n X dX6_count_41 rfl (lv_at hl 0 rfl) ?_
    have ho := gI_e hf
    clear hf
    obtain ⟨a8, v9, e10, k11, q12, hf⟩ := ho
    cases e10
    refine q_get X M flX6_165.g k11 (congrArg Value.int q12) dX6_count_42 ?_
    obtain rfl := Option.some.inj hf
    exact q_iret X M hS (by omega) (by omega) dX6_count_45
  rw [if_neg c7] at hf
  by_cases c13 : x1 = 2
  · rw [if_pos c13] at hf
    refine lv_tableIn (tgt := 46) (off := 45) X.1 X.2.1 dX6_count_1 (by rw [c13]; decide) (by rw [c13]; decide) (by rw [c13]; rfl) (by decide) ?_
    refine q_aload_n X dX6_count_46 rfl (lv_at hl 0 rfl) ?_
    have ho := gI_e hf
    clear hf
    obtain ⟨a14, v15, e16, k17, q18, hf⟩ := ho
    cases e16
    refine q_get X M flX6_225.g k17 (congrArg Value.int q18) dX6_count_47 ?_
    obtain rfl := Option.some.inj hf
    exact q_iret X M hS (by omega) (by omega) dX6_count_50
  rw [if_neg c13] at hf
  by_cases c19 : x1 = 3
  · rw [if_pos c19] at hf
    refine lv_tableIn (tgt := 51) (off := 50) X.1 X.2.1 dX6_count_1 (by rw [c19]; decide) (by rw [c19]; decide) (by rw [c19]; rfl) (by decide) ?_
    refine q_aload_n X dX6_count_51 rfl (lv_at hl 0 rfl) ?_
    have ho := gI_e hf
    clear hf
    obtain ⟨a20, v21, e22, k23, q24, hf⟩ := ho
    cases e22
    refine q_get X M flX6_204.g k23 (congrArg Value.int q24) dX6_count_52 ?_
    obtain rfl := Option.some.inj hf
    exact q_iret X M hS (by omega) (by omega) dX6_count_55
  rw [if_neg c19] at hf
  by_cases c25 : x1 = 4
  · rw [if_pos c25] at hf
    refine lv_tableIn (tgt := 56) (off := 55) X.1 X.2.1 dX6_count_1 (by rw [c25]; decide) (by rw [c25]; decide) (by rw [c25]; rfl) (by decide) ?_
    refine q_aload_n X dX6_count_56 rfl (lv_at hl 0 rfl) ?_
    have ho := gI_e hf
    clear hf
    obtain ⟨a26, v27, e28, k29, q30, hf⟩ := ho
    cases e28
    refine q_get X M flX6_156.g k29 (congrArg Value.int q30) dX6_count_57 ?_
    obtain rfl := Option.some.inj hf
    exact q_iret X M hS (by omega) (by omega) dX6_count_60
  rw [if_neg c25] at hf
  have ht1 : x1.toInt < 0 ∨ 4 < x1.toInt := by
    have g0 : x1.toInt ≠ 0 := by simpa using ne_i c1
    have g1 : x1.toInt ≠ 1 := by simpa using ne_i c7
    have g2 : x1.toInt ≠ 2 := by simpa using ne_i c13
    have g3 : x1.toInt ≠ 3 := by simpa using ne_i c19
    have g4 : x1.toInt ≠ 4 := by simpa using ne_i c25
    omega
  refine lv_tableOut (tgt := 61) X.1 X.2.1 dX6_count_1 ht1 (by decide) ?_
  refine lv_iconst (v := (-1)) X.1 X.2.1 dX6_count_61 (by decide) ?_
  obtain rfl := Option.some.inj hf
  exact q_iret X M hS (by omega) (by omega) dX6_count_62
theorem m_X6_count {l : Launch} {D : va_G} {aC : Nat → ClassId} {b0 : Nat} {w : Wd} (o : Nat) (x1 : Int32) (v : Int32) (w' : Wd) (hf : f_X6_count o x1 w = some (v, w')) : Ct l D aC b0 yX6_count (Cond.code yX6_count cX6_count 2 (some .int) :: Gw) rX6_count [va_rf (some o), .int x1] w (some (.int v)) w' :=
  q_met (by decide) (Nat.le_of_ble_eq_true rfl) (fun p e s m below meth c X M ls hl => e_X6_count X (res := (v, w')) o x1 w s.heap [] 0 0 ls hf M va_S.rf (by decide) (by decide) hl)
