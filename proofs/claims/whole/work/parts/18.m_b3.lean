abbrev rX5_ticks : Room := { frames := 0, cells := 0, slots := 0, locals := 0 }
def f_X5_ticks (o : Nat) (x1 : Int32) (w : Wd) : Option (Int32 × Wd) := if x1 < 0 then (some ((-1), w)) else (if x1 ≤ 1000 then (gI w (some o) 6 4 (fun v4 => pI w (some o) 6 4 (v4 + x1) (fun w9 => gI w9 (some o) 6 4 (fun v14 => some (v14, w9))))) else (some ((-1), w)))
set_option maxHeartbeats 4000000 in
set_option maxRecDepth 100000 in
theorem e_X5_ticks {l : Launch} {D : va_G} {aC : Nat → ClassId} {b0 : Nat} {p : Program} {e : Env} {s : State} {m : MethodId} {args : Array Value} {below : List Frame} {meth : Method} {c : Code} (X : Cx D aC p s m args meth c cX5_ticks RX5 2 "ticks" (some .int)) {res : (Int32 × Wd)} (o : Nat) (x1 : Int32) (w : Wd) : BW l D aC b0 p e rX5_ticks s m args below meth c (Qe D aC b0 below args s 0 0 (some (.int res.1)) res.2) res 0 0 0 0 (f_X5_ticks o x1 w) w 0 2 [(0, va_rf (some o)), (1, .int x1)] [] := by
  intro H locs cells slots ls hf M hS hc hs hl
  unfold f_X5_ticks at hf
  refine lv_iload_n X.1 X.2.1 dX5_ticks_0 rfl (lv_at hl 1 rfl) ?_
  refine lv_if_lt (tgt := 11) X.1 X.2.1 dX5_ticks_1 (by decide) (fun c1 => ?_) (fun c1 => ?_)
  · rw [if_pos c1] at hf
    refine lv_iconst (v := (-1)) X.1 X.2.1 dX5_ticks_11 (by decide) ?_
    obtain rfl := Option.some.inj hf
    exact q_iret X M hS (by omega) (by omega) dX5_ticks_12
  · rw [if_neg c1] at hf
    refine lv_iload_n X.1 X.2.1 dX5_ticks_4 rfl (lv_at hl 1 rfl) ?_
    refine lv_sipush (v := 1000) X.1 X.2.1 dX5_ticks_5 (by decide) ?_
    refine lv_icmp_le (tgt := 13) X.1 X.2.1 dX5_ticks_8 (by decide) (fun c2 => ?_) (fun c2 => ?_)
    · rw [if_pos c2] at hf
      refine q_aload_n X dX5_ticks_13 rfl (lv_at hl 0 rfl) ?_
      refine lv_dup X.1 X.2.1 dX5_ticks_14 rfl ?_
      have ho := gI_e hf
      clear hf
      obtain ⟨a3, v4, e5, k6, q7, hf⟩ := ho
      cases e5
      refine q_get X M flX5_51.g k6 (congrArg Value.int q7) dX5_ticks_15 ?_
      refine lv_iload_n X.1 X.2.1 dX5_ticks_18 rfl (lv_at hl 1 rfl) ?_
      refine lv_iadd X.1 X.2.1 dX5_ticks_19 ?_
      have ho := pI_e hf
      clear hf
      obtain ⟨a8, w9, e10, k11, q12, hf⟩ := ho
      cases e10
      refine q_putI X M hS flX5_51 (Or.inl rfl) k11 dX5_ticks_20 (fun H locs M hS => ?_)
      rw [q12] at M
      refine q_aload_n X dX5_ticks_23 rfl (lv_at hl 0 rfl) ?_
      have ho := gI_e hf
      clear hf
      obtain ⟨a13, v14, e15, k16, q17, hf⟩ := ho
      cases e15
      refine q_get X M flX5_51.g k16 (congrArg Value.int q17) dX5_ticks_24 ?_
      obtain rfl := Option.some.inj hf
      exact q_iret X M hS (by omega) (by omega) dX5_ticks_27
    · rw [if_neg c2] at hf
      refine lv_iconst (v := (-1)) X.1 X.2.1 dX5_ticks_11 (by decide) ?_
      obtain rfl := Option.some.inj hf
      exact q_iret X M hS (by omega) (by omega) dX5_ticks_12
theorem m_X5_ticks {l : Launch} {D : va_G} {aC : Nat → ClassId} {b0 : Nat} {w : Wd} (o : Nat) (x1 : Int32) (v : Int32) (w' : Wd) (hf : f_X5_ticks o x1 w = some (v, w')) : Ct l D aC b0 yX5_ticks (Cond.code yX5_ticks cX5_ticks 2 (some .int) :: Gw) rX5_ticks [va_rf (some o), .int x1] w (some (.int v)) w' :=
  q_met (by decide) (Nat.le_of_ble_eq_true rfl) (fun p e s m below meth c X M ls hl => e_X5_ticks X (res := (v, w')) o x1 w s.heap [] 0 0 ls hf M va_S.rf (by decide) (by decide) hl)
abbrev rX5_oneIf : Room := { frames := 0, cells := 0, slots := 0, locals := 0 }
def f_X5_oneIf (x0 : Int32) (w : Wd) : Option (Int32 × Wd) := if x0 = 0 then (some (0, w)) else (some (1, w))
set_option maxHeartbeats 4000000 in
set_option maxRecDepth 100000 in
theorem e_X5_oneIf {l : Launch} {D : va_G} {aC : Nat → ClassId} {b0 : Nat} {p : Program} {e : Env} {s : State} {m : MethodId} {args : Array Value} {below : List Frame} {meth : Method} {c : Code} (X : Cx D aC p s m args meth c cX5_oneIf RX5 1 "oneIf" (some .int)) {res : (Int32 × Wd)} (x0 : Int32) (w : Wd) : BW l D aC b0 p e rX5_oneIf s m args below meth c (Qe D aC b0 below args s 0 0 (some (.int res.1)) res.2) res 0 0 0 0 (f_X5_oneIf x0 w) w 0 1 [(0, .int x0)] [] := by
  intro H locs cells slots ls hf M hS hc hs hl
  unfold f_X5_oneIf at hf
  refine lv_iload_n X.1 X.2.1 dX5_oneIf_0 rfl (lv_at hl 0 rfl) ?_
  refine lv_if_eq (tgt := 8) X.1 X.2.1 dX5_oneIf_1 (by decide) (fun c1 => ?_) (fun c1 => ?_)
  · rw [if_pos c1] at hf
    refine lv_iconst (v := 0) X.1 X.2.1 dX5_oneIf_8 (by decide) ?_
    obtain rfl := Option.some.inj hf
    exact q_iret X M hS (by omega) (by omega) dX5_oneIf_9
  · rw [if_neg c1] at hf
    refine lv_iconst (v := 1) X.1 X.2.1 dX5_oneIf_4 (by decide) ?_
    refine lv_goto (tgt := 9) X.1 X.2.1 dX5_oneIf_5 (by decide) ?_
    obtain rfl := Option.some.inj hf
    exact q_iret X M hS (by omega) (by omega) dX5_oneIf_9
theorem m_X5_oneIf {l : Launch} {D : va_G} {aC : Nat → ClassId} {b0 : Nat} {w : Wd} (x0 : Int32) (v : Int32) (w' : Wd) (hf : f_X5_oneIf x0 w = some (v, w')) : Ct l D aC b0 yX5_oneIf (Cond.code yX5_oneIf cX5_oneIf 1 (some .int) :: Gw) rX5_oneIf [.int x0] w (some (.int v)) w' :=
  q_met (by decide) (Nat.le_of_ble_eq_true rfl) (fun p e s m below meth c X M ls hl => e_X5_oneIf X (res := (v, w')) x0 w s.heap [] 0 0 ls hf M va_S.rf (by decide) (by decide) hl)
abbrev rX5_server : Room := { frames := 1, cells := 0, slots := 0, locals := 22 }
def f_X5_server_71 (y0 : Int32) (w : Wd) : Option (Int32 × Wd) := bnd (f_X5_oneIf y0 w) (fun v24 w25 => some (v24, w25))
set_option maxHeartbeats 4000000 in
set_option maxRecDepth 100000 in
theorem b_X5_server_71 {l : Launch} {D : va_G} {aC : Nat → ClassId} {b0 : Nat} {p : Program} {e : Env} {s : State} {m : MethodId} {args : Array Value} {below : List Frame} {meth : Method} {c : Code} (X : Cx D aC p s m args meth c cX5_server RX5 4 "server" (some .int)) {res : (Int32 × Wd)} : ∀ (y0 : Int32) (w : Wd), BW l D aC b0 p e rX5_server s m args below meth c (Qe D aC b0 below args s 0 0 (some (.int res.1)) res.2) res 0 0 0 0 (f_X5_server_71 y0 w) w 71 4 [] [.int y0] := by
  intro y0 w H locs cells slots ls hf M hS hc hs hl
  unfold f_X5_server_71 at hf
  have ho := bnd_e hf
  clear hf
  obtain ⟨v24, w25, q26, hf⟩ := ho
  refine q_cS X M hS hl.1 (As := [.int y0]) (m_X5_oneIf y0 _ _ q26) mlX5_187 gm_576 rfl ⟨(Nat.le_of_ble_eq_true rfl), (Nat.le_of_ble_eq_true rfl)⟩ (rest := []) rfl (Nat.le_of_ble_eq_true rfl) (mc := 0) (ms := 0) (MC := 0) (MS := 0) rfl rfl rfl rfl (by omega) (by omega) dX5_server_71 (st2 := [.int v24]) rfl (fun H locs M hS => ?_)
  obtain rfl := Option.some.inj hf
  exact q_iret X M hS (by omega) (by omega) dX5_server_74
def f_X5_server_70 (w : Wd) : Option (Int32 × Wd) := (f_X5_server_71) 0 w
set_option maxHeartbeats 4000000 in
set_option maxRecDepth 100000 in
theorem b_X5_server_70 {l : Launch} {D : va_G} {aC : Nat → ClassId} {b0 : Nat} {p : Program} {e : Env} {s : State} {m : MethodId} {args : Array Value} {below : List Frame} {meth : Method} {c : Code} (X : Cx D aC p s m args meth c cX5_server RX5 4 "server" (some .int)) {res : (Int32 × Wd)} : ∀  (w : Wd), BW l D aC b0 p e rX5_server s m args below meth c (Qe D aC b0 below args s 0 0 (some (.int res.1)) res.2) res 0 0 0 0 (f_X5_server_70 w) w 70 4 [] [] := by
  intro w H locs cells slots ls hf M hS hc hs hl
  unfold f_X5_server_70 at hf
  refine lv_iconst (v := 0) X.1 X.2.1 dX5_server_70 (by decide) ?_
  exact (b_X5_server_71 X) 0 w _ _ _ _ _ hf M hS (by omega) (by omega) (lv_sub hl [] rfl)
def f_X5_server (o : Nat) (x1 : Int32) (x2 : Int32) (w : Wd) : Option (Int32 × Wd) := chk w (some o) 6 (fun a4 => bnd (f_X5_serverAt a4 x1 w) (fun v1 w2 => if v1 = none then (some ((-1), w2)) else (if x2 = 0 then (gI w2 v1 5 4 (fun v10 => bnd (f_X5_oneIf v10 w2) (fun v14 w15 => some (v14, w15)))) else if x2 = 1 then (gI w2 v1 5 4 (fun v19 => if v19 = 0 then ((f_X5_server_70) w2) else (gI w2 v1 5 5 (fun v28 => if v28 = 0 then ((f_X5_server_70) w2) else ((f_X5_server_71) 1 w2))))) else if x2 = 2 then (gR w2 v1 5 1 (fun v35 => gI w2 v35 4 1 (fun v40 => some (v40, w2)))) else if x2 = 3 then (gI w2 v1 5 4 (fun v46 => if v46 = 0 then (some (0, w2)) else (chk w2 v1 5 (fun a54 => bnd (f_X4_recordsInAll a54 w2) (fun v51 w52 => some (v51, w52)))))) else (some ((-1), w2)))))
set_option maxHeartbeats 4000000 in
set_option maxRecDepth 100000 in
theorem e_X5_server {l : Launch} {D : va_G} {aC : Nat → ClassId} {b0 : Nat} {p : Program} {e : Env} {s : State} {m : MethodId} {args : Array Value} {below : List Frame} {meth : Method} {c : Code} (X : Cx D aC p s m args meth c cX5_server RX5 4 "server" (some .int)) {res : (Int32 × Wd)} (o : Nat) (x1 : Int32) (x2 : Int32) (w : Wd) : BW l D aC b0 p e rX5_server s m args below meth c (Qe D aC b0 below args s 0 0 (some (.int res.1)) res.2) res 0 0 0 0 (f_X5_server o x1 x2 w) w 0 4 [(0, va_rf (some o)), (1, .int x1), (2, .int x2)] [] := by
  intro H locs cells slots ls hf M hS hc hs hl
  unfold f_X5_server at hf
  refine q_aload_n X dX5_server_0 rfl (lv_at hl 0 rfl) ?_
  refine lv_iload_n X.1 X.2.1 dX5_server_1 rfl (lv_at hl 1 rfl) ?_
  have ho := chk_e hf
  clear hf
  obtain ⟨a4, e5, k6, hf⟩ := ho
  cases e5
  have ho := bnd_e hf
  clear hf
  obtain ⟨v1, w2, q3, hf⟩ := ho
  refine q_cV X M hS hl.1 (ci := 5) (r := (RX5, TX5, 9)) (As := [.int x1]) (m_X5_serverAt o x1 _ _ q3) mlX5_85 gm_294 gm_295 rfl (by decide) k6 rfl ⟨(Nat.le_of_ble_eq_true rfl), (Nat.le_of_ble_eq_true rfl)⟩ (rest := []) rfl (Nat.le_of_ble_eq_true rfl) (mc := 0) (ms := 0) (MC := 0) (MS := 0) rfl rfl rfl rfl (by omega) (by omega) dX5_server_2 (st2 := [va_rf v1]) rfl (fun H locs M hS => ?_)
  refine q_astore_n (i := 3) (lv' := [(3, va_rf v1), (0, va_rf (some o)), (1, .int x1), (2, .int x2)]) X dX5_server_5 rfl hl (by decide) rfl (fun ls hl => ?_)
  refine q_aload_n X dX5_server_6 rfl (lv_at hl 0 rfl) ?_
  refine q_ifnonnull (tgt := 12) X dX5_server_7 (by decide) (fun c7 => ?_) (fun c7 => ?_)
  · rw [if_neg c7] at hf
    refine lv_iload_n X.1 X.2.1 dX5_server_12 rfl (lv_at hl 3 rfl) ?_
    by_cases c8 : x2 = 0
    · rw [if_pos c8] at hf
      refine lv_tableIn (tgt := 44) (off := 31) X.1 X.2.1 dX5_server_13 (by rw [c8]; decide) (by rw [c8]; decide) (by rw [c8]; rfl) (by decide) ?_
      refine q_aload_n X dX5_server_44 rfl (lv_at hl 0 rfl) ?_
      have ho := gI_e hf
      clear hf
      obtain ⟨a9, v10, e11, k12, q13, hf⟩ := ho
      cases e11
      refine q_get X M flX5_116.g k12 (congrArg Value.int q13) dX5_server_45 ?_
      have ho := bnd_e hf
      clear hf
      obtain ⟨v14, w15, q16, hf⟩ := ho
      refine q_cS X M hS hl.1 (As := [.int v10]) (m_X5_oneIf v10 _ _ q16) mlX5_187 gm_576 rfl ⟨(Nat.le_of_ble_eq_true rfl), (Nat.le_of_ble_eq_true rfl)⟩ (rest := []) rfl (Nat.le_of_ble_eq_true rfl) (mc := 0) (ms := 0) (MC := 0) (MS := 0) rfl rfl rfl rfl (by omega) (by omega) dX5_server_48 (st2 := [.int v14]) rfl (fun H locs M hS => ?_)
      obtain rfl := Option.some.inj hf
      exact q_iret X M hS (by omega) (by omega) dX5_server_51
    rw [if_neg c8] at hf
    by_cases c17 : x2 = 1
    · rw [if_pos c17] at hf
      refine lv_tableIn (tgt := 52) (off := 39) X.1 X.2.1 dX5_server_13 (by rw [c17]; decide) (by rw [c17]; decide) (by rw [c17]; rfl) (by decide) ?_
      refine q_aload_n X dX5_server_52 rfl (lv_at hl 0 rfl) ?_
      have ho := gI_e hf
      clear hf
      obtain ⟨a18, v19, e20, k21, q22, hf⟩ := ho
      cases e20
      refine q_get X M flX5_116.g k21 (congrArg Value.int q22) dX5_server_53 ?_
      refine lv_if_eq (tgt := 70) X.1 X.2.1 dX5_server_56 (by decide) (fun c23 => ?_) (fun c23 => ?_)
      · rw [if_pos c23] at hf
        exact (b_X5_server_70 X)  w2 _ _ _ _ _ hf M hS (by omega) (by omega) (lv_sub hl [] rfl)
      · rw [if_neg c23] at hf
        refine q_aload_n X dX5_server_59 rfl (lv_at hl 0 rfl) ?_
        have ho := gI_e hf
        clear hf
        obtain ⟨a27, v28, e29, k30, q31, hf⟩ := ho
        cases e29
        refine q_get X M flX5_161.g k30 (congrArg Value.int q31) dX5_server_60 ?_
        refine lv_if_eq (tgt := 70) X.1 X.2.1 dX5_server_63 (by decide) (fun c32 => ?_) (fun c32 => ?_)
        · rw [if_pos c32] at hf
          exact (b_X5_server_70 X)  w2 _ _ _ _ _ hf M hS (by omega) (by omega) (lv_sub hl [] rfl)
        · rw [if_neg c32] at hf
          refine lv_iconst (v := 1) X.1 X.2.1 dX5_server_66 (by decide) ?_
          refine lv_goto (tgt := 71) X.1 X.2.1 dX5_server_67 (by decide) ?_
          exact (b_X5_server_71 X) 1 w2 _ _ _ _ _ hf M hS (by omega) (by omega) (lv_sub hl [] rfl)
    rw [if_neg c17] at hf
    by_cases c33 : x2 = 2
    · rw [if_pos c33] at hf
      refine lv_tableIn (tgt := 75) (off := 62) X.1 X.2.1 dX5_server_13 (by rw [c33]; decide) (by rw [c33]; decide) (by rw [c33]; rfl) (by decide) ?_
      refine q_aload_n X dX5_server_75 rfl (lv_at hl 0 rfl) ?_
      have ho := gR_e hf
      clear hf
      obtain ⟨a34, v35, e36, k37, q38, hf⟩ := ho
      cases e36
      refine q_get X M flX5_134 k37 (congrArg va_rf q38) dX5_server_76 ?_
      have ho := gI_e hf
      clear hf
      obtain ⟨a39, v40, e41, k42, q43, hf⟩ := ho
      cases e41
      refine q_get X M flX5_137.g k42 (congrArg Value.int q43) dX5_server_79 ?_
      obtain rfl := Option.some.inj hf
      exact q_iret X M hS (by omega) (by omega) dX5_server_82
    rw [if_neg c33] at hf
    by_cases c44 : x2 = 3
    · rw [if_pos c44] at hf
      refine lv_tableIn (tgt := 83) (off := 70) X.1 X.2.1 dX5_server_13 (by rw [c44]; decide) (by rw [c44]; decide) (by rw [c44]; rfl) (by decide) ?_
      refine q_aload_n X dX5_server_83 rfl (lv_at hl 0 rfl) ?_
      have ho := gI_e hf
      clear hf
      obtain ⟨a45, v46, e47, k48, q49, hf⟩ := ho
      cases e47
      refine q_get X M flX5_116.g k48 (congrArg Value.int q49) dX5_server_84 ?_
      refine lv_if_eq (tgt := 97) X.1 X.2.1 dX5_server_87 (by decide) (fun c50 => ?_) (fun c50 => ?_)
      · rw [if_pos c50] at hf
        refine lv_iconst (v := 0) X.1 X.2.1 dX5_server_97 (by decide) ?_
        obtain rfl := Option.some.inj hf
        exact q_iret X M hS (by omega) (by omega) dX5_server_98
      · rw [if_neg c50] at hf
        refine q_aload_n X dX5_server_90 rfl (lv_at hl 0 rfl) ?_
        have ho := chk_e hf
        clear hf
        obtain ⟨a54, e55, k56, hf⟩ := ho
        cases e55
        have ho := bnd_e hf
        clear hf
        obtain ⟨v51, w52, q53, hf⟩ := ho
        refine q_cV X M hS hl.1 (ci := 4) (r := (RX4, TX4, 6)) (As := []) (m_X4_recordsInAll a45 _ _ q53) mlX5_191 gm_579 gm_580 rfl (by decide) k56 rfl ⟨(Nat.le_of_ble_eq_true rfl), (Nat.le_of_ble_eq_true rfl)⟩ (rest := []) rfl (Nat.le_of_ble_eq_true rfl) (mc := 0) (ms := 0) (MC := 0) (MS := 0) rfl rfl rfl rfl (by omega) (by omega) dX5_server_91 (st2 := [.int v51]) rfl (fun H locs M hS => ?_)
        refine lv_goto (tgt := 98) X.1 X.2.1 dX5_server_94 (by decide) ?_
        obtain rfl := Option.some.inj hf
        exact q_iret X M hS (by omega) (by omega) dX5_server_98
    rw [if_neg c44] at hf
    have ht13 : x2.toInt < 0 ∨ 3 < x2.toInt := by
      have g0 : x2.toInt ≠ 0 := by simpa using ne_i c8
      have g1 : x2.toInt ≠ 1 := by simpa using ne_i c17
      have g2 : x2.toInt ≠ 2 := by simpa using ne_i c33
      have g3 : x2.toInt ≠ 3 := by simpa using ne_i c44
      omega
    refine lv_tableOut (tgt := 99) X.1 X.2.1 dX5_server_13 ht13 (by decide) ?_
    refine lv_iconst (v := (-1)) X.1 X.2.1 dX5_server_99 (by decide) ?_
    obtain rfl := Option.some.inj hf
    exact q_iret X M hS (by omega) (by omega) dX5_server_100
  · rw [if_pos c7] at hf
    refine lv_iconst (v := (-1)) X.1 X.2.1 dX5_server_10 (by decide) ?_
    obtain rfl := Option.some.inj hf
    exact q_iret X M hS (by omega) (by omega) dX5_server_11
theorem m_X5_server {l : Launch} {D : va_G} {aC : Nat → ClassId} {b0 : Nat} {w : Wd} (o : Nat) (x1 : Int32) (x2 : Int32) (v : Int32) (w' : Wd) (hf : f_X5_server o x1 x2 w = some (v, w')) : Ct l D aC b0 yX5_server (Cond.code yX5_server cX5_server 4 (some .int) :: Gw) rX5_server [va_rf (some o), .int x1, .int x2] w (some (.int v)) w' :=
  q_met (by decide) (Nat.le_of_ble_eq_true rfl) (fun p e s m below meth c X M ls hl => e_X5_server X (res := (v, w')) o x1 x2 w s.heap [] 0 0 ls hf M va_S.rf (by decide) (by decide) hl)
abbrev rX5_bucketAt : Room := { frames := 1, cells := 0, slots := 0, locals := 21 }
def f_X5_bucketAt (o : Nat) (x1 : Int32) (x2 : Int32) (w : Wd) : Option ((Option Nat) × Wd) := chk w (some o) 6 (fun a4 => bnd (f_X5_serverAt a4 x1 w) (fun v1 w2 => if v1 = none then (some (none, w2)) else (chk w2 v1 5 (fun a11 => bnd (f_X4_bucketAt a11 x2 w2) (fun v8 w9 => some (v8, w9))))))
set_option maxHeartbeats 4000000 in
set_option maxRecDepth 100000 in
theorem e_X5_bucketAt {l : Launch} {D : va_G} {aC : Nat → ClassId} {b0 : Nat} {p : Program} {e : Env} {s : State} {m : MethodId} {args : Array Value} {below : List Frame} {meth : Method} {c : Code} (X : Cx D aC p s m args meth c cX5_bucketAt RX5 4 "bucketAt" (some (.object "OnceCalls$Bucket"))) {res : ((Option Nat) × Wd)} (o : Nat) (x1 : Int32) (x2 : Int32) (w : Wd) : BW l D aC b0 p e rX5_bucketAt s m args below meth c (Qe D aC b0 below args s 0 0 (some (va_rf res.1)) res.2) res 0 0 0 0 (f_X5_bucketAt o x1 x2 w) w 0 4 [(0, va_rf (some o)), (1, .int x1), (2, .int x2)] [] := by
  intro H locs cells slots ls hf M hS hc hs hl
  unfold f_X5_bucketAt at hf
  refine q_aload_n X dX5_bucketAt_0 rfl (lv_at hl 0 rfl) ?_
  refine lv_iload_n X.1 X.2.1 dX5_bucketAt_1 rfl (lv_at hl 1 rfl) ?_
  have ho := chk_e hf
  clear hf
  obtain ⟨a4, e5, k6, hf⟩ := ho
  cases e5
  have ho := bnd_e hf
  clear hf
  obtain ⟨v1, w2, q3, hf⟩ := ho
  refine q_cV X M hS hl.1 (ci := 5) (r := (RX5, TX5, 9)) (As := [.int x1]) (m_X5_serverAt o x1 _ _ q3) mlX5_85 gm_294 gm_295 rfl (by decide) k6 rfl ⟨(Nat.le_of_ble_eq_true rfl), (Nat.le_of_ble_eq_true rfl)⟩ (rest := []) rfl (Nat.le_of_ble_eq_true rfl) (mc := 0) (ms := 0) (MC := 0) (MS := 0) rfl rfl rfl rfl (by omega) (by omega) dX5_bucketAt_2 (st2 := [va_rf v1]) rfl (fun H locs M hS => ?_)
  refine q_astore_n (i := 3) (lv' := [(3, va_rf v1), (0, va_rf (some o)), (1, .int x1), (2, .int x2)]) X dX5_bucketAt_5 rfl hl (by decide) rfl (fun ls hl => ?_)
  refine q_aload_n X dX5_bucketAt_6 rfl (lv_at hl 0 rfl) ?_
  refine q_ifnonnull (tgt := 14) X dX5_bucketAt_7 (by decide) (fun c7 => ?_) (fun c7 => ?_)
  · rw [if_neg c7] at hf
    refine q_aload_n X dX5_bucketAt_14 rfl (lv_at hl 0 rfl) ?_
    refine lv_iload_n X.1 X.2.1 dX5_bucketAt_15 rfl (lv_at hl 3 rfl) ?_
    have ho := chk_e hf
    clear hf
    obtain ⟨a11, e12, k13, hf⟩ := ho
    cases e12
    have ho := bnd_e hf
    clear hf
    obtain ⟨v8, w9, q10, hf⟩ := ho
    refine q_cV X M hS hl.1 (ci := 4) (r := (RX4, TX4, 6)) (As := [.int x2]) (m_X4_bucketAt a11 x2 _ _ q10) mlX5_146 gm_344 gm_345 rfl (by decide) k13 rfl ⟨(Nat.le_of_ble_eq_true rfl), (Nat.le_of_ble_eq_true rfl)⟩ (rest := []) rfl (Nat.le_of_ble_eq_true rfl) (mc := 0) (ms := 0) (MC := 0) (MS := 0) rfl rfl rfl rfl (by omega) (by omega) dX5_bucketAt_16 (st2 := [va_rf v8]) rfl (fun H locs M hS => ?_)
    obtain rfl := Option.some.inj hf
    exact q_aret X M hS (by omega) (by omega) dX5_bucketAt_19
  · rw [if_pos c7] at hf
    refine q_null X dX5_bucketAt_10 ?_
    refine lv_goto (tgt := 19) X.1 X.2.1 dX5_bucketAt_11 (by decide) ?_
    obtain rfl := Option.some.inj hf
    exact q_aret X M hS (by omega) (by omega) dX5_bucketAt_19
theorem m_X5_bucketAt {l : Launch} {D : va_G} {aC : Nat → ClassId} {b0 : Nat} {w : Wd} (o : Nat) (x1 : Int32) (x2 : Int32) (v : (Option Nat)) (w' : Wd) (hf : f_X5_bucketAt o x1 x2 w = some (v, w')) : Ct l D aC b0 yX5_bucketAt (Cond.code yX5_bucketAt cX5_bucketAt 4 (some (.object "OnceCalls$Bucket")) :: Gw) rX5_bucketAt [va_rf (some o), .int x1, .int x2] w (some (va_rf v)) w' :=
  q_met (by decide) (Nat.le_of_ble_eq_true rfl) (fun p e s m below meth c X M ls hl => e_X5_bucketAt X (res := (v, w')) o x1 x2 w s.heap [] 0 0 ls hf M va_S.rf (by decide) (by decide) hl)
abbrev rX5_bucket : Room := { frames := 2, cells := 0, slots := 0, locals := 44 }
def f_X5_bucket_61 (x3 : Int32) (x4 : Option Nat) (w : Wd) : Option (Int32 × Wd) := if x3 = 0 then (gI w x4 1 0 (fun v12 => some (v12, w))) else if x3 = 1 then (gI w x4 1 1 (fun v18 => some (v18, w))) else if x3 = 2 then (gI w x4 1 2 (fun v24 => some (v24, w))) else if x3 = 3 then (gI w x4 1 3 (fun v30 => some (v30, w))) else (some ((-1), w))
set_option maxHeartbeats 4000000 in
set_option maxRecDepth 100000 in
theorem b_X5_bucket_61 {l : Launch} {D : va_G} {aC : Nat → ClassId} {b0 : Nat} {p : Program} {e : Env} {s : State} {m : MethodId} {args : Array Value} {below : List Frame} {meth : Method} {c : Code} (X : Cx D aC p s m args meth c cX5_bucket RX5 5 "bucket" (some .int)) {res : (Int32 × Wd)} : ∀ (x3 : Int32) (x4 : Option Nat) (w : Wd), BW l D aC b0 p e rX5_bucket s m args below meth c (Qe D aC b0 below args s 0 0 (some (.int res.1)) res.2) res 0 0 0 0 (f_X5_bucket_61 x3 x4 w) w 61 5 [(3, .int x3), (4, va_rf x4)] [] := by
  intro x3 x4 w H locs cells slots ls hf M hS hc hs hl
  unfold f_X5_bucket_61 at hf
  refine lv_iload_n X.1 X.2.1 dX5_bucket_61 rfl (lv_at hl 0 rfl) ?_
  by_cases c10 : x3 = 0
  · rw [if_pos c10] at hf
    refine lv_tableIn (tgt := 92) (off := 30) X.1 X.2.1 dX5_bucket_62 (by rw [c10]; decide) (by rw [c10]; decide) (by rw [c10]; rfl) (by decide) ?_
    refine q_aload X dX5_bucket_92 (lv_at hl 1 rfl) ?_
    have ho := gI_e hf
    clear hf
    obtain ⟨a11, v12, e13, k14, q15, hf⟩ := ho
    cases e13
    refine q_get X M flX5_155.g k14 (congrArg Value.int q15) dX5_bucket_94 ?_
    obtain rfl := Option.some.inj hf
    exact q_iret X M hS (by omega) (by omega) dX5_bucket_97
  rw [if_neg c10] at hf
  by_cases c16 : x3 = 1
  · rw [if_pos c16] at hf
    refine lv_tableIn (tgt := 98) (off := 36) X.1 X.2.1 dX5_bucket_62 (by rw [c16]; decide) (by rw [c16]; decide) (by rw [c16]; rfl) (by decide) ?_
    refine q_aload X dX5_bucket_98 (lv_at hl 1 rfl) ?_
    have ho := gI_e hf
    clear hf
    obtain ⟨a17, v18, e19, k20, q21, hf⟩ := ho
    cases e19
    refine q_get X M flX5_167.g k20 (congrArg Value.int q21) dX5_bucket_100 ?_
    obtain rfl := Option.some.inj hf
    exact q_iret X M hS (by omega) (by omega) dX5_bucket_103
  rw [if_neg c16] at hf
  by_cases c22 : x3 = 2
  · rw [if_pos c22] at hf
    refine lv_tableIn (tgt := 104) (off := 42) X.1 X.2.1 dX5_bucket_62 (by rw [c22]; decide) (by rw [c22]; decide) (by rw [c22]; rfl) (by decide) ?_
    refine q_aload X dX5_bucket_104 (lv_at hl 1 rfl) ?_
    have ho := gI_e hf
    clear hf
    obtain ⟨a23, v24, e25, k26, q27, hf⟩ := ho
    cases e25
    refine q_get X M flX5_158.g k26 (congrArg Value.int q27) dX5_bucket_106 ?_
    obtain rfl := Option.some.inj hf
    exact q_iret X M hS (by omega) (by omega) dX5_bucket_109
  rw [if_neg c22] at hf
  by_cases c28 : x3 = 3
  · rw [if_pos c28] at hf
    refine lv_tableIn (tgt := 110) (off := 48) X.1 X.2.1 dX5_bucket_62 (by rw [c28]; decide) (by rw [c28]; decide) (by rw [c28]; rfl) (by decide) ?_
    refine q_aload X dX5_bucket_110 (lv_at hl 1 rfl) ?_
    have ho := gI_e hf
    clear hf
    obtain ⟨a29, v30, e31, k32, q33, hf⟩ := ho
    cases e31
    refine q_get X M flX5_202.g k32 (congrArg Value.int q33) dX5_bucket_112 ?_
    obtain rfl := Option.some.inj hf
    exact q_iret X M hS (by omega) (by omega) dX5_bucket_115
  rw [if_neg c28] at hf
  have ht62 : x3.toInt < 0 ∨ 3 < x3.toInt := by
    have g0 : x3.toInt ≠ 0 := by simpa using ne_i c10
    have g1 : x3.toInt ≠ 1 := by simpa using ne_i c16
    have g2 : x3.toInt ≠ 2 := by simpa using ne_i c22
    have g3 : x3.toInt ≠ 3 := by simpa using ne_i c28
    omega
  refine lv_tableOut (tgt := 116) X.1 X.2.1 dX5_bucket_62 ht62 (by decide) ?_
  refine lv_iconst (v := (-1)) X.1 X.2.1 dX5_bucket_116 (by decide) ?_
  obtain rfl := Option.some.inj hf
  exact q_iret X M hS (by omega) (by omega) dX5_bucket_117
def f_X5_bucket_38 (x3 : Int32) (x4 : Option Nat) (w : Wd) : Option (Int32 × Wd) := if x3 < 20 then ((f_X5_bucket_61) x3 x4 w) else (if 26 ≤ x3 then ((f_X5_bucket_61) x3 x4 w) else (gR w x4 1 10 (fun v36 => aI w v36 100 (x3 - 20) (fun v41 => some (v41, w)))))
set_option maxHeartbeats 4000000 in
set_option maxRecDepth 100000 in
theorem b_X5_bucket_38 {l : Launch} {D : va_G} {aC : Nat → ClassId} {b0 : Nat} {p : Program} {e : Env} {s : State} {m : MethodId} {args : Array Value} {below : List Frame} {meth : Method} {c : Code} (X : Cx D aC p s m args meth c cX5_bucket RX5 5 "bucket" (some .int)) {res : (Int32 × Wd)} : ∀ (x3 : Int32) (x4 : Option Nat) (w : Wd), BW l D aC b0 p e rX5_bucket s m args below meth c (Qe D aC b0 below args s 0 0 (some (.int res.1)) res.2) res 0 0 0 0 (f_X5_bucket_38 x3 x4 w) w 38 5 [(3, .int x3), (4, va_rf x4)] [] := by
  intro x3 x4 w H locs cells slots ls hf M hS hc hs hl
  unfold f_X5_bucket_38 at hf
  refine lv_iload_n X.1 X.2.1 dX5_bucket_38 rfl (lv_at hl 0 rfl) ?_
  refine lv_bipush (v := 20) X.1 X.2.1 dX5_bucket_39 (by decide) ?_
  refine lv_icmp_lt (tgt := 61) X.1 X.2.1 dX5_bucket_41 (by decide) (fun c9 => ?_) (fun c9 => ?_)
  · rw [if_pos c9] at hf
    exact (b_X5_bucket_61 X) x3 x4 w _ _ _ _ _ hf M hS (by omega) (by omega) (lv_sub hl [0, 1] rfl)
  · rw [if_neg c9] at hf
    refine lv_iload_n X.1 X.2.1 dX5_bucket_44 rfl (lv_at hl 0 rfl) ?_
    refine lv_bipush (v := 26) X.1 X.2.1 dX5_bucket_45 (by decide) ?_
    refine lv_icmp_ge (tgt := 61) X.1 X.2.1 dX5_bucket_47 (by decide) (fun c34 => ?_) (fun c34 => ?_)
    · rw [if_pos c34] at hf
      exact (b_X5_bucket_61 X) x3 x4 w _ _ _ _ _ hf M hS (by omega) (by omega) (lv_sub hl [0, 1] rfl)
    · rw [if_neg c34] at hf
      refine q_aload X dX5_bucket_50 (lv_at hl 1 rfl) ?_
      have ho := gR_e hf
      clear hf
      obtain ⟨a35, v36, e37, k38, q39, hf⟩ := ho
      cases e37
      refine q_get X M flX5_199 k38 (congrArg va_rf q39) dX5_bucket_52 ?_
      refine lv_iload_n X.1 X.2.1 dX5_bucket_55 rfl (lv_at hl 0 rfl) ?_
      refine lv_bipush (v := 20) X.1 X.2.1 dX5_bucket_56 (by decide) ?_
      refine lv_isub X.1 X.2.1 dX5_bucket_58 ?_
      have ho := aI_e hf
      clear hf
      obtain ⟨a40, v41, e42, k43, i44, q45, hf⟩ := ho
      cases e42
      refine q_iald X M k43 i44 dX5_bucket_59 ?_
      rw [q45]
      obtain rfl := Option.some.inj hf
      exact q_iret X M hS (by omega) (by omega) dX5_bucket_60
def f_X5_bucket (o : Nat) (x1 : Int32) (x2 : Int32) (x3 : Int32) (w : Wd) : Option (Int32 × Wd) := chk w (some o) 6 (fun a4 => bnd (f_X5_bucketAt a4 x1 x2 w) (fun v1 w2 => if v1 = none then (some ((-1), w2)) else (if x3 < 10 then ((f_X5_bucket_38) x3 v1 w2) else (if 16 ≤ x3 then ((f_X5_bucket_38) x3 v1 w2) else (gR w2 v1 1 9 (fun v48 => aI w2 v48 100 (x3 - 10) (fun v53 => some (v53, w2))))))))
set_option maxHeartbeats 4000000 in
set_option maxRecDepth 100000 in
theorem e_X5_bucket {l : Launch} {D : va_G} {aC : Nat → ClassId} {b0 : Nat} {p : Program} {e : Env} {s : State} {m : MethodId} {args : Array Value} {below : List Frame} {meth : Method} {c : Code} (X : Cx D aC p s m args meth c cX5_bucket RX5 5 "bucket" (some .int)) {res : (Int32 × Wd)} (o : Nat) (x1 : Int32) (x2 : Int32) (x3 : Int32) (w : Wd) : BW l D aC b0 p e rX5_bucket s m args below meth c (Qe D aC b0 below args s 0 0 (some (.int res.1)) res.2) res 0 0 0 0 (f_X5_bucket o x1 x2 x3 w) w 0 5 [(0, va_rf (some o)), (1, .int x1), (2, .int x2), (3, .int x3)] [] := by
  intro H locs cells slots ls hf M hS hc hs hl
  unfold f_X5_bucket at hf
  refine q_aload_n X dX5_bucket_0 rfl (lv_at hl 0 rfl) ?_
  refine lv_iload_n X.1 X.2.1 dX5_bucket_1 rfl (lv_at hl 1 rfl) ?_
  refine lv_iload_n X.1 X.2.1 dX5_bucket_2 rfl (lv_at hl 2 rfl) ?_
  have ho := chk_e hf
  clear hf
  obtain ⟨a4, e5, k6, hf⟩ := ho
  cases e5
  have ho := bnd_e hf
  clear hf
  obtain ⟨v1, w2, q3, hf⟩ := ho
  refine q_cV X M hS hl.1 (ci := 5) (r := (RX5, TX5, 9)) (As := [.int x1, .int x2]) (m_X5_bucketAt o x1 x2 _ _ q3) mlX5_194 gm_594 gm_595 rfl (by decide) k6 rfl ⟨(Nat.le_of_ble_eq_true rfl), (Nat.le_of_ble_eq_true rfl)⟩ (rest := []) rfl (Nat.le_of_ble_eq_true rfl) (mc := 0) (ms := 0) (MC := 0) (MS := 0) rfl rfl rfl rfl (by omega) (by omega) dX5_bucket_3 (st2 := [va_rf v1]) rfl (fun H locs M hS => ?_)
  refine q_astore (i := 4) (lv' := [(4, va_rf v1), (0, va_rf (some o)), (1, .int x1), (2, .int x2), (3, .int x3)]) X dX5_bucket_6 hl (by decide) rfl (fun ls hl => ?_)
  refine q_aload X dX5_bucket_8 (lv_at hl 0 rfl) ?_
  refine q_ifnonnull (tgt := 15) X dX5_bucket_10 (by decide) (fun c7 => ?_) (fun c7 => ?_)
  · rw [if_neg c7] at hf
    refine lv_iload_n X.1 X.2.1 dX5_bucket_15 rfl (lv_at hl 4 rfl) ?_
    refine lv_bipush (v := 10) X.1 X.2.1 dX5_bucket_16 (by decide) ?_
    refine lv_icmp_lt (tgt := 38) X.1 X.2.1 dX5_bucket_18 (by decide) (fun c8 => ?_) (fun c8 => ?_)
    · rw [if_pos c8] at hf
      exact (b_X5_bucket_38 X) x3 v1 w2 _ _ _ _ _ hf M hS (by omega) (by omega) (lv_sub hl [4, 0] rfl)
    · rw [if_neg c8] at hf
      refine lv_iload_n X.1 X.2.1 dX5_bucket_21 rfl (lv_at hl 4 rfl) ?_
      refine lv_bipush (v := 16) X.1 X.2.1 dX5_bucket_22 (by decide) ?_
      refine lv_icmp_ge (tgt := 38) X.1 X.2.1 dX5_bucket_24 (by decide) (fun c46 => ?_) (fun c46 => ?_)
      · rw [if_pos c46] at hf
        exact (b_X5_bucket_38 X) x3 v1 w2 _ _ _ _ _ hf M hS (by omega) (by omega) (lv_sub hl [4, 0] rfl)
      · rw [if_neg c46] at hf
        refine q_aload X dX5_bucket_27 (lv_at hl 0 rfl) ?_
        have ho := gR_e hf
        clear hf
        obtain ⟨a47, v48, e49, k50, q51, hf⟩ := ho
        cases e49
        refine q_get X M flX5_197 k50 (congrArg va_rf q51) dX5_bucket_29 ?_
        refine lv_iload_n X.1 X.2.1 dX5_bucket_32 rfl (lv_at hl 4 rfl) ?_
        refine lv_bipush (v := 10) X.1 X.2.1 dX5_bucket_33 (by decide) ?_
        refine lv_isub X.1 X.2.1 dX5_bucket_35 ?_
        have ho := aI_e hf
        clear hf
        obtain ⟨a52, v53, e54, k55, i56, q57, hf⟩ := ho
        cases e54
        refine q_iald X M k55 i56 dX5_bucket_36 ?_
        rw [q57]
        obtain rfl := Option.some.inj hf
        exact q_iret X M hS (by omega) (by omega) dX5_bucket_37
  · rw [if_pos c7] at hf
    refine lv_iconst (v := (-1)) X.1 X.2.1 dX5_bucket_13 (by decide) ?_
    obtain rfl := Option.some.inj hf
    exact q_iret X M hS (by omega) (by omega) dX5_bucket_14
theorem m_X5_bucket {l : Launch} {D : va_G} {aC : Nat → ClassId} {b0 : Nat} {w : Wd} (o : Nat) (x1 : Int32) (x2 : Int32) (x3 : Int32) (v : Int32) (w' : Wd) (hf : f_X5_bucket o x1 x2 x3 w = some (v, w')) : Ct l D aC b0 yX5_bucket (Cond.code yX5_bucket cX5_bucket 5 (some .int) :: Gw) rX5_bucket [va_rf (some o), .int x1, .int x2, .int x3] w (some (.int v)) w' :=
  q_met (by decide) (Nat.le_of_ble_eq_true rfl) (fun p e s m below meth c X M ls hl => e_X5_bucket X (res := (v, w')) o x1 x2 x3 w s.heap [] 0 0 ls hf M va_S.rf (by decide) (by decide) hl)
abbrev rX5_value : Room := { frames := 2, cells := 0, slots := 0, locals := 44 }
def f_X5_value (o : Nat) (x1 : Int32) (x2 : Int32) (w : Wd) : Option (Int64 × Wd) := if x2 < 0 then (some (0, w)) else (if x2 < 32 then (bnd (f_X5_bucketOf x2 w) (fun v3 w4 => chk w4 (some o) 6 (fun a9 => bnd (f_X5_bucketAt a9 x1 v3 w4) (fun v6 w7 => if v6 = none then (some (0, w7)) else (gR w7 v6 1 4 (fun v14 => bnd (f_X5_placeOf x2 w7) (fun v18 w19 => aL w19 v14 101 v18 (fun v22 => some (v22, w19))))))))) else (some (0, w)))
set_option maxHeartbeats 4000000 in
set_option maxRecDepth 100000 in
theorem e_X5_value {l : Launch} {D : va_G} {aC : Nat → ClassId} {b0 : Nat} {p : Program} {e : Env} {s : State} {m : MethodId} {args : Array Value} {below : List Frame} {meth : Method} {c : Code} (X : Cx D aC p s m args meth c cX5_value RX5 4 "value" (some .long)) {res : (Int64 × Wd)} (o : Nat) (x1 : Int32) (x2 : Int32) (w : Wd) : BW l D aC b0 p e rX5_value s m args below meth c (Qe D aC b0 below args s 0 0 (some (.long res.1)) res.2) res 0 0 0 0 (f_X5_value o x1 x2 w) w 0 4 [(0, va_rf (some o)), (1, .int x1), (2, .int x2)] [] := by
  intro H locs cells slots ls hf M hS hc hs hl
  unfold f_X5_value at hf
  refine lv_iload_n X.1 X.2.1 dX5_value_0 rfl (lv_at hl 2 rfl) ?_
  refine lv_if_lt (tgt := 10) X.1 X.2.1 dX5_value_1 (by decide) (fun c1 => ?_) (fun c1 => ?_)
  · rw [if_pos c1] at hf
    refine lv_lconst (v := 0) X.1 X.2.1 dX5_value_10 (by decide) ?_
    obtain rfl := Option.some.inj hf
    exact q_lret X M hS (by omega) (by omega) dX5_value_11
  · rw [if_neg c1] at hf
    refine lv_iload_n X.1 X.2.1 dX5_value_4 rfl (lv_at hl 2 rfl) ?_
    refine lv_bipush (v := 32) X.1 X.2.1 dX5_value_5 (by decide) ?_
    refine lv_icmp_lt (tgt := 12) X.1 X.2.1 dX5_value_7 (by decide) (fun c2 => ?_) (fun c2 => ?_)
    · rw [if_pos c2] at hf
      refine q_aload_n X dX5_value_12 rfl (lv_at hl 0 rfl) ?_
      refine lv_iload_n X.1 X.2.1 dX5_value_13 rfl (lv_at hl 1 rfl) ?_
      refine lv_iload_n X.1 X.2.1 dX5_value_14 rfl (lv_at hl 2 rfl) ?_
      have ho := bnd_e hf
      clear hf
      obtain ⟨v3, w4, q5, hf⟩ := ho
      refine q_cS X M hS hl.1 (As := [.int x2]) (m_X5_bucketOf x2 _ _ q5) mlX5_205 gm_222 rfl ⟨(Nat.le_of_ble_eq_true rfl), (Nat.le_of_ble_eq_true rfl)⟩ (rest := [.int x1, va_rf (some o)]) rfl (Nat.le_of_ble_eq_true rfl) (mc := 0) (ms := 0) (MC := 0) (MS := 0) rfl rfl rfl rfl (by omega) (by omega) dX5_value_15 (st2 := [.int v3, .int x1, va_rf (some o)]) rfl (fun H locs M hS => ?_)
      have ho := chk_e hf
      clear hf
      obtain ⟨a9, e10, k11, hf⟩ := ho
      cases e10
      have ho := bnd_e hf
      clear hf
      obtain ⟨v6, w7, q8, hf⟩ := ho
      refine q_cV X M hS hl.1 (ci := 5) (r := (RX5, TX5, 9)) (As := [.int x1, .int v3]) (m_X5_bucketAt o x1 v3 _ _ q8) mlX5_194 gm_594 gm_595 rfl (by decide) k11 rfl ⟨(Nat.le_of_ble_eq_true rfl), (Nat.le_of_ble_eq_true rfl)⟩ (rest := []) rfl (Nat.le_of_ble_eq_true rfl) (mc := 0) (ms := 0) (MC := 0) (MS := 0) rfl rfl rfl rfl (by omega) (by omega) dX5_value_18 (st2 := [va_rf v6]) rfl (fun H locs M hS => ?_)
      refine q_astore_n (i := 3) (lv' := [(3, va_rf v6), (0, va_rf (some o)), (1, .int x1), (2, .int x2)]) X dX5_value_21 rfl hl (by decide) rfl (fun ls hl => ?_)
      refine q_aload_n X dX5_value_22 rfl (lv_at hl 0 rfl) ?_
      refine q_ifnonnull (tgt := 30) X dX5_value_23 (by decide) (fun c12 => ?_) (fun c12 => ?_)
      · rw [if_neg c12] at hf
        refine q_aload_n X dX5_value_30 rfl (lv_at hl 0 rfl) ?_
        have ho := gR_e hf
        clear hf
        obtain ⟨a13, v14, e15, k16, q17, hf⟩ := ho
        cases e15
        refine q_get X M flX5_209 k16 (congrArg va_rf q17) dX5_value_31 ?_
        refine lv_iload_n X.1 X.2.1 dX5_value_34 rfl (lv_at hl 3 rfl) ?_
        have ho := bnd_e hf
        clear hf
        obtain ⟨v18, w19, q20, hf⟩ := ho
        refine q_cS X M hS hl.1 (As := [.int x2]) (m_X5_placeOf x2 _ _ q20) mlX5_213 gm_398 rfl ⟨(Nat.le_of_ble_eq_true rfl), (Nat.le_of_ble_eq_true rfl)⟩ (rest := [va_rf v14]) rfl (by simp [cat1, cati, catl]) (mc := 0) (ms := 0) (MC := 0) (MS := 0) rfl rfl rfl rfl (by omega) (by omega) dX5_value_35 (st2 := [.int v18, va_rf v14]) rfl (fun H locs M hS => ?_)
        have ho := aL_e hf
        clear hf
        obtain ⟨a21, v22, e23, k24, i25, q26, hf⟩ := ho
        cases e23
        refine q_lald X M k24 i25 dX5_value_38 ?_
        rw [q26]
        obtain rfl := Option.some.inj hf
        exact q_lret X M hS (by omega) (by omega) dX5_value_39
      · rw [if_pos c12] at hf
        refine lv_lconst (v := 0) X.1 X.2.1 dX5_value_26 (by decide) ?_
        refine lv_goto (tgt := 39) X.1 X.2.1 dX5_value_27 (by decide) ?_
        obtain rfl := Option.some.inj hf
        exact q_lret X M hS (by omega) (by omega) dX5_value_39
    · rw [if_neg c2] at hf
      refine lv_lconst (v := 0) X.1 X.2.1 dX5_value_10 (by decide) ?_
      obtain rfl := Option.some.inj hf
      exact q_lret X M hS (by omega) (by omega) dX5_value_11
theorem m_X5_value {l : Launch} {D : va_G} {aC : Nat → ClassId} {b0 : Nat} {w : Wd} (o : Nat) (x1 : Int32) (x2 : Int32) (v : Int64) (w' : Wd) (hf : f_X5_value o x1 x2 w = some (v, w')) : Ct l D aC b0 yX5_value (Cond.code yX5_value cX5_value 4 (some .long) :: Gw) rX5_value [va_rf (some o), .int x1, .int x2] w (some (.long v)) w' :=
  q_met (by decide) (Nat.le_of_ble_eq_true rfl) (fun p e s m below meth c X M ls hl => e_X5_value X (res := (v, w')) o x1 x2 w s.heap [] 0 0 ls hf M va_S.rf (by decide) (by decide) hl)
abbrev rX5_record : Room := { frames := 2, cells := 0, slots := 0, locals := 44 }
def f_X5_record (o : Nat) (x1 : Int32) (x2 : Int32) (x3 : Int32) (x4 : Int32) (w : Wd) : Option (Int32 × Wd) := chk w (some o) 6 (fun a4 => bnd (f_X5_bucketAt a4 x1 x2 w) (fun v1 w2 => if v1 = none then (some ((-1), w2)) else (if x3 < 0 then (some ((-1), w2)) else (gI w2 v1 1 3 (fun v10 => if x3 < v10 then (if x4 = 0 then (gR w2 v1 1 5 (fun v17 => aI w2 v17 100 x3 (fun v22 => some (v22, w2)))) else if x4 = 1 then (gR w2 v1 1 6 (fun v29 => aI w2 v29 100 x3 (fun v34 => some (v34, w2)))) else if x4 = 2 then (gR w2 v1 1 7 (fun v41 => aI w2 v41 100 x3 (fun v46 => some (v46, w2)))) else (some ((-1), w2))) else (some ((-1), w2)))))))
set_option maxHeartbeats 4000000 in
set_option maxRecDepth 100000 in
theorem e_X5_record {l : Launch} {D : va_G} {aC : Nat → ClassId} {b0 : Nat} {p : Program} {e : Env} {s : State} {m : MethodId} {args : Array Value} {below : List Frame} {meth : Method} {c : Code} (X : Cx D aC p s m args meth c cX5_record RX5 6 "record" (some .int)) {res : (Int32 × Wd)} (o : Nat) (x1 : Int32) (x2 : Int32) (x3 : Int32) (x4 : Int32) (w : Wd) : BW l D aC b0 p e rX5_record s m args below meth c (Qe D aC b0 below args s 0 0 (some (.int res.1)) res.2) res 0 0 0 0 (f_X5_record o x1 x2 x3 x4 w) w 0 6 [(0, va_rf (some o)), (1, .int x1), (2, .int x2), (3, .int x3), (4, .int x4)] [] := by
  intro H locs cells slots ls hf M hS hc hs hl
  unfold f_X5_record at hf
  refine q_aload_n X dX5_record_0 rfl (lv_at hl 0 rfl) ?_
  refine lv_iload_n X.1 X.2.1 dX5_record_1 rfl (lv_at hl 1 rfl) ?_
  refine lv_iload_n X.1 X.2.1 dX5_record_2 rfl (lv_at hl 2 rfl) ?_
  have ho := chk_e hf
  clear hf
  obtain ⟨a4, e5, k6, hf⟩ := ho
  cases e5
  have ho := bnd_e hf
  clear hf
  obtain ⟨v1, w2, q3, hf⟩ := ho
  refine q_cV X M hS hl.1 (ci := 5) (r := (RX5, TX5, 9)) (As := [.int x1, .int x2]) (m_X5_bucketAt o x1 x2 _ _ q3) mlX5_194 gm_594 gm_595 rfl (by decide) k6 rfl ⟨(Nat.le_of_ble_eq_true rfl), (Nat.le_of_ble_eq_true rfl)⟩ (rest := []) rfl (Nat.le_of_ble_eq_true rfl) (mc := 0) (ms := 0) (MC := 0) (MS := 0) rfl rfl rfl rfl (by omega) (by omega) dX5_record_3 (st2 := [va_rf v1]) rfl (fun H locs M hS => ?_)
  refine q_astore (i := 5) (lv' := [(5, va_rf v1), (0, va_rf (some o)), (1, .int x1), (2, .int x2), (3, .int x3), (4, .int x4)]) X dX5_record_6 hl (by decide) rfl (fun ls hl => ?_)
  refine q_aload X dX5_record_8 (lv_at hl 0 rfl) ?_
  refine q_ifnull (tgt := 26) X dX5_record_10 (by decide) (fun c7 => ?_) (fun c7 => ?_)
  · rw [if_pos c7] at hf
    refine lv_iconst (v := (-1)) X.1 X.2.1 dX5_record_26 (by decide) ?_
    obtain rfl := Option.some.inj hf
    exact q_iret X M hS (by omega) (by omega) dX5_record_27
  · rw [if_neg c7] at hf
    refine lv_iload_n X.1 X.2.1 dX5_record_13 rfl (lv_at hl 4 rfl) ?_
    refine lv_if_lt (tgt := 26) X.1 X.2.1 dX5_record_14 (by decide) (fun c8 => ?_) (fun c8 => ?_)
    · rw [if_pos c8] at hf
      refine lv_iconst (v := (-1)) X.1 X.2.1 dX5_record_26 (by decide) ?_
      obtain rfl := Option.some.inj hf
      exact q_iret X M hS (by omega) (by omega) dX5_record_27
    · rw [if_neg c8] at hf
      refine lv_iload_n X.1 X.2.1 dX5_record_17 rfl (lv_at hl 4 rfl) ?_
      refine q_aload X dX5_record_18 (lv_at hl 0 rfl) ?_
      have ho := gI_e hf
      clear hf
      obtain ⟨a9, v10, e11, k12, q13, hf⟩ := ho
      cases e11
      refine q_get X M flX5_202.g k12 (congrArg Value.int q13) dX5_record_20 ?_
      refine lv_icmp_lt (tgt := 28) X.1 X.2.1 dX5_record_23 (by decide) (fun c14 => ?_) (fun c14 => ?_)
      · rw [if_pos c14] at hf
        refine lv_iload X.1 X.2.1 dX5_record_28 (lv_at hl 5 rfl) ?_
        by_cases c15 : x4 = 0
        · rw [if_pos c15] at hf
          refine lv_tableIn (tgt := 56) (off := 26) X.1 X.2.1 dX5_record_30 (by rw [c15]; decide) (by rw [c15]; decide) (by rw [c15]; rfl) (by decide) ?_
          refine q_aload X dX5_record_56 (lv_at hl 0 rfl) ?_
          have ho := gR_e hf
          clear hf
          obtain ⟨a16, v17, e18, k19, q20, hf⟩ := ho
          cases e18
          refine q_get X M flX5_216 k19 (congrArg va_rf q20) dX5_record_58 ?_
          refine lv_iload_n X.1 X.2.1 dX5_record_61 rfl (lv_at hl 4 rfl) ?_
          have ho := aI_e hf
          clear hf
          obtain ⟨a21, v22, e23, k24, i25, q26, hf⟩ := ho
          cases e23
          refine q_iald X M k24 i25 dX5_record_62 ?_
          rw [q26]
          obtain rfl := Option.some.inj hf
          exact q_iret X M hS (by omega) (by omega) dX5_record_63
        rw [if_neg c15] at hf
        by_cases c27 : x4 = 1
        · rw [if_pos c27] at hf
          refine lv_tableIn (tgt := 64) (off := 34) X.1 X.2.1 dX5_record_30 (by rw [c27]; decide) (by rw [c27]; decide) (by rw [c27]; rfl) (by decide) ?_
          refine q_aload X dX5_record_64 (lv_at hl 0 rfl) ?_
          have ho := gR_e hf
          clear hf
          obtain ⟨a28, v29, e30, k31, q32, hf⟩ := ho
          cases e30
          refine q_get X M flX5_219 k31 (congrArg va_rf q32) dX5_record_66 ?_
          refine lv_iload_n X.1 X.2.1 dX5_record_69 rfl (lv_at hl 4 rfl) ?_
          have ho := aI_e hf
          clear hf
          obtain ⟨a33, v34, e35, k36, i37, q38, hf⟩ := ho
          cases e35
          refine q_iald X M k36 i37 dX5_record_70 ?_
          rw [q38]
          obtain rfl := Option.some.inj hf
          exact q_iret X M hS (by omega) (by omega) dX5_record_71
        rw [if_neg c27] at hf
        by_cases c39 : x4 = 2
        · rw [if_pos c39] at hf
          refine lv_tableIn (tgt := 72) (off := 42) X.1 X.2.1 dX5_record_30 (by rw [c39]; decide) (by rw [c39]; decide) (by rw [c39]; rfl) (by decide) ?_
          refine q_aload X dX5_record_72 (lv_at hl 0 rfl) ?_
          have ho := gR_e hf
          clear hf
          obtain ⟨a40, v41, e42, k43, q44, hf⟩ := ho
          cases e42
          refine q_get X M flX5_222 k43 (congrArg va_rf q44) dX5_record_74 ?_
          refine lv_iload_n X.1 X.2.1 dX5_record_77 rfl (lv_at hl 4 rfl) ?_
          have ho := aI_e hf
          clear hf
          obtain ⟨a45, v46, e47, k48, i49, q50, hf⟩ := ho
          cases e47
          refine q_iald X M k48 i49 dX5_record_78 ?_
          rw [q50]
          obtain rfl := Option.some.inj hf
          exact q_iret X M hS (by omega) (by omega) dX5_record_79
        rw [if_neg c39] at hf
        have ht30 : x4.toInt < 0 ∨ 2 < x4.toInt := by
          have g0 : x4.toInt ≠ 0 := by simpa using ne_i c15
          have g1 : x4.toInt ≠ 1 := by simpa using ne_i c27
          have g2 : x4.toInt ≠ 2 := by simpa using ne_i c39
          omega
        refine lv_tableOut (tgt := 80) X.1 X.2.1 dX5_record_30 ht30 (by decide) ?_
        refine lv_iconst (v := (-1)) X.1 X.2.1 dX5_record_80 (by decide) ?_
        obtain rfl := Option.some.inj hf
        exact q_iret X M hS (by omega) (by omega) dX5_record_81
      · rw [if_neg c14] at hf
        refine lv_iconst (v := (-1)) X.1 X.2.1 dX5_record_26 (by decide) ?_
        obtain rfl := Option.some.inj hf
        exact q_iret X M hS (by omega) (by omega) dX5_record_27
theorem m_X5_record {l : Launch} {D : va_G} {aC : Nat → ClassId} {b0 : Nat} {w : Wd} (o : Nat) (x1 : Int32) (x2 : Int32) (x3 : Int32) (x4 : Int32) (v : Int32) (w' : Wd) (hf : f_X5_record o x1 x2 x3 x4 w = some (v, w')) : Ct l D aC b0 yX5_record (Cond.code yX5_record cX5_record 6 (some .int) :: Gw) rX5_record [va_rf (some o), .int x1, .int x2, .int x3, .int x4] w (some (.int v)) w' :=
  q_met (by decide) (Nat.le_of_ble_eq_true rfl) (fun p e s m below meth c X M ls hl => e_X5_record X (res := (v, w')) o x1 x2 x3 x4 w s.heap [] 0 0 ls hf M va_S.rf (by decide) (by decide) hl)
abbrev rX5_client : Room := { frames := 2, cells := 0, slots := 0, locals := 44 }
def f_X5_client_34 (o : Nat) (x1 : Int32) (x2 : Int32) (x3 : Option Nat) (w : Wd) : Option (Int32 × Wd) := if x2 = 0 then (gI w x3 2 1 (fun v11 => some (v11, w))) else if x2 = 1 then (gI w x3 2 2 (fun v17 => some (v17, w))) else if x2 = 2 then (gI w x3 2 1 (fun v23 => chk w (some o) 6 (fun a30 => bnd (f_X5_isLive a30 x1 v23 w) (fun v27 w28 => bnd (f_X5_oneIf v27 w28) (fun v33 w34 => some (v33, w34)))))) else if x2 = 3 then (gI w x3 2 3 (fun v38 => some (v38, w))) else if x2 = 4 then (chk w x3 2 (fun a46 => bnd (f_X1_first a46 w) (fun v43 w44 => some (v43, w44)))) else if x2 = 5 then (chk w x3 2 (fun a53 => bnd (f_X1_waiting a53 w) (fun v50 w51 => some (v50, w51)))) else (some ((-1), w))
set_option maxHeartbeats 4000000 in
set_option maxRecDepth 100000 in
theorem b_X5_client_34 {l : Launch} {D : va_G} {aC : Nat → ClassId} {b0 : Nat} {p : Program} {e : Env} {s : State} {m : MethodId} {args : Array Value} {below : List Frame} {meth : Method} {c : Code} (X : Cx D aC p s m args meth c cX5_client RX5 4 "client" (some .int)) {res : (Int32 × Wd)} : ∀ (o : Nat) (x1 : Int32) (x2 : Int32) (x3 : Option Nat) (w : Wd), BW l D aC b0 p e rX5_client s m args below meth c (Qe D aC b0 below args s 0 0 (some (.int res.1)) res.2) res 0 0 0 0 (f_X5_client_34 o x1 x2 x3 w) w 34 4 [(0, va_rf (some o)), (1, .int x1), (2, .int x2), (3, va_rf x3)] [] := by
  intro o x1 x2 x3 w H locs cells slots ls hf M hS hc hs hl
  unfold f_X5_client_34 at hf
  refine lv_iload_n X.1 X.2.1 dX5_client_34 rfl (lv_at hl 2 rfl) ?_
  by_cases c9 : x2 = 0
  · rw [if_pos c9] at hf
    refine lv_tableIn (tgt := 72) (off := 37) X.1 X.2.1 dX5_client_35 (by rw [c9]; decide) (by rw [c9]; decide) (by rw [c9]; rfl) (by decide) ?_
    refine q_aload_n X dX5_client_72 rfl (lv_at hl 3 rfl) ?_
    have ho := gI_e hf
    clear hf
    obtain ⟨a10, v11, e12, k13, q14, hf⟩ := ho
    cases e12
    refine q_get X M flX5_45.g k13 (congrArg Value.int q14) dX5_client_73 ?_
    obtain rfl := Option.some.inj hf
    exact q_iret X M hS (by omega) (by omega) dX5_client_76
  rw [if_neg c9] at hf
  by_cases c15 : x2 = 1
  · rw [if_pos c15] at hf
    refine lv_tableIn (tgt := 77) (off := 42) X.1 X.2.1 dX5_client_35 (by rw [c15]; decide) (by rw [c15]; decide) (by rw [c15]; rfl) (by decide) ?_
    refine q_aload_n X dX5_client_77 rfl (lv_at hl 3 rfl) ?_
    have ho := gI_e hf
    clear hf
    obtain ⟨a16, v17, e18, k19, q20, hf⟩ := ho
    cases e18
    refine q_get X M flX5_54.g k19 (congrArg Value.int q20) dX5_client_78 ?_
    obtain rfl := Option.some.inj hf
    exact q_iret X M hS (by omega) (by omega) dX5_client_81
  rw [if_neg c15] at hf
  by_cases c21 : x2 = 2
  · rw [if_pos c21] at hf
    refine lv_tableIn (tgt := 82) (off := 47) X.1 X.2.1 dX5_client_35 (by rw [c21]; decide) (by rw [c21]; decide) (by rw [c21]; rfl) (by decide) ?_
    refine q_aload_n X dX5_client_82 rfl (lv_at hl 0 rfl) ?_
    refine lv_iload_n X.1 X.2.1 dX5_client_83 rfl (lv_at hl 1 rfl) ?_
    refine q_aload_n X dX5_client_84 rfl (lv_at hl 3 rfl) ?_
    have ho := gI_e hf
    clear hf
    obtain ⟨a22, v23, e24, k25, q26, hf⟩ := ho
    cases e24
    refine q_get X M flX5_45.g k25 (congrArg Value.int q26) dX5_client_85 ?_
    have ho := chk_e hf
    clear hf
    obtain ⟨a30, e31, k32, hf⟩ := ho
    cases e31
    have ho := bnd_e hf
    clear hf
    obtain ⟨v27, w28, q29, hf⟩ := ho
    refine q_cV X M hS hl.1 (ci := 5) (r := (RX5, TX5, 9)) (As := [.int x1, .int v23]) (m_X5_isLive o x1 v23 _ _ q29) mlX5_57 gm_178 gm_179 rfl (by decide) k32 rfl ⟨(Nat.le_of_ble_eq_true rfl), (Nat.le_of_ble_eq_true rfl)⟩ (rest := []) rfl (Nat.le_of_ble_eq_true rfl) (mc := 0) (ms := 0) (MC := 0) (MS := 0) rfl rfl rfl rfl (by omega) (by omega) dX5_client_88 (st2 := [.int v27]) rfl (fun H locs M hS => ?_)
    have ho := bnd_e hf
    clear hf
    obtain ⟨v33, w34, q35, hf⟩ := ho
    refine q_cS X M hS hl.1 (As := [.int v27]) (m_X5_oneIf v27 _ _ q35) mlX5_187 gm_576 rfl ⟨(Nat.le_of_ble_eq_true rfl), (Nat.le_of_ble_eq_true rfl)⟩ (rest := []) rfl (Nat.le_of_ble_eq_true rfl) (mc := 0) (ms := 0) (MC := 0) (MS := 0) rfl rfl rfl rfl (by omega) (by omega) dX5_client_91 (st2 := [.int v33]) rfl (fun H locs M hS => ?_)
    obtain rfl := Option.some.inj hf
    exact q_iret X M hS (by omega) (by omega) dX5_client_94
  rw [if_neg c21] at hf
  by_cases c36 : x2 = 3
  · rw [if_pos c36] at hf
    refine lv_tableIn (tgt := 95) (off := 60) X.1 X.2.1 dX5_client_35 (by rw [c36]; decide) (by rw [c36]; decide) (by rw [c36]; rfl) (by decide) ?_
    refine q_aload_n X dX5_client_95 rfl (lv_at hl 3 rfl) ?_
    have ho := gI_e hf
    clear hf
    obtain ⟨a37, v38, e39, k40, q41, hf⟩ := ho
    cases e39
    refine q_get X M flX5_48.g k40 (congrArg Value.int q41) dX5_client_96 ?_
    obtain rfl := Option.some.inj hf
    exact q_iret X M hS (by omega) (by omega) dX5_client_99
  rw [if_neg c36] at hf
  by_cases c42 : x2 = 4
  · rw [if_pos c42] at hf
    refine lv_tableIn (tgt := 100) (off := 65) X.1 X.2.1 dX5_client_35 (by rw [c42]; decide) (by rw [c42]; decide) (by rw [c42]; rfl) (by decide) ?_
    refine q_aload_n X dX5_client_100 rfl (lv_at hl 3 rfl) ?_
    have ho := chk_e hf
    clear hf
    obtain ⟨a46, e47, k48, hf⟩ := ho
    cases e47
    have ho := bnd_e hf
    clear hf
    obtain ⟨v43, w44, q45, hf⟩ := ho
    refine q_cV X M hS hl.1 (ci := 1) (r := (RX1, TX1, 11)) (As := []) (m_X1_first a46 _ _ q45) mlX5_95 gm_232 gm_233 rfl (by decide) k48 rfl ⟨(Nat.le_of_ble_eq_true rfl), (Nat.le_of_ble_eq_true rfl)⟩ (rest := []) rfl (Nat.le_of_ble_eq_true rfl) (mc := 0) (ms := 0) (MC := 0) (MS := 0) rfl rfl rfl rfl (by omega) (by omega) dX5_client_101 (st2 := [.int v43]) rfl (fun H locs M hS => ?_)
    obtain rfl := Option.some.inj hf
    exact q_iret X M hS (by omega) (by omega) dX5_client_104
  rw [if_neg c42] at hf
  by_cases c49 : x2 = 5
  · rw [if_pos c49] at hf
    refine lv_tableIn (tgt := 105) (off := 70) X.1 X.2.1 dX5_client_35 (by rw [c49]; decide) (by rw [c49]; decide) (by rw [c49]; rfl) (by decide) ?_
    refine q_aload_n X dX5_client_105 rfl (lv_at hl 3 rfl) ?_
    have ho := chk_e hf
    clear hf
    obtain ⟨a53, e54, k55, hf⟩ := ho
    cases e54
    have ho := bnd_e hf
    clear hf
    obtain ⟨v50, w51, q52, hf⟩ := ho
    refine q_cV X M hS hl.1 (ci := 1) (r := (RX1, TX1, 11)) (As := []) (m_X1_waiting a53 _ _ q52) mlX5_61 gm_194 gm_195 rfl (by decide) k55 rfl ⟨(Nat.le_of_ble_eq_true rfl), (Nat.le_of_ble_eq_true rfl)⟩ (rest := []) rfl (Nat.le_of_ble_eq_true rfl) (mc := 0) (ms := 0) (MC := 0) (MS := 0) rfl rfl rfl rfl (by omega) (by omega) dX5_client_106 (st2 := [.int v50]) rfl (fun H locs M hS => ?_)
    obtain rfl := Option.some.inj hf
    exact q_iret X M hS (by omega) (by omega) dX5_client_109
  rw [if_neg c49] at hf
  have ht35 : x2.toInt < 0 ∨ 5 < x2.toInt := by
    have g0 : x2.toInt ≠ 0 := by simpa using ne_i c9
    have g1 : x2.toInt ≠ 1 := by simpa using ne_i c15
    have g2 : x2.toInt ≠ 2 := by simpa using ne_i c21
    have g3 : x2.toInt ≠ 3 := by simpa using ne_i c36
    have g4 : x2.toInt ≠ 4 := by simpa using ne_i c42
    have g5 : x2.toInt ≠ 5 := by simpa using ne_i c49
    omega
  refine lv_tableOut (tgt := 110) X.1 X.2.1 dX5_client_35 ht35 (by decide) ?_
  refine lv_iconst (v := (-1)) X.1 X.2.1 dX5_client_110 (by decide) ?_
  obtain rfl := Option.some.inj hf
  exact q_iret X M hS (by omega) (by omega) dX5_client_111
def f_X5_client (o : Nat) (x1 : Int32) (x2 : Int32) (w : Wd) : Option (Int32 × Wd) := chk w (some o) 6 (fun a4 => bnd (f_X5_clientAt a4 x1 w) (fun v1 w2 => if v1 = none then (some ((-1), w2)) else (if x2 < 10 then ((f_X5_client_34) o x1 x2 v1 w2) else (if 18 ≤ x2 then ((f_X5_client_34) o x1 x2 v1 w2) else (gR w2 v1 2 4 (fun v58 => aI w2 v58 100 (x2 - 10) (fun v63 => some (v63, w2))))))))
set_option maxHeartbeats 4000000 in
set_option maxRecDepth 100000 in
theorem e_X5_client {l : Launch} {D : va_G} {aC : Nat → ClassId} {b0 : Nat} {p : Program} {e : Env} {s : State} {m : MethodId} {args : Array Value} {below : List Frame} {meth : Method} {c : Code} (X : Cx D aC p s m args meth c cX5_client RX5 4 "client" (some .int)) {res : (Int32 × Wd)} (o : Nat) (x1 : Int32) (x2 : Int32) (w : Wd) : BW l D aC b0 p e rX5_client s m args below meth c (Qe D aC b0 below args s 0 0 (some (.int res.1)) res.2) res 0 0 0 0 (f_X5_client o x1 x2 w) w 0 4 [(0, va_rf (some o)), (1, .int x1), (2, .int x2)] [] := by
  intro H locs cells slots ls hf M hS hc hs hl
  unfold f_X5_client at hf
  refine q_aload_n X dX5_client_0 rfl (lv_at hl 0 rfl) ?_
  refine lv_iload_n X.1 X.2.1 dX5_client_1 rfl (lv_at hl 1 rfl) ?_
  have ho := chk_e hf
  clear hf
  obtain ⟨a4, e5, k6, hf⟩ := ho
  cases e5
  have ho := bnd_e hf
  clear hf
  obtain ⟨v1, w2, q3, hf⟩ := ho
  refine q_cV X M hS hl.1 (ci := 5) (r := (RX5, TX5, 9)) (As := [.int x1]) (m_X5_clientAt o x1 _ _ q3) mlX5_38 gm_158 gm_159 rfl (by decide) k6 rfl ⟨(Nat.le_of_ble_eq_true rfl), (Nat.le_of_ble_eq_true rfl)⟩ (rest := []) rfl (Nat.le_of_ble_eq_true rfl) (mc := 0) (ms := 0) (MC := 0) (MS := 0) rfl rfl rfl rfl (by omega) (by omega) dX5_client_2 (st2 := [va_rf v1]) rfl (fun H locs M hS => ?_)
  refine q_astore_n (i := 3) (lv' := [(3, va_rf v1), (0, va_rf (some o)), (1, .int x1), (2, .int x2)]) X dX5_client_5 rfl hl (by decide) rfl (fun ls hl => ?_)
  refine q_aload_n X dX5_client_6 rfl (lv_at hl 0 rfl) ?_
  refine q_ifnonnull (tgt := 12) X dX5_client_7 (by decide) (fun c7 => ?_) (fun c7 => ?_)
  · rw [if_neg c7] at hf
    refine lv_iload_n X.1 X.2.1 dX5_client_12 rfl (lv_at hl 3 rfl) ?_
    refine lv_bipush (v := 10) X.1 X.2.1 dX5_client_13 (by decide) ?_
    refine lv_icmp_lt (tgt := 34) X.1 X.2.1 dX5_client_15 (by decide) (fun c8 => ?_) (fun c8 => ?_)
    · rw [if_pos c8] at hf
      exact (b_X5_client_34 X) o x1 x2 v1 w2 _ _ _ _ _ hf M hS (by omega) (by omega) (lv_sub hl [1, 2, 3, 0] rfl)
    · rw [if_neg c8] at hf
      refine lv_iload_n X.1 X.2.1 dX5_client_18 rfl (lv_at hl 3 rfl) ?_
      refine lv_bipush (v := 18) X.1 X.2.1 dX5_client_19 (by decide) ?_
      refine lv_icmp_ge (tgt := 34) X.1 X.2.1 dX5_client_21 (by decide) (fun c56 => ?_) (fun c56 => ?_)
      · rw [if_pos c56] at hf
        exact (b_X5_client_34 X) o x1 x2 v1 w2 _ _ _ _ _ hf M hS (by omega) (by omega) (lv_sub hl [1, 2, 3, 0] rfl)
      · rw [if_neg c56] at hf
        refine q_aload_n X dX5_client_24 rfl (lv_at hl 0 rfl) ?_
        have ho := gR_e hf
        clear hf
        obtain ⟨a57, v58, e59, k60, q61, hf⟩ := ho
        cases e59
        refine q_get X M flX5_225 k60 (congrArg va_rf q61) dX5_client_25 ?_
        refine lv_iload_n X.1 X.2.1 dX5_client_28 rfl (lv_at hl 3 rfl) ?_
        refine lv_bipush (v := 10) X.1 X.2.1 dX5_client_29 (by decide) ?_
        refine lv_isub X.1 X.2.1 dX5_client_31 ?_
        have ho := aI_e hf
        clear hf
        obtain ⟨a62, v63, e64, k65, i66, q67, hf⟩ := ho
        cases e64
        refine q_iald X M k65 i66 dX5_client_32 ?_
        rw [q67]
        obtain rfl := Option.some.inj hf
        exact q_iret X M hS (by omega) (by omega) dX5_client_33
  · rw [if_pos c7] at hf
    refine lv_iconst (v := (-1)) X.1 X.2.1 dX5_client_10 (by decide) ?_
    obtain rfl := Option.some.inj hf
    exact q_iret X M hS (by omega) (by omega) dX5_client_11
theorem m_X5_client {l : Launch} {D : va_G} {aC : Nat → ClassId} {b0 : Nat} {w : Wd} (o : Nat) (x1 : Int32) (x2 : Int32) (v : Int32) (w' : Wd) (hf : f_X5_client o x1 x2 w = some (v, w')) : Ct l D aC b0 yX5_client (Cond.code yX5_client cX5_client 4 (some .int) :: Gw) rX5_client [va_rf (some o), .int x1, .int x2] w (some (.int v)) w' :=
  q_met (by decide) (Nat.le_of_ble_eq_true rfl) (fun p e s m below meth c X M ls hl => e_X5_client X (res := (v, w')) o x1 x2 w s.heap [] 0 0 ls hf M va_S.rf (by decide) (by decide) hl)
abbrev rX5_state : Room := { frames := 1, cells := 0, slots := 0, locals := 21 }
def f_X5_state (o : Nat) (x1 : Int32) (x2 : Int32) (w : Wd) : Option (Int32 × Wd) := chk w (some o) 6 (fun a4 => bnd (f_X5_clientAt a4 x1 w) (fun v1 w2 => if v1 = none then (some ((-1), w2)) else (chk w2 v1 2 (fun a11 => bnd (f_X1_hasCall a11 x2 w2) (fun v8 w9 => if v8 = 0 then (some ((-1), w9)) else (gR w9 v1 2 9 (fun v16 => aI w9 v16 100 x2 (fun v21 => some (v21, w9)))))))))
set_option maxHeartbeats 4000000 in
set_option maxRecDepth 100000 in
theorem e_X5_state {l : Launch} {D : va_G} {aC : Nat → ClassId} {b0 : Nat} {p : Program} {e : Env} {s : State} {m : MethodId} {args : Array Value} {below : List Frame} {meth : Method} {c : Code} (X : Cx D aC p s m args meth c cX5_state RX5 4 "state" (some .int)) {res : (Int32 × Wd)} (o : Nat) (x1 : Int32) (x2 : Int32) (w : Wd) : BW l D aC b0 p e rX5_state s m args below meth c (Qe D aC b0 below args s 0 0 (some (.int res.1)) res.2) res 0 0 0 0 (f_X5_state o x1 x2 w) w 0 4 [(0, va_rf (some o)), (1, .int x1), (2, .int x2)] [] := by
  intro H locs cells slots ls hf M hS hc hs hl
  unfold f_X5_state at hf
  refine q_aload_n X dX5_state_0 rfl (lv_at hl 0 rfl) ?_
  refine lv_iload_n X.1 X.2.1 dX5_state_1 rfl (lv_at hl 1 rfl) ?_
  have ho := chk_e hf
  clear hf
  obtain ⟨a4, e5, k6, hf⟩ := ho
  cases e5
  have ho := bnd_e hf
  clear hf
  obtain ⟨v1, w2, q3, hf⟩ := ho
  refine q_cV X M hS hl.1 (ci := 5) (r := (RX5, TX5, 9)) (As := [.int x1]) (m_X5_clientAt o x1 _ _ q3) mlX5_38 gm_158 gm_159 rfl (by decide) k6 rfl ⟨(Nat.le_of_ble_eq_true rfl), (Nat.le_of_ble_eq_true rfl)⟩ (rest := []) rfl (Nat.le_of_ble_eq_true rfl) (mc := 0) (ms := 0) (MC := 0) (MS := 0) rfl rfl rfl rfl (by omega) (by omega) dX5_state_2 (st2 := [va_rf v1]) rfl (fun H locs M hS => ?_)
  refine q_astore_n (i := 3) (lv' := [(3, va_rf v1), (0, va_rf (some o)), (1, .int x1), (2, .int x2)]) X dX5_state_5 rfl hl (by decide) rfl (fun ls hl => ?_)
  refine q_aload_n X dX5_state_6 rfl (lv_at hl 0 rfl) ?_
  refine q_ifnull (tgt := 18) X dX5_state_7 (by decide) (fun c7 => ?_) (fun c7 => ?_)
  · rw [if_pos c7] at hf
    refine lv_iconst (v := (-1)) X.1 X.2.1 dX5_state_18 (by decide) ?_
    obtain rfl := Option.some.inj hf
    exact q_iret X M hS (by omega) (by omega) dX5_state_19
  · rw [if_neg c7] at hf
    refine q_aload_n X dX5_state_10 rfl (lv_at hl 0 rfl) ?_
    refine lv_iload_n X.1 X.2.1 dX5_state_11 rfl (lv_at hl 3 rfl) ?_
    have ho := chk_e hf
    clear hf
    obtain ⟨a11, e12, k13, hf⟩ := ho
    cases e12
    have ho := bnd_e hf
    clear hf
    obtain ⟨v8, w9, q10, hf⟩ := ho
    refine q_cV X M hS hl.1 (ci := 1) (r := (RX1, TX1, 11)) (As := [.int x2]) (m_X1_hasCall a11 x2 _ _ q10) mlX5_77 gm_278 gm_279 rfl (by decide) k13 rfl ⟨(Nat.le_of_ble_eq_true rfl), (Nat.le_of_ble_eq_true rfl)⟩ (rest := []) rfl (Nat.le_of_ble_eq_true rfl) (mc := 0) (ms := 0) (MC := 0) (MS := 0) rfl rfl rfl rfl (by omega) (by omega) dX5_state_12 (st2 := [.int v8]) rfl (fun H locs M hS => ?_)
    refine lv_if_ne (tgt := 20) X.1 X.2.1 dX5_state_15 (by decide) (fun c14 => ?_) (fun c14 => ?_)
    · rw [if_neg c14] at hf
      refine q_aload_n X dX5_state_20 rfl (lv_at hl 0 rfl) ?_
      have ho := gR_e hf
      clear hf
      obtain ⟨a15, v16, e17, k18, q19, hf⟩ := ho
      cases e17
      refine q_get X M flX5_81 k18 (congrArg va_rf q19) dX5_state_21 ?_
      refine lv_iload_n X.1 X.2.1 dX5_state_24 rfl (lv_at hl 3 rfl) ?_
      have ho := aI_e hf
      clear hf
      obtain ⟨a20, v21, e22, k23, i24, q25, hf⟩ := ho
      cases e22
      refine q_iald X M k23 i24 dX5_state_25 ?_
      rw [q25]
      obtain rfl := Option.some.inj hf
      exact q_iret X M hS (by omega) (by omega) dX5_state_26
    · rw [if_pos c14] at hf
      refine lv_iconst (v := (-1)) X.1 X.2.1 dX5_state_18 (by decide) ?_
      obtain rfl := Option.some.inj hf
      exact q_iret X M hS (by omega) (by omega) dX5_state_19
theorem m_X5_state {l : Launch} {D : va_G} {aC : Nat → ClassId} {b0 : Nat} {w : Wd} (o : Nat) (x1 : Int32) (x2 : Int32) (v : Int32) (w' : Wd) (hf : f_X5_state o x1 x2 w = some (v, w')) : Ct l D aC b0 yX5_state (Cond.code yX5_state cX5_state 4 (some .int) :: Gw) rX5_state [va_rf (some o), .int x1, .int x2] w (some (.int v)) w' :=
  q_met (by decide) (Nat.le_of_ble_eq_true rfl) (fun p e s m below meth c X M ls hl => e_X5_state X (res := (v, w')) o x1 x2 w s.heap [] 0 0 ls hf M va_S.rf (by decide) (by decide) hl)
abbrev rX5_result : Room := { frames := 1, cells := 0, slots := 0, locals := 21 }
def f_X5_result (o : Nat) (x1 : Int32) (x2 : Int32) (w : Wd) : Option (Int64 × Wd) := chk w (some o) 6 (fun a4 => bnd (f_X5_clientAt a4 x1 w) (fun v1 w2 => if v1 = none then (some (0, w2)) else (chk w2 v1 2 (fun a11 => bnd (f_X1_hasCall a11 x2 w2) (fun v8 w9 => if v8 = 0 then (some (0, w9)) else (gR w9 v1 2 9 (fun v16 => aI w9 v16 100 x2 (fun v21 => if v21 = 1 then (gR w9 v1 2 10 (fun v28 => aL w9 v28 101 x2 (fun v33 => some (v33, w9)))) else (some (0, w9))))))))))
set_option maxHeartbeats 4000000 in
set_option maxRecDepth 100000 in
theorem e_X5_result {l : Launch} {D : va_G} {aC : Nat → ClassId} {b0 : Nat} {p : Program} {e : Env} {s : State} {m : MethodId} {args : Array Value} {below : List Frame} {meth : Method} {c : Code} (X : Cx D aC p s m args meth c cX5_result RX5 4 "result" (some .long)) {res : (Int64 × Wd)} (o : Nat) (x1 : Int32) (x2 : Int32) (w : Wd) : BW l D aC b0 p e rX5_result s m args below meth c (Qe D aC b0 below args s 0 0 (some (.long res.1)) res.2) res 0 0 0 0 (f_X5_result o x1 x2 w) w 0 4 [(0, va_rf (some o)), (1, .int x1), (2, .int x2)] [] := by
  intro H locs cells slots ls hf M hS hc hs hl
  unfold f_X5_result at hf
  refine q_aload_n X dX5_result_0 rfl (lv_at hl 0 rfl) ?_
  refine lv_iload_n X.1 X.2.1 dX5_result_1 rfl (lv_at hl 1 rfl) ?_
  have ho := chk_e hf
  clear hf
  obtain ⟨a4, e5, k6, hf⟩ := ho
  cases e5
  have ho := bnd_e hf
  clear hf
  obtain ⟨v1, w2, q3, hf⟩ := ho
  refine q_cV X M hS hl.1 (ci := 5) (r := (RX5, TX5, 9)) (As := [.int x1]) (m_X5_clientAt o x1 _ _ q3) mlX5_38 gm_158 gm_159 rfl (by decide) k6 rfl ⟨(Nat.le_of_ble_eq_true rfl), (Nat.le_of_ble_eq_true rfl)⟩ (rest := []) rfl (Nat.le_of_ble_eq_true rfl) (mc := 0) (ms := 0) (MC := 0) (MS := 0) rfl rfl rfl rfl (by omega) (by omega) dX5_result_2 (st2 := [va_rf v1]) rfl (fun H locs M hS => ?_)
  refine q_astore_n (i := 3) (lv' := [(3, va_rf v1), (0, va_rf (some o)), (1, .int x1), (2, .int x2)]) X dX5_result_5 rfl hl (by decide) rfl (fun ls hl => ?_)
  refine q_aload_n X dX5_result_6 rfl (lv_at hl 0 rfl) ?_
  refine q_ifnull (tgt := 28) X dX5_result_7 (by decide) (fun c7 => ?_) (fun c7 => ?_)
  · rw [if_pos c7] at hf
    refine lv_lconst (v := 0) X.1 X.2.1 dX5_result_28 (by decide) ?_
    obtain rfl := Option.some.inj hf
    exact q_lret X M hS (by omega) (by omega) dX5_result_29
  · rw [if_neg c7] at hf
    refine q_aload_n X dX5_result_10 rfl (lv_at hl 0 rfl) ?_
    refine lv_iload_n X.1 X.2.1 dX5_result_11 rfl (lv_at hl 3 rfl) ?_
    have ho := chk_e hf
    clear hf
    obtain ⟨a11, e12, k13, hf⟩ := ho
    cases e12
    have ho := bnd_e hf
    clear hf
    obtain ⟨v8, w9, q10, hf⟩ := ho
    refine q_cV X M hS hl.1 (ci := 1) (r := (RX1, TX1, 11)) (As := [.int x2]) (m_X1_hasCall a11 x2 _ _ q10) mlX5_77 gm_278 gm_279 rfl (by decide) k13 rfl ⟨(Nat.le_of_ble_eq_true rfl), (Nat.le_of_ble_eq_true rfl)⟩ (rest := []) rfl (Nat.le_of_ble_eq_true rfl) (mc := 0) (ms := 0) (MC := 0) (MS := 0) rfl rfl rfl rfl (by omega) (by omega) dX5_result_12 (st2 := [.int v8]) rfl (fun H locs M hS => ?_)
    refine lv_if_eq (tgt := 28) X.1 X.2.1 dX5_result_15 (by decide) (fun c14 => ?_) (fun c14 => ?_)
    · rw [if_pos c14] at hf
      refine lv_lconst (v := 0) X.1 X.2.1 dX5_result_28 (by decide) ?_
      obtain rfl := Option.some.inj hf
      exact q_lret X M hS (by omega) (by omega) dX5_result_29
    · rw [if_neg c14] at hf
      refine q_aload_n X dX5_result_18 rfl (lv_at hl 0 rfl) ?_
      have ho := gR_e hf
      clear hf
      obtain ⟨a15, v16, e17, k18, q19, hf⟩ := ho
      cases e17
      refine q_get X M flX5_81 k18 (congrArg va_rf q19) dX5_result_19 ?_
      refine lv_iload_n X.1 X.2.1 dX5_result_22 rfl (lv_at hl 3 rfl) ?_
      have ho := aI_e hf
      clear hf
      obtain ⟨a20, v21, e22, k23, i24, q25, hf⟩ := ho
      cases e22
      refine q_iald X M k23 i24 dX5_result_23 ?_
      rw [q25]
      refine lv_iconst (v := 1) X.1 X.2.1 dX5_result_24 (by decide) ?_
      refine lv_icmp_eq (tgt := 30) X.1 X.2.1 dX5_result_25 (by decide) (fun c26 => ?_) (fun c26 => ?_)
      · rw [if_pos c26] at hf
        refine q_aload_n X dX5_result_30 rfl (lv_at hl 0 rfl) ?_
        have ho := gR_e hf
        clear hf
        obtain ⟨a27, v28, e29, k30, q31, hf⟩ := ho
        cases e29
        refine q_get X M flX5_228 k30 (congrArg va_rf q31) dX5_result_31 ?_
        refine lv_iload_n X.1 X.2.1 dX5_result_34 rfl (lv_at hl 3 rfl) ?_
        have ho := aL_e hf
        clear hf
        obtain ⟨a32, v33, e34, k35, i36, q37, hf⟩ := ho
        cases e34
        refine q_lald X M k35 i36 dX5_result_35 ?_
        rw [q37]
        obtain rfl := Option.some.inj hf
        exact q_lret X M hS (by omega) (by omega) dX5_result_36
      · rw [if_neg c26] at hf
        refine lv_lconst (v := 0) X.1 X.2.1 dX5_result_28 (by decide) ?_
        obtain rfl := Option.some.inj hf
        exact q_lret X M hS (by omega) (by omega) dX5_result_29
theorem m_X5_result {l : Launch} {D : va_G} {aC : Nat → ClassId} {b0 : Nat} {w : Wd} (o : Nat) (x1 : Int32) (x2 : Int32) (v : Int64) (w' : Wd) (hf : f_X5_result o x1 x2 w = some (v, w')) : Ct l D aC b0 yX5_result (Cond.code yX5_result cX5_result 4 (some .long) :: Gw) rX5_result [va_rf (some o), .int x1, .int x2] w (some (.long v)) w' :=
  q_met (by decide) (Nat.le_of_ble_eq_true rfl) (fun p e s m below meth c X M ls hl => e_X5_result X (res := (v, w')) o x1 x2 w s.heap [] 0 0 ls hf M va_S.rf (by decide) (by decide) hl)
abbrev rX5_letter : Room := { frames := 3, cells := 0, slots := 0, locals := 61 }
def f_X5_letter (o : Nat) (x1 : Int32) (x2 : Int32) (w : Wd) : Option (Int32 × Wd) := gR w (some o) 6 2 (fun v2 => chk w v2 4 (fun a9 => bnd (f_X3_at a9 x1 w) (fun v6 w7 => if v6 = none then (some ((-1), w7)) else (chk w7 v6 3 (fun a16 => bnd (f_X2_part a16 x2 w7) (fun v13 w14 => some (v13, w14)))))))
set_option maxHeartbeats 4000000 in
set_option maxRecDepth 100000 in
theorem e_X5_letter {l : Launch} {D : va_G} {aC : Nat → ClassId} {b0 : Nat} {p : Program} {e : Env} {s : State} {m : MethodId} {args : Array Value} {below : List Frame} {meth : Method} {c : Code} (X : Cx D aC p s m args meth c cX5_letter RX5 4 "letter" (some .int)) {res : (Int32 × Wd)} (o : Nat) (x1 : Int32) (x2 : Int32) (w : Wd) : BW l D aC b0 p e rX5_letter s m args below meth c (Qe D aC b0 below args s 0 0 (some (.int res.1)) res.2) res 0 0 0 0 (f_X5_letter o x1 x2 w) w 0 4 [(0, va_rf (some o)), (1, .int x1), (2, .int x2)] [] := by
  intro H locs cells slots ls hf M hS hc hs hl
  unfold f_X5_letter at hf
  refine q_aload_n X dX5_letter_0 rfl (lv_at hl 0 rfl) ?_
  have ho := gR_e hf
  clear hf
  obtain ⟨a1, v2, e3, k4, q5, hf⟩ := ho
  cases e3
  refine q_get X M flX5_34.g k4 (congrArg va_rf q5) dX5_letter_1 ?_
  refine lv_iload_n X.1 X.2.1 dX5_letter_4 rfl (lv_at hl 1 rfl) ?_
  have ho := chk_e hf
  clear hf
  obtain ⟨a9, e10, k11, hf⟩ := ho
  cases e10
  have ho := bnd_e hf
  clear hf
  obtain ⟨v6, w7, q8, hf⟩ := ho
  refine q_cV X M hS hl.1 (ci := 3) (r := (RX3, TX3, 2)) (As := [.int x1]) (m_X3_at a9 x1 _ _ q8) mlX5_100 gm_313 gm_314 rfl (by decide) k11 rfl ⟨(Nat.le_of_ble_eq_true rfl), (Nat.le_of_ble_eq_true rfl)⟩ (rest := []) rfl (Nat.le_of_ble_eq_true rfl) (mc := 0) (ms := 0) (MC := 0) (MS := 0) rfl rfl rfl rfl (by omega) (by omega) dX5_letter_5 (st2 := [va_rf v6]) rfl (fun H locs M hS => ?_)
  refine q_astore_n (i := 3) (lv' := [(3, va_rf v6), (0, va_rf (some o)), (1, .int x1), (2, .int x2)]) X dX5_letter_8 rfl hl (by decide) rfl (fun ls hl => ?_)
  refine q_aload_n X dX5_letter_9 rfl (lv_at hl 0 rfl) ?_
  refine q_ifnonnull (tgt := 17) X dX5_letter_10 (by decide) (fun c12 => ?_) (fun c12 => ?_)
  · rw [if_neg c12] at hf
    refine q_aload_n X dX5_letter_17 rfl (lv_at hl 0 rfl) ?_
    refine lv_iload_n X.1 X.2.1 dX5_letter_18 rfl (lv_at hl 3 rfl) ?_
    have ho := chk_e hf
    clear hf
    obtain ⟨a16, e17, k18, hf⟩ := ho
    cases e17
    have ho := bnd_e hf
    clear hf
    obtain ⟨v13, w14, q15, hf⟩ := ho
    refine q_cV X M hS hl.1 (ci := 2) (r := (RX2, TX2, 15)) (As := [.int x2]) (m_X2_part a16 x2 _ _ q15) mlX5_231 gm_653 gm_654 rfl (by decide) k18 rfl ⟨(Nat.le_of_ble_eq_true rfl), (Nat.le_of_ble_eq_true rfl)⟩ (rest := []) rfl (Nat.le_of_ble_eq_true rfl) (mc := 0) (ms := 0) (MC := 0) (MS := 0) rfl rfl rfl rfl (by omega) (by omega) dX5_letter_19 (st2 := [.int v13]) rfl (fun H locs M hS => ?_)
    obtain rfl := Option.some.inj hf
    exact q_iret X M hS (by omega) (by omega) dX5_letter_22
  · rw [if_pos c12] at hf
    refine lv_iconst (v := (-1)) X.1 X.2.1 dX5_letter_13 (by decide) ?_
    refine lv_goto (tgt := 22) X.1 X.2.1 dX5_letter_14 (by decide) ?_
    obtain rfl := Option.some.inj hf
    exact q_iret X M hS (by omega) (by omega) dX5_letter_22
theorem m_X5_letter {l : Launch} {D : va_G} {aC : Nat → ClassId} {b0 : Nat} {w : Wd} (o : Nat) (x1 : Int32) (x2 : Int32) (v : Int32) (w' : Wd) (hf : f_X5_letter o x1 x2 w = some (v, w')) : Ct l D aC b0 yX5_letter (Cond.code yX5_letter cX5_letter 4 (some .int) :: Gw) rX5_letter [va_rf (some o), .int x1, .int x2] w (some (.int v)) w' :=
  q_met (by decide) (Nat.le_of_ble_eq_true rfl) (fun p e s m below meth c X M ls hl => e_X5_letter X (res := (v, w')) o x1 x2 w s.heap [] 0 0 ls hf M va_S.rf (by decide) (by decide) hl)
abbrev rX5_count : Room := { frames := 0, cells := 0, slots := 0, locals := 0 }
def f_X5_count (o : Nat) (x1 : Int32) (w : Wd) : Option (Int32 × Wd) := if x1 = 0 then (gR w (some o) 6 2 (fun v3 => gI w v3 4 1 (fun v8 => some (v8, w)))) else if x1 = 1 then (gI w (some o) 6 6 (fun v14 => some (v14, w))) else if x1 = 2 then (gI w (some o) 6 7 (fun v20 => some (v20, w))) else if x1 = 3 then (gI w (some o) 6 8 (fun v26 => some (v26, w))) else if x1 = 4 then (gI w (some o) 6 4 (fun v32 => some (v32, w))) else (some ((-1), w))
set_option maxHeartbeats 4000000 in
set_option maxRecDepth 100000 in
theorem e_X5_count {l : Launch} {D : va_G} {aC : Nat → ClassId} {b0 : Nat} {p : Program} {e : Env} {s : State} {m : MethodId} {args : Array Value} {below : List Frame} {meth : Method} {c : Code} (X : Cx D aC p s m args meth c cX5_count RX5 2 "count" (some .int)) {res : (Int32 × Wd)} (o : Nat) (x1 : Int32) (w : Wd) : BW l D aC b0 p e rX5_count s m args below meth c (Qe D aC b0 below args s 0 0 (some (.int res.1)) res.2) res 0 0 0 0 (f_X5_count o x1 w) w 0 2 [(0, va_rf (some o)), (1, .int x1)] [] := by
  intro H locs cells slots ls hf M hS hc hs hl
  unfold f_X5_count at hf
  refine lv_iload_n X.1 X.2.1 dX5_count_0 rfl (lv_at hl 1 rfl) ?_
  by_cases c1 : x1 = 0
  · rw [if_pos c1] at hf
    refine lv_tableIn (tgt := 36) (off := 35) X.1 X.2.1 dX5_count_1 (by rw [c1]; decide) (by rw [c1]; decide) (by rw [c1]; rfl) (by decide) ?_
    refine q_aload_n X dX5_count_36 rfl (lv_at hl 0 rfl) ?_
    have ho := gR_e hf
    clear hf
    obtain ⟨a2, v3, e4, k5, q6, hf⟩ := ho
    cases e4
    refine q_get X M flX5_34.g k5 (congrArg va_rf q6) dX5_count_37 ?_
    have ho := gI_e hf
    clear hf
    obtain ⟨a7, v8, e9, k10, q11, hf⟩ := ho
    cases e9
    refine q_get X M flX5_137.g k10 (congrArg Value.int q11) dX5_count_40 ?_
    obtain rfl := Option.some.inj hf
    exact q_iret X M hS (by omega) (by omega) dX5_count_43
  rw [if_neg c1] at hf
  by_cases c12 : x1 = 1
  · rw [if_pos c12] at hf
    refine lv_tableIn (tgt := 44) (off := 43) X.1 X.2.1 dX5_count_1 (by rw [c12]; decide) (by rw [c12]; decide) (by rw [c12]; rfl) (by decide) ?_
    refine q_aload_n X dX5_count_44 rfl (lv_at hl 0 rfl) ?_
    have ho := gI_e hf
    clear hf
    obtain ⟨a13, v14, e15, k16, q17, hf⟩ := ho
    cases e15
    refine q_get X M flX5_120.g k16 (congrArg Value.int q17) dX5_count_45 ?_
    obtain rfl := Option.some.inj hf
    exact q_iret X M hS (by omega) (by omega) dX5_count_48
  rw [if_neg c12] at hf
  by_cases c18 : x1 = 2
  · rw [if_pos c18] at hf
    refine lv_tableIn (tgt := 49) (off := 48) X.1 X.2.1 dX5_count_1 (by rw [c18]; decide) (by rw [c18]; decide) (by rw [c18]; rfl) (by decide) ?_
    refine q_aload_n X dX5_count_49 rfl (lv_at hl 0 rfl) ?_
    have ho := gI_e hf
    clear hf
    obtain ⟨a19, v20, e21, k22, q23, hf⟩ := ho
    cases e21
    refine q_get X M flX5_234.g k22 (congrArg Value.int q23) dX5_count_50 ?_
    obtain rfl := Option.some.inj hf
    exact q_iret X M hS (by omega) (by omega) dX5_count_53
  rw [if_neg c18] at hf
  by_cases c24 : x1 = 3
  · rw [if_pos c24] at hf
    refine lv_tableIn (tgt := 54) (off := 53) X.1 X.2.1 dX5_count_1 (by rw [c24]; decide) (by rw [c24]; decide) (by rw [c24]; rfl) (by decide) ?_
    refine q_aload_n X dX5_count_54 rfl (lv_at hl 0 rfl) ?_
    have ho := gI_e hf
    clear hf
    obtain ⟨a25, v26, e27, k28, q29, hf⟩ := ho
    cases e27
    refine q_get X M flX5_237.g k28 (congrArg Value.int q29) dX5_count_55 ?_
    obtain rfl := Option.some.inj hf
    exact q_iret X M hS (by omega) (by omega) dX5_count_58
  rw [if_neg c24] at hf
  by_cases c30 : x1 = 4
  · rw [if_pos c30] at hf
    refine lv_tableIn (tgt := 59) (off := 58) X.1 X.2.1 dX5_count_1 (by rw [c30]; decide) (by rw [c30]; decide) (by rw [c30]; rfl) (by decide) ?_
    refine q_aload_n X dX5_count_59 rfl (lv_at hl 0 rfl) ?_
    have ho := gI_e hf
    clear hf
    obtain ⟨a31, v32, e33, k34, q35, hf⟩ := ho
    cases e33
    refine q_get X M flX5_51.g k34 (congrArg Value.int q35) dX5_count_60 ?_
    obtain rfl := Option.some.inj hf
    exact q_iret X M hS (by omega) (by omega) dX5_count_63
  rw [if_neg c30] at hf
  have ht1 : x1.toInt < 0 ∨ 4 < x1.toInt := by
    have g0 : x1.toInt ≠ 0 := by simpa using ne_i c1
    have g1 : x1.toInt ≠ 1 := by simpa using ne_i c12
    have g2 : x1.toInt ≠ 2 := by simpa using ne_i c18
    have g3 : x1.toInt ≠ 3 := by simpa using ne_i c24
    have g4 : x1.toInt ≠ 4 := by simpa using ne_i c30
    omega
  refine lv_tableOut (tgt := 64) X.1 X.2.1 dX5_count_1 ht1 (by decide) ?_
  refine lv_iconst (v := (-1)) X.1 X.2.1 dX5_count_64 (by decide) ?_
  obtain rfl := Option.some.inj hf
  exact q_iret X M hS (by omega) (by omega) dX5_count_65
theorem m_X5_count {l : Launch} {D : va_G} {aC : Nat → ClassId} {b0 : Nat} {w : Wd} (o : Nat) (x1 : Int32) (v : Int32) (w' : Wd) (hf : f_X5_count o x1 w = some (v, w')) : Ct l D aC b0 yX5_count (Cond.code yX5_count cX5_count 2 (some .int) :: Gw) rX5_count [va_rf (some o), .int x1] w (some (.int v)) w' :=
  q_met (by decide) (Nat.le_of_ble_eq_true rfl) (fun p e s m below meth c X M ls hl => e_X5_count X (res := (v, w')) o x1 w s.heap [] 0 0 ls hf M va_S.rf (by decide) (by decide) hl)
