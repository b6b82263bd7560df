abbrev rX6_sync : Room := { frames := 2, cells := 0, slots := 0, locals := 43 }
def f_X6_sync_57 : Nat → Nat → Int32 → Int32 → Int32 → Wd → Option (Int32 × Wd)
  | 0, _, _, _, _, _ => none
  | n + 1, o, x1, x2, x3, w => if x2 ≤ x3 then (some (x2, w)) else (gR w (some o) 7 51 (fun v62 => aI w v62 100 ((4200 * x1) + x3) (fun v67 => chk w (some o) 7 (fun a75 => bnd (f_X6_go a75 v67 w) (fun v72 w73 => (f_X6_sync_57 n) o x1 x2 (x3 + 1) w73)))))
set_option maxHeartbeats 4000000 in
set_option maxRecDepth 100000 in
theorem b_X6_sync_57 {l : Launch} {D : va_G} {aC : Nat → ClassId} {b0 : Nat} {p : Program} {e : Env} {s : State} {m : MethodId} {args : Array Value} {below : List Frame} {meth : Method} {c : Code} (X : Cx D aC p s m args meth c cX6_sync RX6 4 "sync" (some .int)) {res : (Int32 × Wd)} : ∀ (n : Nat) (o : Nat) (x1 : Int32) (x2 : Int32) (x3 : Int32) (w : Wd), BW l D aC b0 p e rX6_sync s m args below meth c (Qe D aC b0 below args s 0 0 (some (.int res.1)) res.2) res 0 0 0 0 (f_X6_sync_57 n o x1 x2 x3 w) w 57 4 [(0, va_rf (some o)), (1, .int x1), (2, .int x2), (3, .int x3)] [] := by
  intro n
  induction n with
  | zero =>
    intro o x1 x2 x3 w H locs cells slots ls hf
    rw [f_X6_sync_57.eq_1] at hf
    cases hf
  | succ n ih =>
    intro o x1 x2 x3 w H locs cells slots ls hf M hS hc hs hl
    rw [f_X6_sync_57.eq_2] at hf
    refine lv_iload_n X.1 X.2.1 dX6_sync_57 rfl (lv_at hl 3 rfl) ?_
    refine lv_iload_n X.1 X.2.1 dX6_sync_58 rfl (lv_at hl 2 rfl) ?_
    refine lv_icmp_ge (tgt := 84) X.1 X.2.1 dX6_sync_59 (by decide) (fun c60 => ?_) (fun c60 => ?_)
    · rw [if_pos c60] at hf
      refine lv_iload_n X.1 X.2.1 dX6_sync_84 rfl (lv_at hl 2 rfl) ?_
      obtain rfl := Option.some.inj hf
      exact q_iret X M hS (by omega) (by omega) dX6_sync_85
    · rw [if_neg c60] at hf
      refine q_aload_n X dX6_sync_62 rfl (lv_at hl 0 rfl) ?_
      refine q_aload_n X dX6_sync_63 rfl (lv_at hl 0 rfl) ?_
      have ho := gR_e hf
      clear hf
      obtain ⟨a61, v62, e63, k64, q65, hf⟩ := ho
      cases e63
      refine q_get X M flX6_139.g k64 (congrArg va_rf q65) dX6_sync_64 ?_
      refine lv_sipush (v := 4200) X.1 X.2.1 dX6_sync_67 (by decide) ?_
      refine lv_iload_n X.1 X.2.1 dX6_sync_70 rfl (lv_at hl 1 rfl) ?_
      refine lv_imul X.1 X.2.1 dX6_sync_71 ?_
      refine lv_iload_n X.1 X.2.1 dX6_sync_72 rfl (lv_at hl 3 rfl) ?_
      refine lv_iadd X.1 X.2.1 dX6_sync_73 ?_
      have ho := aI_e hf
      clear hf
      obtain ⟨a66, v67, e68, k69, i70, q71, hf⟩ := ho
      cases e68
      refine q_iald X M k69 i70 dX6_sync_74 ?_
      rw [q71]
      have ho := chk_e hf
      clear hf
      obtain ⟨a75, e76, k77, hf⟩ := ho
      cases e76
      have ho := bnd_e hf
      clear hf
      obtain ⟨v72, w73, q74, hf⟩ := ho
      refine q_cV X M hS hl.1 (ci := 6) (r := (RX6, TX6, 53)) (As := [.int v67]) (m_X6_go o v67 _ _ q74) mlX6_168 gm_267 gm_268 rfl (by decide) k77 rfl ⟨(Nat.le_of_ble_eq_true rfl), (Nat.le_of_ble_eq_true rfl)⟩ (rest := []) rfl (Nat.le_of_ble_eq_true rfl) (mc := 0) (ms := 0) (MC := 0) (MS := 0) rfl rfl rfl rfl (by omega) (by omega) dX6_sync_75 (st2 := []) rfl (fun H locs M hS => ?_)
      refine lv_iinc (v := (x3 + 1)) (lv' := [(3, .int (x3 + 1)), (0, va_rf (some o)), (1, .int x1), (2, .int x2)]) X.1 X.2.1 dX6_sync_78 hl (k := 3) rfl rfl (by decide) rfl (fun ls hl => ?_)
      refine lv_goto (tgt := 57) X.1 X.2.1 dX6_sync_81 (by decide) ?_
      exact ih o x1 x2 (x3 + 1) w73 _ _ _ _ _ hf M hS (by omega) (by omega) (lv_sub hl [1, 2, 3, 0] rfl)
def f_X6_sync (o : Nat) (x1 : Int32) (w : Wd) : Option (Int32 × Wd) := chk w (some o) 7 (fun a4 => bnd (f_X6_isServer a4 x1 w) (fun v1 w2 => if v1 = 0 then (some ((-1), w2)) else (gR w2 (some o) 7 28 (fun v9 => aI w2 v9 102 x1 (fun v14 => if v14 = 0 then (some ((-3), w2)) else (chk w2 (some o) 7 (fun a23 => bnd (f_X6_copy a23 (2 * x1) ((2 * x1) + 1) w2) (fun v20 w21 => gR w21 (some o) 7 29 (fun v27 => tZ w21 v27 102 x1 0 (fun w32 => gR w32 (some o) 7 52 (fun v39 => aI w32 v39 100 x1 (fun v44 => gR w32 (some o) 7 52 (fun v50 => tI w32 v50 100 x1 0 (fun w55 => (f_X6_sync_57 FU) o x1 v44 0 w55))))))))))))))
set_option maxHeartbeats 4000000 in
set_option maxRecDepth 100000 in
theorem e_X6_sync {l : Launch} {D : va_G} {aC : Nat → ClassId} {b0 : Nat} {p : Program} {e : Env} {s : State} {m : MethodId} {args : Array Value} {below : List Frame} {meth : Method} {c : Code} (X : Cx D aC p s m args meth c cX6_sync RX6 4 "sync" (some .int)) {res : (Int32 × Wd)} (o : Nat) (x1 : Int32) (w : Wd) : BW l D aC b0 p e rX6_sync s m args below meth c (Qe D aC b0 below args s 0 0 (some (.int res.1)) res.2) res 0 0 0 0 (f_X6_sync o x1 w) w 0 4 [(0, va_rf (some o)), (1, .int x1)] [] := by
  intro H locs cells slots ls hf M hS hc hs hl
  unfold f_X6_sync at hf
  refine q_aload_n X dX6_sync_0 rfl (lv_at hl 0 rfl) ?_
  refine lv_iload_n X.1 X.2.1 dX6_sync_1 rfl (lv_at hl 1 rfl) ?_
  have ho := chk_e hf
  clear hf
  obtain ⟨a4, e5, k6, hf⟩ := ho
  cases e5
  have ho := bnd_e hf
  clear hf
  obtain ⟨v1, w2, q3, hf⟩ := ho
  refine q_cV X M hS hl.1 (ci := 6) (r := (RX6, TX6, 53)) (As := [.int x1]) (m_X6_isServer o x1 _ _ q3) mlX6_201 gm_302 gm_303 rfl (by decide) k6 rfl ⟨(Nat.le_of_ble_eq_true rfl), (Nat.le_of_ble_eq_true rfl)⟩ (rest := []) rfl (Nat.le_of_ble_eq_true rfl) (mc := 0) (ms := 0) (MC := 0) (MS := 0) rfl rfl rfl rfl (by omega) (by omega) dX6_sync_2 (st2 := [.int v1]) rfl (fun H locs M hS => ?_)
  refine lv_if_ne (tgt := 10) X.1 X.2.1 dX6_sync_5 (by decide) (fun c7 => ?_) (fun c7 => ?_)
  · rw [if_neg c7] at hf
    refine q_aload_n X dX6_sync_10 rfl (lv_at hl 0 rfl) ?_
    have ho := gR_e hf
    clear hf
    obtain ⟨a8, v9, e10, k11, q12, hf⟩ := ho
    cases e10
    refine q_get X M flX6_74.g k11 (congrArg va_rf q12) dX6_sync_11 ?_
    refine lv_iload_n X.1 X.2.1 dX6_sync_14 rfl (lv_at hl 1 rfl) ?_
    have ho := aI_e hf
    clear hf
    obtain ⟨a13, v14, e15, k16, i17, q18, hf⟩ := ho
    cases e15
    refine q_zald X M k16 i17 dX6_sync_15 ?_
    rw [q18]
    refine lv_if_ne (tgt := 22) X.1 X.2.1 dX6_sync_16 (by decide) (fun c19 => ?_) (fun c19 => ?_)
    · rw [if_neg c19] at hf
      refine q_aload_n X dX6_sync_22 rfl (lv_at hl 0 rfl) ?_
      refine lv_iconst (v := 2) X.1 X.2.1 dX6_sync_23 (by decide) ?_
      refine lv_iload_n X.1 X.2.1 dX6_sync_24 rfl (lv_at hl 1 rfl) ?_
      refine lv_imul X.1 X.2.1 dX6_sync_25 ?_
      refine lv_iconst (v := 2) X.1 X.2.1 dX6_sync_26 (by decide) ?_
      refine lv_iload_n X.1 X.2.1 dX6_sync_27 rfl (lv_at hl 1 rfl) ?_
      refine lv_imul X.1 X.2.1 dX6_sync_28 ?_
      refine lv_iconst (v := 1) X.1 X.2.1 dX6_sync_29 (by decide) ?_
      refine lv_iadd X.1 X.2.1 dX6_sync_30 ?_
      have ho := chk_e hf
      clear hf
      obtain ⟨a23, e24, k25, hf⟩ := ho
      cases e24
      have ho := bnd_e hf
      clear hf
      obtain ⟨v20, w21, q22, hf⟩ := ho
      refine q_cV X M hS hl.1 (ci := 6) (r := (RX6, TX6, 53)) (As := [.int (2 * x1), .int ((2 * x1) + 1)]) (m_X6_copy o (2 * x1) ((2 * x1) + 1) _ _ q22) mlX6_243 gm_512 gm_513 rfl (by decide) k25 rfl ⟨(Nat.le_of_ble_eq_true rfl), (Nat.le_of_ble_eq_true rfl)⟩ (rest := []) rfl (Nat.le_of_ble_eq_true rfl) (mc := 0) (ms := 0) (MC := 0) (MS := 0) rfl rfl rfl rfl (by omega) (by omega) dX6_sync_31 (st2 := []) rfl (fun H locs M hS => ?_)
      refine q_aload_n X dX6_sync_34 rfl (lv_at hl 0 rfl) ?_
      have ho := gR_e hf
      clear hf
      obtain ⟨a26, v27, e28, k29, q30, hf⟩ := ho
      cases e28
      refine q_get X M flX6_78.g k29 (congrArg va_rf q30) dX6_sync_35 ?_
      refine lv_iload_n X.1 X.2.1 dX6_sync_38 rfl (lv_at hl 1 rfl) ?_
      refine lv_iconst (v := 0) X.1 X.2.1 dX6_sync_39 (by decide) ?_
      have ho := tZ_e hf
      clear hf
      obtain ⟨a31, w32, e33, k34, i35, z37, q36, hf⟩ := ho
      cases e33
      refine q_zast X M hS k34 z37 i35 dX6_sync_40 (fun H locs M hS => ?_)
      rw [q36] at M
      refine q_aload_n X dX6_sync_41 rfl (lv_at hl 0 rfl) ?_
      have ho := gR_e hf
      clear hf
      obtain ⟨a38, v39, e40, k41, q42, hf⟩ := ho
      cases e40
      refine q_get X M flX6_142.g k41 (congrArg va_rf q42) dX6_sync_42 ?_
      refine lv_iload_n X.1 X.2.1 dX6_sync_45 rfl (lv_at hl 1 rfl) ?_
      have ho := aI_e hf
      clear hf
      obtain ⟨a43, v44, e45, k46, i47, q48, hf⟩ := ho
      cases e45
      refine q_iald X M k46 i47 dX6_sync_46 ?_
      rw [q48]
      refine lv_istore_n (i := 2) (lv' := [(2, .int v44), (0, va_rf (some o)), (1, .int x1)]) X.1 X.2.1 dX6_sync_47 rfl hl (by decide) rfl (fun ls hl => ?_)
      refine q_aload_n X dX6_sync_48 rfl (lv_at hl 1 rfl) ?_
      have ho := gR_e hf
      clear hf
      obtain ⟨a49, v50, e51, k52, q53, hf⟩ := ho
      cases e51
      refine q_get X M flX6_142.g k52 (congrArg va_rf q53) dX6_sync_49 ?_
      refine lv_iload_n X.1 X.2.1 dX6_sync_52 rfl (lv_at hl 2 rfl) ?_
      refine lv_iconst (v := 0) X.1 X.2.1 dX6_sync_53 (by decide) ?_
      have ho := tI_e hf
      clear hf
      obtain ⟨a54, w55, e56, k57, i58, q59, hf⟩ := ho
      cases e56
      refine q_iast X M hS k57 i58 dX6_sync_54 (fun H locs M hS => ?_)
      rw [q59] at M
      refine lv_iconst (v := 0) X.1 X.2.1 dX6_sync_55 (by decide) ?_
      refine lv_istore_n (i := 3) (lv' := [(3, .int 0), (2, .int v44), (0, va_rf (some o)), (1, .int x1)]) X.1 X.2.1 dX6_sync_56 rfl hl (by decide) rfl (fun ls hl => ?_)
      exact (b_X6_sync_57 X FU) o x1 v44 0 w55 _ _ _ _ _ hf M hS (by omega) (by omega) (lv_sub hl [2, 3, 1, 0] rfl)
    · rw [if_pos c19] at hf
      refine lv_bipush (v := (-3)) X.1 X.2.1 dX6_sync_19 (by decide) ?_
      obtain rfl := Option.some.inj hf
      exact q_iret X M hS (by omega) (by omega) dX6_sync_21
  · rw [if_pos c7] at hf
    refine lv_iconst (v := (-1)) X.1 X.2.1 dX6_sync_8 (by decide) ?_
    obtain rfl := Option.some.inj hf
    exact q_iret X M hS (by omega) (by omega) dX6_sync_9
theorem m_X6_sync {l : Launch} {D : va_G} {aC : Nat → ClassId} {b0 : Nat} {w : Wd} (o : Nat) (x1 : Int32) (v : Int32) (w' : Wd) (hf : f_X6_sync o x1 w = some (v, w')) : Ct l D aC b0 yX6_sync (Cond.code yX6_sync cX6_sync 4 (some .int) :: Gw) rX6_sync [va_rf (some o), .int x1] w (some (.int v)) w' :=
  q_met (by decide) (Nat.le_of_ble_eq_true rfl) (fun p e s m below meth c X M ls hl => e_X6_sync X (res := (v, w')) o x1 w s.heap [] 0 0 ls hf M va_S.rf (by decide) (by decide) hl)
abbrev rX6_crash : Room := { frames := 2, cells := 0, slots := 0, locals := 43 }
def f_X6_crash_38 (K67 : Nat → Int32 → Int32 → Wd → Option (Int32 × Wd)) : Nat → Nat → Int32 → Int32 → Int32 → Wd → Option (Int32 × Wd)
  | 0, _, _, _, _, _ => none
  | n + 1, o, x1, x2, x3, w => if x2 ≤ x3 then (K67 o x1 x2 w) else (gR w (some o) 7 30 (fun v45 => gR w (some o) 7 51 (fun v50 => aI w v50 100 ((4200 * x1) + x3) (fun v55 => tZ w v45 102 v55 0 (fun w61 => (f_X6_crash_38 K67 n) o x1 x2 (x3 + 1) w61)))))
set_option maxHeartbeats 4000000 in
set_option maxRecDepth 100000 in
theorem b_X6_crash_38 {l : Launch} {D : va_G} {aC : Nat → ClassId} {b0 : Nat} {p : Program} {e : Env} {s : State} {m : MethodId} {args : Array Value} {below : List Frame} {meth : Method} {c : Code} (X : Cx D aC p s m args meth c cX6_crash RX6 4 "crash" (some .int)) {res : (Int32 × Wd)} {K67 : Nat → Int32 → Int32 → Wd → Option (Int32 × Wd)} (hK67 : ∀ (o : Nat) (x1 : Int32) (x2 : Int32) (w : Wd), BW l D aC b0 p e rX6_crash s m args below meth c (Qe D aC b0 below args s 0 0 (some (.int res.1)) res.2) res 0 0 0 0 (K67 o x1 x2 w) w 67 4 [(0, va_rf (some o)), (1, .int x1), (2, .int x2)] []) : ∀ (n : Nat) (o : Nat) (x1 : Int32) (x2 : Int32) (x3 : Int32) (w : Wd), BW l D aC b0 p e rX6_crash s m args below meth c (Qe D aC b0 below args s 0 0 (some (.int res.1)) res.2) res 0 0 0 0 (f_X6_crash_38 K67 n o x1 x2 x3 w) w 38 4 [(0, va_rf (some o)), (1, .int x1), (2, .int x2), (3, .int x3)] [] := by
  intro n
  induction n with
  | zero =>
    intro o x1 x2 x3 w H locs cells slots ls hf
    rw [f_X6_crash_38.eq_1] at hf
    cases hf
  | succ n ih =>
    intro o x1 x2 x3 w H locs cells slots ls hf M hS hc hs hl
    rw [f_X6_crash_38.eq_2] at hf
    refine lv_iload_n X.1 X.2.1 dX6_crash_38 rfl (lv_at hl 3 rfl) ?_
    refine lv_iload_n X.1 X.2.1 dX6_crash_39 rfl (lv_at hl 2 rfl) ?_
    refine lv_icmp_ge (tgt := 67) X.1 X.2.1 dX6_crash_40 (by decide) (fun c43 => ?_) (fun c43 => ?_)
    · rw [if_pos c43] at hf
      exact hK67 o x1 x2 w _ _ _ _ _ hf M hS (by omega) (by omega) (lv_sub hl [0, 1, 2] rfl)
    · rw [if_neg c43] at hf
      refine q_aload_n X dX6_crash_43 rfl (lv_at hl 0 rfl) ?_
      have ho := gR_e hf
      clear hf
      obtain ⟨a44, v45, e46, k47, q48, hf⟩ := ho
      cases e46
      refine q_get X M flX6_81.g k47 (congrArg va_rf q48) dX6_crash_44 ?_
      refine q_aload_n X dX6_crash_47 rfl (lv_at hl 0 rfl) ?_
      have ho := gR_e hf
      clear hf
      obtain ⟨a49, v50, e51, k52, q53, hf⟩ := ho
      cases e51
      refine q_get X M flX6_139.g k52 (congrArg va_rf q53) dX6_crash_48 ?_
      refine lv_sipush (v := 4200) X.1 X.2.1 dX6_crash_51 (by decide) ?_
      refine lv_iload_n X.1 X.2.1 dX6_crash_54 rfl (lv_at hl 1 rfl) ?_
      refine lv_imul X.1 X.2.1 dX6_crash_55 ?_
      refine lv_iload_n X.1 X.2.1 dX6_crash_56 rfl (lv_at hl 3 rfl) ?_
      refine lv_iadd X.1 X.2.1 dX6_crash_57 ?_
      have ho := aI_e hf
      clear hf
      obtain ⟨a54, v55, e56, k57, i58, q59, hf⟩ := ho
      cases e56
      refine q_iald X M k57 i58 dX6_crash_58 ?_
      rw [q59]
      refine lv_iconst (v := 0) X.1 X.2.1 dX6_crash_59 (by decide) ?_
      have ho := tZ_e hf
      clear hf
      obtain ⟨a60, w61, e62, k63, i64, z66, q65, hf⟩ := ho
      cases e62
      refine q_zast X M hS k63 z66 i64 dX6_crash_60 (fun H locs M hS => ?_)
      rw [q65] at M
      refine lv_iinc (v := (x3 + 1)) (lv' := [(3, .int (x3 + 1)), (0, va_rf (some o)), (1, .int x1), (2, .int x2)]) X.1 X.2.1 dX6_crash_61 hl (k := 3) rfl rfl (by decide) rfl (fun ls hl => ?_)
      refine lv_goto (tgt := 38) X.1 X.2.1 dX6_crash_64 (by decide) ?_
      exact ih o x1 x2 (x3 + 1) w61 _ _ _ _ _ hf M hS (by omega) (by omega) (lv_sub hl [1, 2, 3, 0] rfl)
def f_X6_crash_67 (o : Nat) (x1 : Int32) (x2 : Int32) (w : Wd) : Option (Int32 × Wd) := gR w (some o) 7 52 (fun v68 => tI w v68 100 x1 0 (fun w73 => gI w73 (some o) 7 3 (fun v79 => pI w73 (some o) 7 3 (v79 + x2) (fun w84 => some (x2, w84)))))
set_option maxHeartbeats 4000000 in
set_option maxRecDepth 100000 in
theorem b_X6_crash_67 {l : Launch} {D : va_G} {aC : Nat → ClassId} {b0 : Nat} {p : Program} {e : Env} {s : State} {m : MethodId} {args : Array Value} {below : List Frame} {meth : Method} {c : Code} (X : Cx D aC p s m args meth c cX6_crash RX6 4 "crash" (some .int)) {res : (Int32 × Wd)} : ∀ (o : Nat) (x1 : Int32) (x2 : Int32) (w : Wd), BW l D aC b0 p e rX6_crash s m args below meth c (Qe D aC b0 below args s 0 0 (some (.int res.1)) res.2) res 0 0 0 0 (f_X6_crash_67 o x1 x2 w) w 67 4 [(0, va_rf (some o)), (1, .int x1), (2, .int x2)] [] := by
  intro o x1 x2 w H locs cells slots ls hf M hS hc hs hl
  unfold f_X6_crash_67 at hf
  refine q_aload_n X dX6_crash_67 rfl (lv_at hl 0 rfl) ?_
  have ho := gR_e hf
  clear hf
  obtain ⟨a67, v68, e69, k70, q71, hf⟩ := ho
  cases e69
  refine q_get X M flX6_142.g k70 (congrArg va_rf q71) dX6_crash_68 ?_
  refine lv_iload_n X.1 X.2.1 dX6_crash_71 rfl (lv_at hl 1 rfl) ?_
  refine lv_iconst (v := 0) X.1 X.2.1 dX6_crash_72 (by decide) ?_
  have ho := tI_e hf
  clear hf
  obtain ⟨a72, w73, e74, k75, i76, q77, hf⟩ := ho
  cases e74
  refine q_iast X M hS k75 i76 dX6_crash_73 (fun H locs M hS => ?_)
  rw [q77] at M
  refine q_aload_n X dX6_crash_74 rfl (lv_at hl 0 rfl) ?_
  refine lv_dup X.1 X.2.1 dX6_crash_75 rfl ?_
  have ho := gI_e hf
  clear hf
  obtain ⟨a78, v79, e80, k81, q82, hf⟩ := ho
  cases e80
  refine q_get X M flX6_165.g k81 (congrArg Value.int q82) dX6_crash_76 ?_
  refine lv_iload_n X.1 X.2.1 dX6_crash_79 rfl (lv_at hl 2 rfl) ?_
  refine lv_iadd X.1 X.2.1 dX6_crash_80 ?_
  have ho := pI_e hf
  clear hf
  obtain ⟨a83, w84, e85, k86, q87, hf⟩ := ho
  cases e85
  refine q_putI X M hS flX6_165 (Or.inl rfl) k86 dX6_crash_81 (fun H locs M hS => ?_)
  rw [q87] at M
  refine lv_iload_n X.1 X.2.1 dX6_crash_84 rfl (lv_at hl 2 rfl) ?_
  obtain rfl := Option.some.inj hf
  exact q_iret X M hS (by omega) (by omega) dX6_crash_85
def f_X6_crash (o : Nat) (x1 : Int32) (w : Wd) : Option (Int32 × Wd) := chk w (some o) 7 (fun a4 => bnd (f_X6_isServer a4 x1 w) (fun v1 w2 => if v1 = 0 then (some ((-1), w2)) else (gR w2 (some o) 7 28 (fun v9 => aI w2 v9 102 x1 (fun v14 => if v14 = 0 then (some ((-3), w2)) else (gR w2 (some o) 7 28 (fun v21 => tZ w2 v21 102 x1 0 (fun w26 => gR w26 (some o) 7 52 (fun v33 => aI w26 v33 100 x1 (fun v38 => (f_X6_crash_38 (f_X6_crash_67) FU) o x1 v38 0 w26))))))))))
set_option maxHeartbeats 4000000 in
set_option maxRecDepth 100000 in
theorem e_X6_crash {l : Launch} {D : va_G} {aC : Nat → ClassId} {b0 : Nat} {p : Program} {e : Env} {s : State} {m : MethodId} {args : Array Value} {below : List Frame} {meth : Method} {c : Code} (X : Cx D aC p s m args meth c cX6_crash RX6 4 "crash" (some .int)) {res : (Int32 × Wd)} (o : Nat) (x1 : Int32) (w : Wd) : BW l D aC b0 p e rX6_crash s m args below meth c (Qe D aC b0 below args s 0 0 (some (.int res.1)) res.2) res 0 0 0 0 (f_X6_crash o x1 w) w 0 4 [(0, va_rf (some o)), (1, .int x1)] [] := by
  intro H locs cells slots ls hf M hS hc hs hl
  unfold f_X6_crash at hf
  refine q_aload_n X dX6_crash_0 rfl (lv_at hl 0 rfl) ?_
  refine lv_iload_n X.1 X.2.1 dX6_crash_1 rfl (lv_at hl 1 rfl) ?_
  have ho := chk_e hf
  clear hf
  obtain ⟨a4, e5, k6, hf⟩ := ho
  cases e5
  have ho := bnd_e hf
  clear hf
  obtain ⟨v1, w2, q3, hf⟩ := ho
  refine q_cV X M hS hl.1 (ci := 6) (r := (RX6, TX6, 53)) (As := [.int x1]) (m_X6_isServer o x1 _ _ q3) mlX6_201 gm_302 gm_303 rfl (by decide) k6 rfl ⟨(Nat.le_of_ble_eq_true rfl), (Nat.le_of_ble_eq_true rfl)⟩ (rest := []) rfl (Nat.le_of_ble_eq_true rfl) (mc := 0) (ms := 0) (MC := 0) (MS := 0) rfl rfl rfl rfl (by omega) (by omega) dX6_crash_2 (st2 := [.int v1]) rfl (fun H locs M hS => ?_)
  refine lv_if_ne (tgt := 10) X.1 X.2.1 dX6_crash_5 (by decide) (fun c7 => ?_) (fun c7 => ?_)
  · rw [if_neg c7] at hf
    refine q_aload_n X dX6_crash_10 rfl (lv_at hl 0 rfl) ?_
    have ho := gR_e hf
    clear hf
    obtain ⟨a8, v9, e10, k11, q12, hf⟩ := ho
    cases e10
    refine q_get X M flX6_74.g k11 (congrArg va_rf q12) dX6_crash_11 ?_
    refine lv_iload_n X.1 X.2.1 dX6_crash_14 rfl (lv_at hl 1 rfl) ?_
    have ho := aI_e hf
    clear hf
    obtain ⟨a13, v14, e15, k16, i17, q18, hf⟩ := ho
    cases e15
    refine q_zald X M k16 i17 dX6_crash_15 ?_
    rw [q18]
    refine lv_if_ne (tgt := 22) X.1 X.2.1 dX6_crash_16 (by decide) (fun c19 => ?_) (fun c19 => ?_)
    · rw [if_neg c19] at hf
      refine q_aload_n X dX6_crash_22 rfl (lv_at hl 0 rfl) ?_
      have ho := gR_e hf
      clear hf
      obtain ⟨a20, v21, e22, k23, q24, hf⟩ := ho
      cases e22
      refine q_get X M flX6_74.g k23 (congrArg va_rf q24) dX6_crash_23 ?_
      refine lv_iload_n X.1 X.2.1 dX6_crash_26 rfl (lv_at hl 1 rfl) ?_
      refine lv_iconst (v := 0) X.1 X.2.1 dX6_crash_27 (by decide) ?_
      have ho := tZ_e hf
      clear hf
      obtain ⟨a25, w26, e27, k28, i29, z31, q30, hf⟩ := ho
      cases e27
      refine q_zast X M hS k28 z31 i29 dX6_crash_28 (fun H locs M hS => ?_)
      rw [q30] at M
      refine q_aload_n X dX6_crash_29 rfl (lv_at hl 0 rfl) ?_
      have ho := gR_e hf
      clear hf
      obtain ⟨a32, v33, e34, k35, q36, hf⟩ := ho
      cases e34
      refine q_get X M flX6_142.g k35 (congrArg va_rf q36) dX6_crash_30 ?_
      refine lv_iload_n X.1 X.2.1 dX6_crash_33 rfl (lv_at hl 1 rfl) ?_
      have ho := aI_e hf
      clear hf
      obtain ⟨a37, v38, e39, k40, i41, q42, hf⟩ := ho
      cases e39
      refine q_iald X M k40 i41 dX6_crash_34 ?_
      rw [q42]
      refine lv_istore_n (i := 2) (lv' := [(2, .int v38), (0, va_rf (some o)), (1, .int x1)]) X.1 X.2.1 dX6_crash_35 rfl hl (by decide) rfl (fun ls hl => ?_)
      refine lv_iconst (v := 0) X.1 X.2.1 dX6_crash_36 (by decide) ?_
      refine lv_istore_n (i := 3) (lv' := [(3, .int 0), (2, .int v38), (0, va_rf (some o)), (1, .int x1)]) X.1 X.2.1 dX6_crash_37 rfl hl (by decide) rfl (fun ls hl => ?_)
      exact (b_X6_crash_38 X (b_X6_crash_67 X) FU) o x1 v38 0 w26 _ _ _ _ _ hf M hS (by omega) (by omega) (lv_sub hl [2, 3, 1, 0] rfl)
    · rw [if_pos c19] at hf
      refine lv_bipush (v := (-3)) X.1 X.2.1 dX6_crash_19 (by decide) ?_
      obtain rfl := Option.some.inj hf
      exact q_iret X M hS (by omega) (by omega) dX6_crash_21
  · rw [if_pos c7] at hf
    refine lv_iconst (v := (-1)) X.1 X.2.1 dX6_crash_8 (by decide) ?_
    obtain rfl := Option.some.inj hf
    exact q_iret X M hS (by omega) (by omega) dX6_crash_9
theorem m_X6_crash {l : Launch} {D : va_G} {aC : Nat → ClassId} {b0 : Nat} {w : Wd} (o : Nat) (x1 : Int32) (v : Int32) (w' : Wd) (hf : f_X6_crash o x1 w = some (v, w')) : Ct l D aC b0 yX6_crash (Cond.code yX6_crash cX6_crash 4 (some .int) :: Gw) rX6_crash [va_rf (some o), .int x1] w (some (.int v)) w' :=
  q_met (by decide) (Nat.le_of_ble_eq_true rfl) (fun p e s m below meth c X M ls hl => e_X6_crash X (res := (v, w')) o x1 w s.heap [] 0 0 ls hf M va_S.rf (by decide) (by decide) hl)
abbrev rX6_start : Room := { frames := 2, cells := 0, slots := 0, locals := 43 }
def f_X6_start (o : Nat) (x1 : Int32) (w : Wd) : Option (Int32 × Wd) := chk w (some o) 7 (fun a4 => bnd (f_X6_isServer a4 x1 w) (fun v1 w2 => if v1 = 0 then (some ((-1), w2)) else (gR w2 (some o) 7 28 (fun v9 => aI w2 v9 102 x1 (fun v14 => if v14 = 0 then (gR w2 (some o) 7 28 (fun v21 => tZ w2 v21 102 x1 1 (fun w26 => chk w26 (some o) 7 (fun a35 => bnd (f_X6_copy a35 ((2 * x1) + 1) (2 * x1) w26) (fun v32 w33 => gR w33 (some o) 7 29 (fun v39 => tZ w33 v39 102 x1 0 (fun w44 => some (1, w44)))))))) else (some ((-3), w2)))))))
set_option maxHeartbeats 4000000 in
set_option maxRecDepth 100000 in
theorem e_X6_start {l : Launch} {D : va_G} {aC : Nat → ClassId} {b0 : Nat} {p : Program} {e : Env} {s : State} {m : MethodId} {args : Array Value} {below : List Frame} {meth : Method} {c : Code} (X : Cx D aC p s m args meth c cX6_start RX6 2 "start" (some .int)) {res : (Int32 × Wd)} (o : Nat) (x1 : Int32) (w : Wd) : BW l D aC b0 p e rX6_start s m args below meth c (Qe D aC b0 below args s 0 0 (some (.int res.1)) res.2) res 0 0 0 0 (f_X6_start o x1 w) w 0 2 [(0, va_rf (some o)), (1, .int x1)] [] := by
  intro H locs cells slots ls hf M hS hc hs hl
  unfold f_X6_start at hf
  refine q_aload_n X dX6_start_0 rfl (lv_at hl 0 rfl) ?_
  refine lv_iload_n X.1 X.2.1 dX6_start_1 rfl (lv_at hl 1 rfl) ?_
  have ho := chk_e hf
  clear hf
  obtain ⟨a4, e5, k6, hf⟩ := ho
  cases e5
  have ho := bnd_e hf
  clear hf
  obtain ⟨v1, w2, q3, hf⟩ := ho
  refine q_cV X M hS hl.1 (ci := 6) (r := (RX6, TX6, 53)) (As := [.int x1]) (m_X6_isServer o x1 _ _ q3) mlX6_201 gm_302 gm_303 rfl (by decide) k6 rfl ⟨(Nat.le_of_ble_eq_true rfl), (Nat.le_of_ble_eq_true rfl)⟩ (rest := []) rfl (Nat.le_of_ble_eq_true rfl) (mc := 0) (ms := 0) (MC := 0) (MS := 0) rfl rfl rfl rfl (by omega) (by omega) dX6_start_2 (st2 := [.int v1]) rfl (fun H locs M hS => ?_)
  refine lv_if_ne (tgt := 10) X.1 X.2.1 dX6_start_5 (by decide) (fun c7 => ?_) (fun c7 => ?_)
  · rw [if_neg c7] at hf
    refine q_aload_n X dX6_start_10 rfl (lv_at hl 0 rfl) ?_
    have ho := gR_e hf
    clear hf
    obtain ⟨a8, v9, e10, k11, q12, hf⟩ := ho
    cases e10
    refine q_get X M flX6_74.g k11 (congrArg va_rf q12) dX6_start_11 ?_
    refine lv_iload_n X.1 X.2.1 dX6_start_14 rfl (lv_at hl 1 rfl) ?_
    have ho := aI_e hf
    clear hf
    obtain ⟨a13, v14, e15, k16, i17, q18, hf⟩ := ho
    cases e15
    refine q_zald X M k16 i17 dX6_start_15 ?_
    rw [q18]
    refine lv_if_eq (tgt := 22) X.1 X.2.1 dX6_start_16 (by decide) (fun c19 => ?_) (fun c19 => ?_)
    · rw [if_pos c19] at hf
      refine q_aload_n X dX6_start_22 rfl (lv_at hl 0 rfl) ?_
      have ho := gR_e hf
      clear hf
      obtain ⟨a20, v21, e22, k23, q24, hf⟩ := ho
      cases e22
      refine q_get X M flX6_74.g k23 (congrArg va_rf q24) dX6_start_23 ?_
      refine lv_iload_n X.1 X.2.1 dX6_start_26 rfl (lv_at hl 1 rfl) ?_
      refine lv_iconst (v := 1) X.1 X.2.1 dX6_start_27 (by decide) ?_
      have ho := tZ_e hf
      clear hf
      obtain ⟨a25, w26, e27, k28, i29, z31, q30, hf⟩ := ho
      cases e27
      refine q_zast X M hS k28 z31 i29 dX6_start_28 (fun H locs M hS => ?_)
      rw [q30] at M
      refine q_aload_n X dX6_start_29 rfl (lv_at hl 0 rfl) ?_
      refine lv_iconst (v := 2) X.1 X.2.1 dX6_start_30 (by decide) ?_
      refine lv_iload_n X.1 X.2.1 dX6_start_31 rfl (lv_at hl 1 rfl) ?_
      refine lv_imul X.1 X.2.1 dX6_start_32 ?_
      refine lv_iconst (v := 1) X.1 X.2.1 dX6_start_33 (by decide) ?_
      refine lv_iadd X.1 X.2.1 dX6_start_34 ?_
      refine lv_iconst (v := 2) X.1 X.2.1 dX6_start_35 (by decide) ?_
      refine lv_iload_n X.1 X.2.1 dX6_start_36 rfl (lv_at hl 1 rfl) ?_
      refine lv_imul X.1 X.2.1 dX6_start_37 ?_
      have ho := chk_e hf
      clear hf
      obtain ⟨a35, e36, k37, hf⟩ := ho
      cases e36
      have ho := bnd_e hf
      clear hf
      obtain ⟨v32, w33, q34, hf⟩ := ho
      refine q_cV X M hS hl.1 (ci := 6) (r := (RX6, TX6, 53)) (As := [.int ((2 * x1) + 1), .int (2 * x1)]) (m_X6_copy o ((2 * x1) + 1) (2 * x1) _ _ q34) mlX6_243 gm_512 gm_513 rfl (by decide) k37 rfl ⟨(Nat.le_of_ble_eq_true rfl), (Nat.le_of_ble_eq_true rfl)⟩ (rest := []) rfl (Nat.le_of_ble_eq_true rfl) (mc := 0) (ms := 0) (MC := 0) (MS := 0) rfl rfl rfl rfl (by omega) (by omega) dX6_start_38 (st2 := []) rfl (fun H locs M hS => ?_)
      refine q_aload_n X dX6_start_41 rfl (lv_at hl 0 rfl) ?_
      have ho := gR_e hf
      clear hf
      obtain ⟨a38, v39, e40, k41, q42, hf⟩ := ho
      cases e40
      refine q_get X M flX6_78.g k41 (congrArg va_rf q42) dX6_start_42 ?_
      refine lv_iload_n X.1 X.2.1 dX6_start_45 rfl (lv_at hl 1 rfl) ?_
      refine lv_iconst (v := 0) X.1 X.2.1 dX6_start_46 (by decide) ?_
      have ho := tZ_e hf
      clear hf
      obtain ⟨a43, w44, e45, k46, i47, z49, q48, hf⟩ := ho
      cases e45
      refine q_zast X M hS k46 z49 i47 dX6_start_47 (fun H locs M hS => ?_)
      rw [q48] at M
      refine lv_iconst (v := 1) X.1 X.2.1 dX6_start_48 (by decide) ?_
      obtain rfl := Option.some.inj hf
      exact q_iret X M hS (by omega) (by omega) dX6_start_49
    · rw [if_neg c19] at hf
      refine lv_bipush (v := (-3)) X.1 X.2.1 dX6_start_19 (by decide) ?_
      obtain rfl := Option.some.inj hf
      exact q_iret X M hS (by omega) (by omega) dX6_start_21
  · rw [if_pos c7] at hf
    refine lv_iconst (v := (-1)) X.1 X.2.1 dX6_start_8 (by decide) ?_
    obtain rfl := Option.some.inj hf
    exact q_iret X M hS (by omega) (by omega) dX6_start_9
theorem m_X6_start {l : Launch} {D : va_G} {aC : Nat → ClassId} {b0 : Nat} {w : Wd} (o : Nat) (x1 : Int32) (v : Int32) (w' : Wd) (hf : f_X6_start o x1 w = some (v, w')) : Ct l D aC b0 yX6_start (Cond.code yX6_start cX6_start 2 (some .int) :: Gw) rX6_start [va_rf (some o), .int x1] w (some (.int v)) w' :=
  q_met (by decide) (Nat.le_of_ble_eq_true rfl) (fun p e s m below meth c X M ls hl => e_X6_start X (res := (v, w')) o x1 w s.heap [] 0 0 ls hf M va_S.rf (by decide) (by decide) hl)
abbrev rX6_move : Room := { frames := 2, cells := 0, slots := 0, locals := 43 }
def f_X6_move_177 (K213 : Nat → Int32 → Int32 → Int32 → Wd → Option (Int32 × Wd)) : Nat → Nat → Int32 → Int32 → Int32 → Int32 → Wd → Option (Int32 × Wd)
  | 0, _, _, _, _, _, _ => none
  | n + 1, o, x1, x4, x5, x6, w => if 4 ≤ x6 then (K213 o x1 x4 x5 w) else (gR w (some o) 7 41 (fun v142 => gR w (some o) 7 20 (fun v147 => aL w v147 101 ((4 * x4) + x6) (fun v152 => tL w v142 101 ((4 * x5) + x6) v152 (fun w158 => (f_X6_move_177 K213 n) o x1 x4 x5 (x6 + 1) w158)))))
set_option maxHeartbeats 4000000 in
set_option maxRecDepth 100000 in
theorem b_X6_move_177 {l : Launch} {D : va_G} {aC : Nat → ClassId} {b0 : Nat} {p : Program} {e : Env} {s : State} {m : MethodId} {args : Array Value} {below : List Frame} {meth : Method} {c : Code} (X : Cx D aC p s m args meth c cX6_move RX6 7 "move" (some .int)) {res : (Int32 × Wd)} {K213 : Nat → Int32 → Int32 → Int32 → Wd → Option (Int32 × Wd)} (hK213 : ∀ (o : Nat) (x1 : Int32) (x4 : Int32) (x5 : Int32) (w : Wd), BW l D aC b0 p e rX6_move s m args below meth c (Qe D aC b0 below args s 0 0 (some (.int res.1)) res.2) res 0 0 0 0 (K213 o x1 x4 x5 w) w 213 7 [(0, va_rf (some o)), (1, .int x1), (4, .int x4), (5, .int x5)] []) : ∀ (n : Nat) (o : Nat) (x1 : Int32) (x4 : Int32) (x5 : Int32) (x6 : Int32) (w : Wd), BW l D aC b0 p e rX6_move s m args below meth c (Qe D aC b0 below args s 0 0 (some (.int res.1)) res.2) res 0 0 0 0 (f_X6_move_177 K213 n o x1 x4 x5 x6 w) w 177 7 [(0, va_rf (some o)), (1, .int x1), (4, .int x4), (5, .int x5), (6, .int x6)] [] := by
  intro n
  induction n with
  | zero =>
    intro o x1 x4 x5 x6 w H locs cells slots ls hf
    rw [f_X6_move_177.eq_1] at hf
    cases hf
  | succ n ih =>
    intro o x1 x4 x5 x6 w H locs cells slots ls hf M hS hc hs hl
    rw [f_X6_move_177.eq_2] at hf
    refine lv_iload X.1 X.2.1 dX6_move_177 (lv_at hl 4 rfl) ?_
    refine lv_iconst (v := 4) X.1 X.2.1 dX6_move_179 (by decide) ?_
    refine lv_icmp_ge (tgt := 213) X.1 X.2.1 dX6_move_180 (by decide) (fun c140 => ?_) (fun c140 => ?_)
    · rw [if_pos c140] at hf
      exact hK213 o x1 x4 x5 w _ _ _ _ _ hf M hS (by omega) (by omega) (lv_sub hl [0, 1, 2, 3] rfl)
    · rw [if_neg c140] at hf
      refine q_aload_n X dX6_move_183 rfl (lv_at hl 0 rfl) ?_
      have ho := gR_e hf
      clear hf
      obtain ⟨a141, v142, e143, k144, q145, hf⟩ := ho
      cases e143
      refine q_get X M flX6_114.g k144 (congrArg va_rf q145) dX6_move_184 ?_
      refine lv_iconst (v := 4) X.1 X.2.1 dX6_move_187 (by decide) ?_
      refine lv_iload X.1 X.2.1 dX6_move_188 (lv_at hl 3 rfl) ?_
      refine lv_imul X.1 X.2.1 dX6_move_190 ?_
      refine lv_iload X.1 X.2.1 dX6_move_191 (lv_at hl 4 rfl) ?_
      refine lv_iadd X.1 X.2.1 dX6_move_193 ?_
      refine q_aload_n X dX6_move_194 rfl (lv_at hl 0 rfl) ?_
      have ho := gR_e hf
      clear hf
      obtain ⟨a146, v147, e148, k149, q150, hf⟩ := ho
      cases e148
      refine q_get X M flX6_50.g k149 (congrArg va_rf q150) dX6_move_195 ?_
      refine lv_iconst (v := 4) X.1 X.2.1 dX6_move_198 (by decide) ?_
      refine lv_iload X.1 X.2.1 dX6_move_199 (lv_at hl 2 rfl) ?_
      refine lv_imul X.1 X.2.1 dX6_move_201 ?_
      refine lv_iload X.1 X.2.1 dX6_move_202 (lv_at hl 4 rfl) ?_
      refine lv_iadd X.1 X.2.1 dX6_move_204 ?_
      have ho := aL_e hf
      clear hf
      obtain ⟨a151, v152, e153, k154, i155, q156, hf⟩ := ho
      cases e153
      refine q_lald X M k154 i155 dX6_move_205 ?_
      rw [q156]
      have ho := tL_e hf
      clear hf
      obtain ⟨a157, w158, e159, k160, i161, q162, hf⟩ := ho
      cases e159
      refine q_last X M hS k160 i161 dX6_move_206 (fun H locs M hS => ?_)
      rw [q162] at M
      refine lv_iinc (v := (x6 + 1)) (lv' := [(6, .int (x6 + 1)), (0, va_rf (some o)), (1, .int x1), (4, .int x4), (5, .int x5)]) X.1 X.2.1 dX6_move_207 hl (k := 4) rfl rfl (by decide) rfl (fun ls hl => ?_)
      refine lv_goto (tgt := 177) X.1 X.2.1 dX6_move_210 (by decide) ?_
      exact ih o x1 x4 x5 (x6 + 1) w158 _ _ _ _ _ hf M hS (by omega) (by omega) (lv_sub hl [1, 2, 3, 4, 0] rfl)
def f_X6_move_216 (K338 : Nat → Int32 → Int32 → Int32 → Wd → Option (Int32 × Wd)) : Nat → Nat → Int32 → Int32 → Int32 → Int32 → Wd → Option (Int32 × Wd)
  | 0, _, _, _, _, _, _ => none
  | n + 1, o, x1, x4, x5, x6, w => gR w (some o) 7 21 (fun v164 => aI w v164 100 x4 (fun v169 => if v169 ≤ x6 then (K338 o x1 x4 x5 w) else (gR w (some o) 7 42 (fun v176 => gR w (some o) 7 22 (fun v181 => aI w v181 100 ((12 * x4) + x6) (fun v186 => tI w v176 100 ((12 * x5) + x6) v186 (fun w192 => gR w192 (some o) 7 43 (fun v198 => gR w192 (some o) 7 23 (fun v203 => aI w192 v203 100 ((12 * x4) + x6) (fun v208 => tI w192 v198 100 ((12 * x5) + x6) v208 (fun w214 => gR w214 (some o) 7 44 (fun v220 => gR w214 (some o) 7 24 (fun v225 => aI w214 v225 100 ((12 * x4) + x6) (fun v230 => tI w214 v220 100 ((12 * x5) + x6) v230 (fun w236 => gR w236 (some o) 7 45 (fun v242 => gR w236 (some o) 7 25 (fun v247 => aL w236 v247 101 ((12 * x4) + x6) (fun v252 => tL w236 v242 101 ((12 * x5) + x6) v252 (fun w258 => (f_X6_move_216 K338 n) o x1 x4 x5 (x6 + 1) w258)))))))))))))))))))
set_option maxHeartbeats 4000000 in
set_option maxRecDepth 100000 in
theorem b_X6_move_216 {l : Launch} {D : va_G} {aC : Nat → ClassId} {b0 : Nat} {p : Program} {e : Env} {s : State} {m : MethodId} {args : Array Value} {below : List Frame} {meth : Method} {c : Code} (X : Cx D aC p s m args meth c cX6_move RX6 7 "move" (some .int)) {res : (Int32 × Wd)} {K338 : Nat → Int32 → Int32 → Int32 → Wd → Option (Int32 × Wd)} (hK338 : ∀ (o : Nat) (x1 : Int32) (x4 : Int32) (x5 : Int32) (w : Wd), BW l D aC b0 p e rX6_move s m args below meth c (Qe D aC b0 below args s 0 0 (some (.int res.1)) res.2) res 0 0 0 0 (K338 o x1 x4 x5 w) w 338 7 [(0, va_rf (some o)), (1, .int x1), (4, .int x4), (5, .int x5)] []) : ∀ (n : Nat) (o : Nat) (x1 : Int32) (x4 : Int32) (x5 : Int32) (x6 : Int32) (w : Wd), BW l D aC b0 p e rX6_move s m args below meth c (Qe D aC b0 below args s 0 0 (some (.int res.1)) res.2) res 0 0 0 0 (f_X6_move_216 K338 n o x1 x4 x5 x6 w) w 216 7 [(0, va_rf (some o)), (1, .int x1), (4, .int x4), (5, .int x5), (6, .int x6)] [] := by
  intro n
  induction n with
  | zero =>
    intro o x1 x4 x5 x6 w H locs cells slots ls hf
    rw [f_X6_move_216.eq_1] at hf
    cases hf
  | succ n ih =>
    intro o x1 x4 x5 x6 w H locs cells slots ls hf M hS hc hs hl
    rw [f_X6_move_216.eq_2] at hf
    refine lv_iload X.1 X.2.1 dX6_move_216 (lv_at hl 4 rfl) ?_
    refine q_aload_n X dX6_move_218 rfl (lv_at hl 0 rfl) ?_
    have ho := gR_e hf
    clear hf
    obtain ⟨a163, v164, e165, k166, q167, hf⟩ := ho
    cases e165
    refine q_get X M flX6_53.g k166 (congrArg va_rf q167) dX6_move_219 ?_
    refine lv_iload X.1 X.2.1 dX6_move_222 (lv_at hl 2 rfl) ?_
    have ho := aI_e hf
    clear hf
    obtain ⟨a168, v169, e170, k171, i172, q173, hf⟩ := ho
    cases e170
    refine q_iald X M k171 i172 dX6_move_224 ?_
    rw [q173]
    refine lv_icmp_ge (tgt := 338) X.1 X.2.1 dX6_move_225 (by decide) (fun c174 => ?_) (fun c174 => ?_)
    · rw [if_pos c174] at hf
      exact hK338 o x1 x4 x5 w _ _ _ _ _ hf M hS (by omega) (by omega) (lv_sub hl [0, 1, 2, 3] rfl)
    · rw [if_neg c174] at hf
      refine q_aload_n X dX6_move_228 rfl (lv_at hl 0 rfl) ?_
      have ho := gR_e hf
      clear hf
      obtain ⟨a175, v176, e177, k178, q179, hf⟩ := ho
      cases e177
      refine q_get X M flX6_118.g k178 (congrArg va_rf q179) dX6_move_229 ?_
      refine lv_bipush (v := 12) X.1 X.2.1 dX6_move_232 (by decide) ?_
      refine lv_iload X.1 X.2.1 dX6_move_234 (lv_at hl 3 rfl) ?_
      refine lv_imul X.1 X.2.1 dX6_move_236 ?_
      refine lv_iload X.1 X.2.1 dX6_move_237 (lv_at hl 4 rfl) ?_
      refine lv_iadd X.1 X.2.1 dX6_move_239 ?_
      refine q_aload_n X dX6_move_240 rfl (lv_at hl 0 rfl) ?_
      have ho := gR_e hf
      clear hf
      obtain ⟨a180, v181, e182, k183, q184, hf⟩ := ho
      cases e182
      refine q_get X M flX6_56.g k183 (congrArg va_rf q184) dX6_move_241 ?_
      refine lv_bipush (v := 12) X.1 X.2.1 dX6_move_244 (by decide) ?_
      refine lv_iload X.1 X.2.1 dX6_move_246 (lv_at hl 2 rfl) ?_
      refine lv_imul X.1 X.2.1 dX6_move_248 ?_
      refine lv_iload X.1 X.2.1 dX6_move_249 (lv_at hl 4 rfl) ?_
      refine lv_iadd X.1 X.2.1 dX6_move_251 ?_
      have ho := aI_e hf
      clear hf
      obtain ⟨a185, v186, e187, k188, i189, q190, hf⟩ := ho
      cases e187
      refine q_iald X M k188 i189 dX6_move_252 ?_
      rw [q190]
      have ho := tI_e hf
      clear hf
      obtain ⟨a191, w192, e193, k194, i195, q196, hf⟩ := ho
      cases e193
      refine q_iast X M hS k194 i195 dX6_move_253 (fun H locs M hS => ?_)
      rw [q196] at M
      refine q_aload_n X dX6_move_254 rfl (lv_at hl 0 rfl) ?_
      have ho := gR_e hf
      clear hf
      obtain ⟨a197, v198, e199, k200, q201, hf⟩ := ho
      cases e199
      refine q_get X M flX6_121.g k200 (congrArg va_rf q201) dX6_move_255 ?_
      refine lv_bipush (v := 12) X.1 X.2.1 dX6_move_258 (by decide) ?_
      refine lv_iload X.1 X.2.1 dX6_move_260 (lv_at hl 3 rfl) ?_
      refine lv_imul X.1 X.2.1 dX6_move_262 ?_
      refine lv_iload X.1 X.2.1 dX6_move_263 (lv_at hl 4 rfl) ?_
      refine lv_iadd X.1 X.2.1 dX6_move_265 ?_
      refine q_aload_n X dX6_move_266 rfl (lv_at hl 0 rfl) ?_
      have ho := gR_e hf
      clear hf
      obtain ⟨a202, v203, e204, k205, q206, hf⟩ := ho
      cases e204
      refine q_get X M flX6_59.g k205 (congrArg va_rf q206) dX6_move_267 ?_
      refine lv_bipush (v := 12) X.1 X.2.1 dX6_move_270 (by decide) ?_
      refine lv_iload X.1 X.2.1 dX6_move_272 (lv_at hl 2 rfl) ?_
      refine lv_imul X.1 X.2.1 dX6_move_274 ?_
      refine lv_iload X.1 X.2.1 dX6_move_275 (lv_at hl 4 rfl) ?_
      refine lv_iadd X.1 X.2.1 dX6_move_277 ?_
      have ho := aI_e hf
      clear hf
      obtain ⟨a207, v208, e209, k210, i211, q212, hf⟩ := ho
      cases e209
      refine q_iald X M k210 i211 dX6_move_278 ?_
      rw [q212]
      have ho := tI_e hf
      clear hf
      obtain ⟨a213, w214, e215, k216, i217, q218, hf⟩ := ho
      cases e215
      refine q_iast X M hS k216 i217 dX6_move_279 (fun H locs M hS => ?_)
      rw [q218] at M
      refine q_aload_n X dX6_move_280 rfl (lv_at hl 0 rfl) ?_
      have ho := gR_e hf
      clear hf
      obtain ⟨a219, v220, e221, k222, q223, hf⟩ := ho
      cases e221
      refine q_get X M flX6_124.g k222 (congrArg va_rf q223) dX6_move_281 ?_
      refine lv_bipush (v := 12) X.1 X.2.1 dX6_move_284 (by decide) ?_
      refine lv_iload X.1 X.2.1 dX6_move_286 (lv_at hl 3 rfl) ?_
      refine lv_imul X.1 X.2.1 dX6_move_288 ?_
      refine lv_iload X.1 X.2.1 dX6_move_289 (lv_at hl 4 rfl) ?_
      refine lv_iadd X.1 X.2.1 dX6_move_291 ?_
      refine q_aload_n X dX6_move_292 rfl (lv_at hl 0 rfl) ?_
      have ho := gR_e hf
      clear hf
      obtain ⟨a224, v225, e226, k227, q228, hf⟩ := ho
      cases e226
      refine q_get X M flX6_62.g k227 (congrArg va_rf q228) dX6_move_293 ?_
      refine lv_bipush (v := 12) X.1 X.2.1 dX6_move_296 (by decide) ?_
      refine lv_iload X.1 X.2.1 dX6_move_298 (lv_at hl 2 rfl) ?_
      refine lv_imul X.1 X.2.1 dX6_move_300 ?_
      refine lv_iload X.1 X.2.1 dX6_move_301 (lv_at hl 4 rfl) ?_
      refine lv_iadd X.1 X.2.1 dX6_move_303 ?_
      have ho := aI_e hf
      clear hf
      obtain ⟨a229, v230, e231, k232, i233, q234, hf⟩ := ho
      cases e231
      refine q_iald X M k232 i233 dX6_move_304 ?_
      rw [q234]
      have ho := tI_e hf
      clear hf
      obtain ⟨a235, w236, e237, k238, i239, q240, hf⟩ := ho
      cases e237
      refine q_iast X M hS k238 i239 dX6_move_305 (fun H locs M hS => ?_)
      rw [q240] at M
      refine q_aload_n X dX6_move_306 rfl (lv_at hl 0 rfl) ?_
      have ho := gR_e hf
      clear hf
      obtain ⟨a241, v242, e243, k244, q245, hf⟩ := ho
      cases e243
      refine q_get X M flX6_127.g k244 (congrArg va_rf q245) dX6_move_307 ?_
      refine lv_bipush (v := 12) X.1 X.2.1 dX6_move_310 (by decide) ?_
      refine lv_iload X.1 X.2.1 dX6_move_312 (lv_at hl 3 rfl) ?_
      refine lv_imul X.1 X.2.1 dX6_move_314 ?_
      refine lv_iload X.1 X.2.1 dX6_move_315 (lv_at hl 4 rfl) ?_
      refine lv_iadd X.1 X.2.1 dX6_move_317 ?_
      refine q_aload_n X dX6_move_318 rfl (lv_at hl 0 rfl) ?_
      have ho := gR_e hf
      clear hf
      obtain ⟨a246, v247, e248, k249, q250, hf⟩ := ho
      cases e248
      refine q_get X M flX6_65.g k249 (congrArg va_rf q250) dX6_move_319 ?_
      refine lv_bipush (v := 12) X.1 X.2.1 dX6_move_322 (by decide) ?_
      refine lv_iload X.1 X.2.1 dX6_move_324 (lv_at hl 2 rfl) ?_
      refine lv_imul X.1 X.2.1 dX6_move_326 ?_
      refine lv_iload X.1 X.2.1 dX6_move_327 (lv_at hl 4 rfl) ?_
      refine lv_iadd X.1 X.2.1 dX6_move_329 ?_
      have ho := aL_e hf
      clear hf
      obtain ⟨a251, v252, e253, k254, i255, q256, hf⟩ := ho
      cases e253
      refine q_lald X M k254 i255 dX6_move_330 ?_
      rw [q256]
      have ho := tL_e hf
      clear hf
      obtain ⟨a257, w258, e259, k260, i261, q262, hf⟩ := ho
      cases e259
      refine q_last X M hS k260 i261 dX6_move_331 (fun H locs M hS => ?_)
      rw [q262] at M
      refine lv_iinc (v := (x6 + 1)) (lv' := [(6, .int (x6 + 1)), (0, va_rf (some o)), (1, .int x1), (4, .int x4), (5, .int x5)]) X.1 X.2.1 dX6_move_332 hl (k := 4) rfl rfl (by decide) rfl (fun ls hl => ?_)
      refine lv_goto (tgt := 216) X.1 X.2.1 dX6_move_335 (by decide) ?_
      exact ih o x1 x4 x5 (x6 + 1) w258 _ _ _ _ _ hf M hS (by omega) (by omega) (lv_sub hl [1, 2, 3, 4, 0] rfl)
def f_X6_move_341 (K406 : Nat → Int32 → Int32 → Int32 → Wd → Option (Int32 × Wd)) : Nat → Nat → Int32 → Int32 → Int32 → Int32 → Wd → Option (Int32 × Wd)
  | 0, _, _, _, _, _, _ => none
  | n + 1, o, x1, x4, x5, x6, w => if 6 ≤ x6 then (K406 o x1 x4 x5 w) else (gR w (some o) 7 46 (fun v265 => gR w (some o) 7 26 (fun v270 => aI w v270 100 ((6 * x4) + x6) (fun v275 => tI w v265 100 ((6 * x5) + x6) v275 (fun w281 => gR w281 (some o) 7 47 (fun v287 => gR w281 (some o) 7 27 (fun v292 => aI w281 v292 100 ((6 * x4) + x6) (fun v297 => tI w281 v287 100 ((6 * x5) + x6) v297 (fun w303 => (f_X6_move_341 K406 n) o x1 x4 x5 (x6 + 1) w303)))))))))
set_option maxHeartbeats 4000000 in
set_option maxRecDepth 100000 in
theorem b_X6_move_341 {l : Launch} {D : va_G} {aC : Nat → ClassId} {b0 : Nat} {p : Program} {e : Env} {s : State} {m : MethodId} {args : Array Value} {below : List Frame} {meth : Method} {c : Code} (X : Cx D aC p s m args meth c cX6_move RX6 7 "move" (some .int)) {res : (Int32 × Wd)} {K406 : Nat → Int32 → Int32 → Int32 → Wd → Option (Int32 × Wd)} (hK406 : ∀ (o : Nat) (x1 : Int32) (x4 : Int32) (x5 : Int32) (w : Wd), BW l D aC b0 p e rX6_move s m args below meth c (Qe D aC b0 below args s 0 0 (some (.int res.1)) res.2) res 0 0 0 0 (K406 o x1 x4 x5 w) w 406 7 [(0, va_rf (some o)), (1, .int x1), (4, .int x4), (5, .int x5)] []) : ∀ (n : Nat) (o : Nat) (x1 : Int32) (x4 : Int32) (x5 : Int32) (x6 : Int32) (w : Wd), BW l D aC b0 p e rX6_move s m args below meth c (Qe D aC b0 below args s 0 0 (some (.int res.1)) res.2) res 0 0 0 0 (f_X6_move_341 K406 n o x1 x4 x5 x6 w) w 341 7 [(0, va_rf (some o)), (1, .int x1), (4, .int x4), (5, .int x5), (6, .int x6)] [] := by
  intro n
  induction n with
  | zero =>
    intro o x1 x4 x5 x6 w H locs cells slots ls hf
    rw [f_X6_move_341.eq_1] at hf
    cases hf
  | succ n ih =>
    intro o x1 x4 x5 x6 w H locs cells slots ls hf M hS hc hs hl
    rw [f_X6_move_341.eq_2] at hf
    refine lv_iload X.1 X.2.1 dX6_move_341 (lv_at hl 4 rfl) ?_
    refine lv_bipush (v := 6) X.1 X.2.1 dX6_move_343 (by decide) ?_
    refine lv_icmp_ge (tgt := 406) X.1 X.2.1 dX6_move_345 (by decide) (fun c263 => ?_) (fun c263 => ?_)
    · rw [if_pos c263] at hf
      exact hK406 o x1 x4 x5 w _ _ _ _ _ hf M hS (by omega) (by omega) (lv_sub hl [0, 1, 2, 3] rfl)
    · rw [if_neg c263] at hf
      refine q_aload_n X dX6_move_348 rfl (lv_at hl 0 rfl) ?_
      have ho := gR_e hf
      clear hf
      obtain ⟨a264, v265, e266, k267, q268, hf⟩ := ho
      cases e266
      refine q_get X M flX6_130.g k267 (congrArg va_rf q268) dX6_move_349 ?_
      refine lv_bipush (v := 6) X.1 X.2.1 dX6_move_352 (by decide) ?_
      refine lv_iload X.1 X.2.1 dX6_move_354 (lv_at hl 3 rfl) ?_
      refine lv_imul X.1 X.2.1 dX6_move_356 ?_
      refine lv_iload X.1 X.2.1 dX6_move_357 (lv_at hl 4 rfl) ?_
      refine lv_iadd X.1 X.2.1 dX6_move_359 ?_
      refine q_aload_n X dX6_move_360 rfl (lv_at hl 0 rfl) ?_
      have ho := gR_e hf
      clear hf
      obtain ⟨a269, v270, e271, k272, q273, hf⟩ := ho
      cases e271
      refine q_get X M flX6_68.g k272 (congrArg va_rf q273) dX6_move_361 ?_
      refine lv_bipush (v := 6) X.1 X.2.1 dX6_move_364 (by decide) ?_
      refine lv_iload X.1 X.2.1 dX6_move_366 (lv_at hl 2 rfl) ?_
      refine lv_imul X.1 X.2.1 dX6_move_368 ?_
      refine lv_iload X.1 X.2.1 dX6_move_369 (lv_at hl 4 rfl) ?_
      refine lv_iadd X.1 X.2.1 dX6_move_371 ?_
      have ho := aI_e hf
      clear hf
      obtain ⟨a274, v275, e276, k277, i278, q279, hf⟩ := ho
      cases e276
      refine q_iald X M k277 i278 dX6_move_372 ?_
      rw [q279]
      have ho := tI_e hf
      clear hf
      obtain ⟨a280, w281, e282, k283, i284, q285, hf⟩ := ho
      cases e282
      refine q_iast X M hS k283 i284 dX6_move_373 (fun H locs M hS => ?_)
      rw [q285] at M
      refine q_aload_n X dX6_move_374 rfl (lv_at hl 0 rfl) ?_
      have ho := gR_e hf
      clear hf
      obtain ⟨a286, v287, e288, k289, q290, hf⟩ := ho
      cases e288
      refine q_get X M flX6_133.g k289 (congrArg va_rf q290) dX6_move_375 ?_
      refine lv_bipush (v := 6) X.1 X.2.1 dX6_move_378 (by decide) ?_
      refine lv_iload X.1 X.2.1 dX6_move_380 (lv_at hl 3 rfl) ?_
      refine lv_imul X.1 X.2.1 dX6_move_382 ?_
      refine lv_iload X.1 X.2.1 dX6_move_383 (lv_at hl 4 rfl) ?_
      refine lv_iadd X.1 X.2.1 dX6_move_385 ?_
      refine q_aload_n X dX6_move_386 rfl (lv_at hl 0 rfl) ?_
      have ho := gR_e hf
      clear hf
      obtain ⟨a291, v292, e293, k294, q295, hf⟩ := ho
      cases e293
      refine q_get X M flX6_71.g k294 (congrArg va_rf q295) dX6_move_387 ?_
      refine lv_bipush (v := 6) X.1 X.2.1 dX6_move_390 (by decide) ?_
      refine lv_iload X.1 X.2.1 dX6_move_392 (lv_at hl 2 rfl) ?_
      refine lv_imul X.1 X.2.1 dX6_move_394 ?_
      refine lv_iload X.1 X.2.1 dX6_move_395 (lv_at hl 4 rfl) ?_
      refine lv_iadd X.1 X.2.1 dX6_move_397 ?_
      have ho := aI_e hf
      clear hf
      obtain ⟨a296, v297, e298, k299, i300, q301, hf⟩ := ho
      cases e298
      refine q_iald X M k299 i300 dX6_move_398 ?_
      rw [q301]
      have ho := tI_e hf
      clear hf
      obtain ⟨a302, w303, e304, k305, i306, q307, hf⟩ := ho
      cases e304
      refine q_iast X M hS k305 i306 dX6_move_399 (fun H locs M hS => ?_)
      rw [q307] at M
      refine lv_iinc (v := (x6 + 1)) (lv' := [(6, .int (x6 + 1)), (0, va_rf (some o)), (1, .int x1), (4, .int x4), (5, .int x5)]) X.1 X.2.1 dX6_move_400 hl (k := 4) rfl rfl (by decide) rfl (fun ls hl => ?_)
      refine lv_goto (tgt := 341) X.1 X.2.1 dX6_move_403 (by decide) ?_
      exact ih o x1 x4 x5 (x6 + 1) w303 _ _ _ _ _ hf M hS (by omega) (by omega) (lv_sub hl [1, 2, 3, 4, 0] rfl)
def f_X6_move_406 (o : Nat) (x1 : Int32) (x4 : Int32) (x5 : Int32) (w : Wd) : Option (Int32 × Wd) := chk w (some o) 7 (fun a311 => bnd (f_X6_sendFrom a311 x1 x5 w) (fun v308 w309 => gR w309 (some o) 7 18 (fun v315 => aI w309 v315 100 x4 (fun v320 => some ((v320 + 1), w309)))))
set_option maxHeartbeats 4000000 in
set_option maxRecDepth 100000 in
theorem b_X6_move_406 {l : Launch} {D : va_G} {aC : Nat → ClassId} {b0 : Nat} {p : Program} {e : Env} {s : State} {m : MethodId} {args : Array Value} {below : List Frame} {meth : Method} {c : Code} (X : Cx D aC p s m args meth c cX6_move RX6 7 "move" (some .int)) {res : (Int32 × Wd)} : ∀ (o : Nat) (x1 : Int32) (x4 : Int32) (x5 : Int32) (w : Wd), BW l D aC b0 p e rX6_move s m args below meth c (Qe D aC b0 below args s 0 0 (some (.int res.1)) res.2) res 0 0 0 0 (f_X6_move_406 o x1 x4 x5 w) w 406 7 [(0, va_rf (some o)), (1, .int x1), (4, .int x4), (5, .int x5)] [] := by
  intro o x1 x4 x5 w H locs cells slots ls hf M hS hc hs hl
  unfold f_X6_move_406 at hf
  refine q_aload_n X dX6_move_406 rfl (lv_at hl 0 rfl) ?_
  refine lv_iload_n X.1 X.2.1 dX6_move_407 rfl (lv_at hl 1 rfl) ?_
  refine lv_iload X.1 X.2.1 dX6_move_408 (lv_at hl 3 rfl) ?_
  have ho := chk_e hf
  clear hf
  obtain ⟨a311, e312, k313, hf⟩ := ho
  cases e312
  have ho := bnd_e hf
  clear hf
  obtain ⟨v308, w309, q310, hf⟩ := ho
  refine q_cV X M hS hl.1 (ci := 6) (r := (RX6, TX6, 53)) (As := [.int x1, .int x5]) (m_X6_sendFrom o x1 x5 _ _ q310) mlX6_210 gm_450 gm_451 rfl (by decide) k313 rfl ⟨(Nat.le_of_ble_eq_true rfl), (Nat.le_of_ble_eq_true rfl)⟩ (rest := []) rfl (Nat.le_of_ble_eq_true rfl) (mc := 0) (ms := 0) (MC := 0) (MS := 0) rfl rfl rfl rfl (by omega) (by omega) dX6_move_410 (st2 := []) rfl (fun H locs M hS => ?_)
  refine q_aload_n X dX6_move_413 rfl (lv_at hl 0 rfl) ?_
  have ho := gR_e hf
  clear hf
  obtain ⟨a314, v315, e316, k317, q318, hf⟩ := ho
  cases e316
  refine q_get X M flX6_44.g k317 (congrArg va_rf q318) dX6_move_414 ?_
  refine lv_iload X.1 X.2.1 dX6_move_417 (lv_at hl 2 rfl) ?_
  have ho := aI_e hf
  clear hf
  obtain ⟨a319, v320, e321, k322, i323, q324, hf⟩ := ho
  cases e321
  refine q_iald X M k322 i323 dX6_move_419 ?_
  rw [q324]
  refine lv_iconst (v := 1) X.1 X.2.1 dX6_move_420 (by decide) ?_
  refine lv_iadd X.1 X.2.1 dX6_move_421 ?_
  obtain rfl := Option.some.inj hf
  exact q_iret X M hS (by omega) (by omega) dX6_move_422
def f_X6_move_338 (o : Nat) (x1 : Int32) (x4 : Int32) (x5 : Int32) (w : Wd) : Option (Int32 × Wd) := (f_X6_move_341 (f_X6_move_406) FU) o x1 x4 x5 0 w
set_option maxHeartbeats 4000000 in
set_option maxRecDepth 100000 in
theorem b_X6_move_338 {l : Launch} {D : va_G} {aC : Nat → ClassId} {b0 : Nat} {p : Program} {e : Env} {s : State} {m : MethodId} {args : Array Value} {below : List Frame} {meth : Method} {c : Code} (X : Cx D aC p s m args meth c cX6_move RX6 7 "move" (some .int)) {res : (Int32 × Wd)} : ∀ (o : Nat) (x1 : Int32) (x4 : Int32) (x5 : Int32) (w : Wd), BW l D aC b0 p e rX6_move s m args below meth c (Qe D aC b0 below args s 0 0 (some (.int res.1)) res.2) res 0 0 0 0 (f_X6_move_338 o x1 x4 x5 w) w 338 7 [(0, va_rf (some o)), (1, .int x1), (4, .int x4), (5, .int x5)] [] := by
  intro o x1 x4 x5 w H locs cells slots ls hf M hS hc hs hl
  unfold f_X6_move_338 at hf
  refine lv_iconst (v := 0) X.1 X.2.1 dX6_move_338 (by decide) ?_
  refine lv_istore (i := 6) (lv' := [(6, .int 0), (0, va_rf (some o)), (1, .int x1), (4, .int x4), (5, .int x5)]) X.1 X.2.1 dX6_move_339 hl (by decide) rfl (fun ls hl => ?_)
  exact (b_X6_move_341 X (b_X6_move_406 X) FU) o x1 x4 x5 0 w _ _ _ _ _ hf M hS (by omega) (by omega) (lv_sub hl [1, 2, 3, 4, 0] rfl)
def f_X6_move_213 (o : Nat) (x1 : Int32) (x4 : Int32) (x5 : Int32) (w : Wd) : Option (Int32 × Wd) := (f_X6_move_216 (f_X6_move_338) FU) o x1 x4 x5 0 w
set_option maxHeartbeats 4000000 in
set_option maxRecDepth 100000 in
theorem b_X6_move_213 {l : Launch} {D : va_G} {aC : Nat → ClassId} {b0 : Nat} {p : Program} {e : Env} {s : State} {m : MethodId} {args : Array Value} {below : List Frame} {meth : Method} {c : Code} (X : Cx D aC p s m args meth c cX6_move RX6 7 "move" (some .int)) {res : (Int32 × Wd)} : ∀ (o : Nat) (x1 : Int32) (x4 : Int32) (x5 : Int32) (w : Wd), BW l D aC b0 p e rX6_move s m args below meth c (Qe D aC b0 below args s 0 0 (some (.int res.1)) res.2) res 0 0 0 0 (f_X6_move_213 o x1 x4 x5 w) w 213 7 [(0, va_rf (some o)), (1, .int x1), (4, .int x4), (5, .int x5)] [] := by
  intro o x1 x4 x5 w H locs cells slots ls hf M hS hc hs hl
  unfold f_X6_move_213 at hf
  refine lv_iconst (v := 0) X.1 X.2.1 dX6_move_213 (by decide) ?_
  refine lv_istore (i := 6) (lv' := [(6, .int 0), (0, va_rf (some o)), (1, .int x1), (4, .int x4), (5, .int x5)]) X.1 X.2.1 dX6_move_214 hl (by decide) rfl (fun ls hl => ?_)
  exact (b_X6_move_216 X (b_X6_move_338 X) FU) o x1 x4 x5 0 w _ _ _ _ _ hf M hS (by omega) (by omega) (lv_sub hl [1, 2, 3, 4, 0] rfl)
def f_X6_move_119 (o : Nat) (x1 : Int32) (x2 : Int32) (x3 : Int32) (x4 : Int32) (w : Wd) : Option (Int32 × Wd) := chk w (some o) 7 (fun a71 => bnd (f_X6_letter a71 3 x3 x1 w) (fun v68 w69 => gR w69 (some o) 7 34 (fun v75 => gR w69 (some o) 7 18 (fun v80 => aI w69 v80 100 x4 (fun v85 => tI w69 v75 100 v68 (v85 + 1) (fun w91 => gR w91 (some o) 7 35 (fun v97 => tI w91 v97 100 v68 x2 (fun w102 => gR w102 (some o) 7 37 (fun v108 => tI w102 v108 100 v68 x2 (fun w113 => gR w113 (some o) 7 36 (fun v119 => gR w113 (some o) 7 21 (fun v124 => aI w113 v124 100 x4 (fun v129 => tI w113 v119 100 v68 v129 (fun w135 => (f_X6_move_177 (f_X6_move_213) FU) o x1 x4 v68 0 w135))))))))))))))
set_option maxHeartbeats 4000000 in
set_option maxRecDepth 100000 in
theorem b_X6_move_119 {l : Launch} {D : va_G} {aC : Nat → ClassId} {b0 : Nat} {p : Program} {e : Env} {s : State} {m : MethodId} {args : Array Value} {below : List Frame} {meth : Method} {c : Code} (X : Cx D aC p s m args meth c cX6_move RX6 7 "move" (some .int)) {res : (Int32 × Wd)} : ∀ (o : Nat) (x1 : Int32) (x2 : Int32) (x3 : Int32) (x4 : Int32) (w : Wd), BW l D aC b0 p e rX6_move s m args below meth c (Qe D aC b0 below args s 0 0 (some (.int res.1)) res.2) res 0 0 0 0 (f_X6_move_119 o x1 x2 x3 x4 w) w 119 7 [(0, va_rf (some o)), (1, .int x1), (2, .int x2), (3, .int x3), (4, .int x4)] [] := by
  intro o x1 x2 x3 x4 w H locs cells slots ls hf M hS hc hs hl
  unfold f_X6_move_119 at hf
  refine q_aload_n X dX6_move_119 rfl (lv_at hl 0 rfl) ?_
  refine lv_iconst (v := 3) X.1 X.2.1 dX6_move_120 (by decide) ?_
  refine lv_iload_n X.1 X.2.1 dX6_move_121 rfl (lv_at hl 3 rfl) ?_
  refine lv_iload_n X.1 X.2.1 dX6_move_122 rfl (lv_at hl 1 rfl) ?_
  have ho := chk_e hf
  clear hf
  obtain ⟨a71, e72, k73, hf⟩ := ho
  cases e72
  have ho := bnd_e hf
  clear hf
  obtain ⟨v68, w69, q70, hf⟩ := ho
  refine q_cV X M hS hl.1 (ci := 6) (r := (RX6, TX6, 53)) (As := [.int 3, .int x3, .int x1]) (m_X6_letter o 3 x3 x1 _ _ q70) mlX6_182 gm_258 gm_259 rfl (by decide) k73 rfl ⟨(Nat.le_of_ble_eq_true rfl), (Nat.le_of_ble_eq_true rfl)⟩ (rest := []) rfl (Nat.le_of_ble_eq_true rfl) (mc := 0) (ms := 0) (MC := 0) (MS := 0) rfl rfl rfl rfl (by omega) (by omega) dX6_move_123 (st2 := [.int v68]) rfl (fun H locs M hS => ?_)
  refine lv_istore (i := 5) (lv' := [(5, .int v68), (0, va_rf (some o)), (1, .int x1), (2, .int x2), (3, .int x3), (4, .int x4)]) X.1 X.2.1 dX6_move_126 hl (by decide) rfl (fun ls hl => ?_)
  refine q_aload_n X dX6_move_128 rfl (lv_at hl 1 rfl) ?_
  have ho := gR_e hf
  clear hf
  obtain ⟨a74, v75, e76, k77, q78, hf⟩ := ho
  cases e76
  refine q_get X M flX6_93.g k77 (congrArg va_rf q78) dX6_move_129 ?_
  refine lv_iload X.1 X.2.1 dX6_move_132 (lv_at hl 0 rfl) ?_
  refine q_aload_n X dX6_move_134 rfl (lv_at hl 1 rfl) ?_
  have ho := gR_e hf
  clear hf
  obtain ⟨a79, v80, e81, k82, q83, hf⟩ := ho
  cases e81
  refine q_get X M flX6_44.g k82 (congrArg va_rf q83) dX6_move_135 ?_
  refine lv_iload X.1 X.2.1 dX6_move_138 (lv_at hl 5 rfl) ?_
  have ho := aI_e hf
  clear hf
  obtain ⟨a84, v85, e86, k87, i88, q89, hf⟩ := ho
  cases e86
  refine q_iald X M k87 i88 dX6_move_140 ?_
  rw [q89]
  refine lv_iconst (v := 1) X.1 X.2.1 dX6_move_141 (by decide) ?_
  refine lv_iadd X.1 X.2.1 dX6_move_142 ?_
  have ho := tI_e hf
  clear hf
  obtain ⟨a90, w91, e92, k93, i94, q95, hf⟩ := ho
  cases e92
  refine q_iast X M hS k93 i94 dX6_move_143 (fun H locs M hS => ?_)
  rw [q95] at M
  refine q_aload_n X dX6_move_144 rfl (lv_at hl 1 rfl) ?_
  have ho := gR_e hf
  clear hf
  obtain ⟨a96, v97, e98, k99, q100, hf⟩ := ho
  cases e98
  refine q_get X M flX6_96.g k99 (congrArg va_rf q100) dX6_move_145 ?_
  refine lv_iload X.1 X.2.1 dX6_move_148 (lv_at hl 0 rfl) ?_
  refine lv_iload_n X.1 X.2.1 dX6_move_150 rfl (lv_at hl 3 rfl) ?_
  have ho := tI_e hf
  clear hf
  obtain ⟨a101, w102, e103, k104, i105, q106, hf⟩ := ho
  cases e103
  refine q_iast X M hS k104 i105 dX6_move_151 (fun H locs M hS => ?_)
  rw [q106] at M
  refine q_aload_n X dX6_move_152 rfl (lv_at hl 1 rfl) ?_
  have ho := gR_e hf
  clear hf
  obtain ⟨a107, v108, e109, k110, q111, hf⟩ := ho
  cases e109
  refine q_get X M flX6_102.g k110 (congrArg va_rf q111) dX6_move_153 ?_
  refine lv_iload X.1 X.2.1 dX6_move_156 (lv_at hl 0 rfl) ?_
  refine lv_iload_n X.1 X.2.1 dX6_move_158 rfl (lv_at hl 3 rfl) ?_
  have ho := tI_e hf
  clear hf
  obtain ⟨a112, w113, e114, k115, i116, q117, hf⟩ := ho
  cases e114
  refine q_iast X M hS k115 i116 dX6_move_159 (fun H locs M hS => ?_)
  rw [q117] at M
  refine q_aload_n X dX6_move_160 rfl (lv_at hl 1 rfl) ?_
  have ho := gR_e hf
  clear hf
  obtain ⟨a118, v119, e120, k121, q122, hf⟩ := ho
  cases e120
  refine q_get X M flX6_99.g k121 (congrArg va_rf q122) dX6_move_161 ?_
  refine lv_iload X.1 X.2.1 dX6_move_164 (lv_at hl 0 rfl) ?_
  refine q_aload_n X dX6_move_166 rfl (lv_at hl 1 rfl) ?_
  have ho := gR_e hf
  clear hf
  obtain ⟨a123, v124, e125, k126, q127, hf⟩ := ho
  cases e125
  refine q_get X M flX6_53.g k126 (congrArg va_rf q127) dX6_move_167 ?_
  refine lv_iload X.1 X.2.1 dX6_move_170 (lv_at hl 5 rfl) ?_
  have ho := aI_e hf
  clear hf
  obtain ⟨a128, v129, e130, k131, i132, q133, hf⟩ := ho
  cases e130
  refine q_iald X M k131 i132 dX6_move_172 ?_
  rw [q133]
  have ho := tI_e hf
  clear hf
  obtain ⟨a134, w135, e136, k137, i138, q139, hf⟩ := ho
  cases e136
  refine q_iast X M hS k137 i138 dX6_move_173 (fun H locs M hS => ?_)
  rw [q139] at M
  refine lv_iconst (v := 0) X.1 X.2.1 dX6_move_174 (by decide) ?_
  refine lv_istore (i := 6) (lv' := [(6, .int 0), (5, .int v68), (0, va_rf (some o)), (1, .int x1), (2, .int x2), (3, .int x3), (4, .int x4)]) X.1 X.2.1 dX6_move_175 hl (by decide) rfl (fun ls hl => ?_)
  exact (b_X6_move_177 X (b_X6_move_213 X) FU) o x1 x4 v68 0 w135 _ _ _ _ _ hf M hS (by omega) (by omega) (lv_sub hl [2, 3, 6, 1, 0] rfl)
def f_X6_move_77 (o : Nat) (x1 : Int32) (x2 : Int32) (x3 : Int32) (x4 : Int32) (w : Wd) : Option (Int32 × Wd) := if x3 = x1 then (some ((-3), w)) else (gR w (some o) 7 17 (fun v57 => aI w v57 100 x4 (fun v62 => if v62 = 1 then (gR w (some o) 7 17 (fun v326 => tI w v326 100 x4 2 (fun w331 => gR w331 (some o) 7 19 (fun v337 => tI w331 v337 100 x4 x3 (fun w342 => gR w342 (some o) 7 29 (fun v348 => tZ w342 v348 102 x1 1 (fun w353 => (f_X6_move_119) o x1 x2 x3 x4 w353))))))) else ((f_X6_move_119) o x1 x2 x3 x4 w))))
set_option maxHeartbeats 4000000 in
set_option maxRecDepth 100000 in
theorem b_X6_move_77 {l : Launch} {D : va_G} {aC : Nat → ClassId} {b0 : Nat} {p : Program} {e : Env} {s : State} {m : MethodId} {args : Array Value} {below : List Frame} {meth : Method} {c : Code} (X : Cx D aC p s m args meth c cX6_move RX6 7 "move" (some .int)) {res : (Int32 × Wd)} : ∀ (o : Nat) (x1 : Int32) (x2 : Int32) (x3 : Int32) (x4 : Int32) (w : Wd), BW l D aC b0 p e rX6_move s m args below meth c (Qe D aC b0 below args s 0 0 (some (.int res.1)) res.2) res 0 0 0 0 (f_X6_move_77 o x1 x2 x3 x4 w) w 77 7 [(0, va_rf (some o)), (1, .int x1), (2, .int x2), (3, .int x3), (4, .int x4)] [] := by
  intro o x1 x2 x3 x4 w H locs cells slots ls hf M hS hc hs hl
  unfold f_X6_move_77 at hf
  refine lv_iload_n X.1 X.2.1 dX6_move_77 rfl (lv_at hl 3 rfl) ?_
  refine lv_iload_n X.1 X.2.1 dX6_move_78 rfl (lv_at hl 1 rfl) ?_
  refine lv_icmp_ne (tgt := 85) X.1 X.2.1 dX6_move_79 (by decide) (fun c55 => ?_) (fun c55 => ?_)
  · rw [if_neg c55] at hf
    refine q_aload_n X dX6_move_85 rfl (lv_at hl 0 rfl) ?_
    have ho := gR_e hf
    clear hf
    obtain ⟨a56, v57, e58, k59, q60, hf⟩ := ho
    cases e58
    refine q_get X M flX6_41.g k59 (congrArg va_rf q60) dX6_move_86 ?_
    refine lv_iload X.1 X.2.1 dX6_move_89 (lv_at hl 4 rfl) ?_
    have ho := aI_e hf
    clear hf
    obtain ⟨a61, v62, e63, k64, i65, q66, hf⟩ := ho
    cases e63
    refine q_iald X M k64 i65 dX6_move_91 ?_
    rw [q66]
    refine lv_iconst (v := 1) X.1 X.2.1 dX6_move_92 (by decide) ?_
    refine lv_icmp_ne (tgt := 119) X.1 X.2.1 dX6_move_93 (by decide) (fun c67 => ?_) (fun c67 => ?_)
    · rw [if_neg c67] at hf
      exact (b_X6_move_119 X) o x1 x2 x3 x4 w _ _ _ _ _ hf M hS (by omega) (by omega) (lv_sub hl [0, 1, 2, 3, 4] rfl)
    · rw [if_pos c67] at hf
      refine q_aload_n X dX6_move_96 rfl (lv_at hl 0 rfl) ?_
      have ho := gR_e hf
      clear hf
      obtain ⟨a325, v326, e327, k328, q329, hf⟩ := ho
      cases e327
      refine q_get X M flX6_41.g k328 (congrArg va_rf q329) dX6_move_97 ?_
      refine lv_iload X.1 X.2.1 dX6_move_100 (lv_at hl 4 rfl) ?_
      refine lv_iconst (v := 2) X.1 X.2.1 dX6_move_102 (by decide) ?_
      have ho := tI_e hf
      clear hf
      obtain ⟨a330, w331, e332, k333, i334, q335, hf⟩ := ho
      cases e332
      refine q_iast X M hS k333 i334 dX6_move_103 (fun H locs M hS => ?_)
      rw [q335] at M
      refine q_aload_n X dX6_move_104 rfl (lv_at hl 0 rfl) ?_
      have ho := gR_e hf
      clear hf
      obtain ⟨a336, v337, e338, k339, q340, hf⟩ := ho
      cases e338
      refine q_get X M flX6_47.g k339 (congrArg va_rf q340) dX6_move_105 ?_
      refine lv_iload X.1 X.2.1 dX6_move_108 (lv_at hl 4 rfl) ?_
      refine lv_iload_n X.1 X.2.1 dX6_move_110 rfl (lv_at hl 3 rfl) ?_
      have ho := tI_e hf
      clear hf
      obtain ⟨a341, w342, e343, k344, i345, q346, hf⟩ := ho
      cases e343
      refine q_iast X M hS k344 i345 dX6_move_111 (fun H locs M hS => ?_)
      rw [q346] at M
      refine q_aload_n X dX6_move_112 rfl (lv_at hl 0 rfl) ?_
      have ho := gR_e hf
      clear hf
      obtain ⟨a347, v348, e349, k350, q351, hf⟩ := ho
      cases e349
      refine q_get X M flX6_78.g k350 (congrArg va_rf q351) dX6_move_113 ?_
      refine lv_iload_n X.1 X.2.1 dX6_move_116 rfl (lv_at hl 1 rfl) ?_
      refine lv_iconst (v := 1) X.1 X.2.1 dX6_move_117 (by decide) ?_
      have ho := tZ_e hf
      clear hf
      obtain ⟨a352, w353, e354, k355, i356, z358, q357, hf⟩ := ho
      cases e354
      refine q_zast X M hS k355 z358 i356 dX6_move_118 (fun H locs M hS => ?_)
      rw [q357] at M
      exact (b_X6_move_119 X) o x1 x2 x3 x4 w353 _ _ _ _ _ hf M hS (by omega) (by omega) (lv_sub hl [0, 1, 2, 3, 4] rfl)
  · rw [if_pos c55] at hf
    refine lv_bipush (v := (-3)) X.1 X.2.1 dX6_move_82 (by decide) ?_
    obtain rfl := Option.some.inj hf
    exact q_iret X M hS (by omega) (by omega) dX6_move_84
def f_X6_move (o : Nat) (x1 : Int32) (x2 : Int32) (x3 : Int32) (w : Wd) : Option (Int32 × Wd) := chk w (some o) 7 (fun a4 => bnd (f_X6_isServer a4 x1 w) (fun v1 w2 => if v1 = 0 then (some ((-1), w2)) else (bnd (f_X6_in x2 0 7 w2) (fun v8 w9 => if v8 = 0 then (some ((-1), w9)) else (chk w9 (some o) 7 (fun a15 => bnd (f_X6_isServer a15 x3 w9) (fun v12 w13 => if v12 = 0 then (some ((-1), w13)) else (gR w13 (some o) 7 28 (fun v20 => aI w13 v20 102 x1 (fun v25 => if v25 = 0 then (some ((-3), w13)) else (gR w13 (some o) 7 17 (fun v32 => aI w13 v32 100 ((16 * x1) + x2) (fun v37 => if v37 = 0 then (some ((-3), w13)) else (gR w13 (some o) 7 17 (fun v44 => aI w13 v44 100 ((16 * x1) + x2) (fun v49 => if v49 = 2 then (gR w13 (some o) 7 19 (fun v360 => aI w13 v360 100 ((16 * x1) + x2) (fun v365 => if v365 = x3 then ((f_X6_move_77) o x1 x2 x3 ((16 * x1) + x2) w13) else (some ((-3), w13))))) else ((f_X6_move_77) o x1 x2 x3 ((16 * x1) + x2) w13)))))))))))))))))
set_option maxHeartbeats 4000000 in
set_option maxRecDepth 100000 in
theorem e_X6_move {l : Launch} {D : va_G} {aC : Nat → ClassId} {b0 : Nat} {p : Program} {e : Env} {s : State} {m : MethodId} {args : Array Value} {below : List Frame} {meth : Method} {c : Code} (X : Cx D aC p s m args meth c cX6_move RX6 7 "move" (some .int)) {res : (Int32 × Wd)} (o : Nat) (x1 : Int32) (x2 : Int32) (x3 : Int32) (w : Wd) : BW l D aC b0 p e rX6_move s m args below meth c (Qe D aC b0 below args s 0 0 (some (.int res.1)) res.2) res 0 0 0 0 (f_X6_move o x1 x2 x3 w) w 0 7 [(0, va_rf (some o)), (1, .int x1), (2, .int x2), (3, .int x3)] [] := by
  intro H locs cells slots ls hf M hS hc hs hl
  unfold f_X6_move at hf
  refine q_aload_n X dX6_move_0 rfl (lv_at hl 0 rfl) ?_
  refine lv_iload_n X.1 X.2.1 dX6_move_1 rfl (lv_at hl 1 rfl) ?_
  have ho := chk_e hf
  clear hf
  obtain ⟨a4, e5, k6, hf⟩ := ho
  cases e5
  have ho := bnd_e hf
  clear hf
  obtain ⟨v1, w2, q3, hf⟩ := ho
  refine q_cV X M hS hl.1 (ci := 6) (r := (RX6, TX6, 53)) (As := [.int x1]) (m_X6_isServer o x1 _ _ q3) mlX6_201 gm_302 gm_303 rfl (by decide) k6 rfl ⟨(Nat.le_of_ble_eq_true rfl), (Nat.le_of_ble_eq_true rfl)⟩ (rest := []) rfl (Nat.le_of_ble_eq_true rfl) (mc := 0) (ms := 0) (MC := 0) (MS := 0) rfl rfl rfl rfl (by omega) (by omega) dX6_move_2 (st2 := [.int v1]) rfl (fun H locs M hS => ?_)
  refine lv_if_eq (tgt := 26) X.1 X.2.1 dX6_move_5 (by decide) (fun c7 => ?_) (fun c7 => ?_)
  · rw [if_pos c7] at hf
    refine lv_iconst (v := (-1)) X.1 X.2.1 dX6_move_26 (by decide) ?_
    obtain rfl := Option.some.inj hf
    exact q_iret X M hS (by omega) (by omega) dX6_move_27
  · rw [if_neg c7] at hf
    refine lv_iload_n X.1 X.2.1 dX6_move_8 rfl (lv_at hl 2 rfl) ?_
    refine lv_iconst (v := 0) X.1 X.2.1 dX6_move_9 (by decide) ?_
    refine lv_bipush (v := 7) X.1 X.2.1 dX6_move_10 (by decide) ?_
    have ho := bnd_e hf
    clear hf
    obtain ⟨v8, w9, q10, hf⟩ := ho
    refine q_cS X M hS hl.1 (As := [.int x2, .int 0, .int 7]) (m_X6_in x2 0 7 _ _ q10) mlX6_152 gm_171 rfl ⟨(Nat.le_of_ble_eq_true rfl), (Nat.le_of_ble_eq_true rfl)⟩ (rest := []) rfl (Nat.le_of_ble_eq_true rfl) (mc := 0) (ms := 0) (MC := 0) (MS := 0) rfl rfl rfl rfl (by omega) (by omega) dX6_move_12 (st2 := [.int v8]) rfl (fun H locs M hS => ?_)
    refine lv_if_eq (tgt := 26) X.1 X.2.1 dX6_move_15 (by decide) (fun c11 => ?_) (fun c11 => ?_)
    · rw [if_pos c11] at hf
      refine lv_iconst (v := (-1)) X.1 X.2.1 dX6_move_26 (by decide) ?_
      obtain rfl := Option.some.inj hf
      exact q_iret X M hS (by omega) (by omega) dX6_move_27
    · rw [if_neg c11] at hf
      refine q_aload_n X dX6_move_18 rfl (lv_at hl 0 rfl) ?_
      refine lv_iload_n X.1 X.2.1 dX6_move_19 rfl (lv_at hl 3 rfl) ?_
      have ho := chk_e hf
      clear hf
      obtain ⟨a15, e16, k17, hf⟩ := ho
      cases e16
      have ho := bnd_e hf
      clear hf
      obtain ⟨v12, w13, q14, hf⟩ := ho
      refine q_cV X M hS hl.1 (ci := 6) (r := (RX6, TX6, 53)) (As := [.int x3]) (m_X6_isServer o x3 _ _ q14) mlX6_201 gm_302 gm_303 rfl (by decide) k17 rfl ⟨(Nat.le_of_ble_eq_true rfl), (Nat.le_of_ble_eq_true rfl)⟩ (rest := []) rfl (Nat.le_of_ble_eq_true rfl) (mc := 0) (ms := 0) (MC := 0) (MS := 0) rfl rfl rfl rfl (by omega) (by omega) dX6_move_20 (st2 := [.int v12]) rfl (fun H locs M hS => ?_)
      refine lv_if_ne (tgt := 28) X.1 X.2.1 dX6_move_23 (by decide) (fun c18 => ?_) (fun c18 => ?_)
      · rw [if_neg c18] at hf
        refine lv_bipush (v := 16) X.1 X.2.1 dX6_move_28 (by decide) ?_
        refine lv_iload_n X.1 X.2.1 dX6_move_30 rfl (lv_at hl 1 rfl) ?_
        refine lv_imul X.1 X.2.1 dX6_move_31 ?_
        refine lv_iload_n X.1 X.2.1 dX6_move_32 rfl (lv_at hl 2 rfl) ?_
        refine lv_iadd X.1 X.2.1 dX6_move_33 ?_
        refine lv_istore (i := 4) (lv' := [(4, .int ((16 * x1) + x2)), (0, va_rf (some o)), (1, .int x1), (2, .int x2), (3, .int x3)]) X.1 X.2.1 dX6_move_34 hl (by decide) rfl (fun ls hl => ?_)
        refine q_aload_n X dX6_move_36 rfl (lv_at hl 1 rfl) ?_
        have ho := gR_e hf
        clear hf
        obtain ⟨a19, v20, e21, k22, q23, hf⟩ := ho
        cases e21
        refine q_get X M flX6_74.g k22 (congrArg va_rf q23) dX6_move_37 ?_
        refine lv_iload_n X.1 X.2.1 dX6_move_40 rfl (lv_at hl 2 rfl) ?_
        have ho := aI_e hf
        clear hf
        obtain ⟨a24, v25, e26, k27, i28, q29, hf⟩ := ho
        cases e26
        refine q_zald X M k27 i28 dX6_move_41 ?_
        rw [q29]
        refine lv_if_eq (tgt := 82) X.1 X.2.1 dX6_move_42 (by decide) (fun c30 => ?_) (fun c30 => ?_)
        · rw [if_pos c30] at hf
          refine lv_bipush (v := (-3)) X.1 X.2.1 dX6_move_82 (by decide) ?_
          obtain rfl := Option.some.inj hf
          exact q_iret X M hS (by omega) (by omega) dX6_move_84
        · rw [if_neg c30] at hf
          refine q_aload_n X dX6_move_45 rfl (lv_at hl 1 rfl) ?_
          have ho := gR_e hf
          clear hf
          obtain ⟨a31, v32, e33, k34, q35, hf⟩ := ho
          cases e33
          refine q_get X M flX6_41.g k34 (congrArg va_rf q35) dX6_move_46 ?_
          refine lv_iload X.1 X.2.1 dX6_move_49 (lv_at hl 0 rfl) ?_
          have ho := aI_e hf
          clear hf
          obtain ⟨a36, v37, e38, k39, i40, q41, hf⟩ := ho
          cases e38
          refine q_iald X M k39 i40 dX6_move_51 ?_
          rw [q41]
          refine lv_if_eq (tgt := 82) X.1 X.2.1 dX6_move_52 (by decide) (fun c42 => ?_) (fun c42 => ?_)
          · rw [if_pos c42] at hf
            refine lv_bipush (v := (-3)) X.1 X.2.1 dX6_move_82 (by decide) ?_
            obtain rfl := Option.some.inj hf
            exact q_iret X M hS (by omega) (by omega) dX6_move_84
          · rw [if_neg c42] at hf
            refine q_aload_n X dX6_move_55 rfl (lv_at hl 1 rfl) ?_
            have ho := gR_e hf
            clear hf
            obtain ⟨a43, v44, e45, k46, q47, hf⟩ := ho
            cases e45
            refine q_get X M flX6_41.g k46 (congrArg va_rf q47) dX6_move_56 ?_
            refine lv_iload X.1 X.2.1 dX6_move_59 (lv_at hl 0 rfl) ?_
            have ho := aI_e hf
            clear hf
            obtain ⟨a48, v49, e50, k51, i52, q53, hf⟩ := ho
            cases e50
            refine q_iald X M k51 i52 dX6_move_61 ?_
            rw [q53]
            refine lv_iconst (v := 2) X.1 X.2.1 dX6_move_62 (by decide) ?_
            refine lv_icmp_ne (tgt := 77) X.1 X.2.1 dX6_move_63 (by decide) (fun c54 => ?_) (fun c54 => ?_)
            · rw [if_neg c54] at hf
              exact (b_X6_move_77 X) o x1 x2 x3 ((16 * x1) + x2) w13 _ _ _ _ _ hf M hS (by omega) (by omega) (lv_sub hl [1, 2, 3, 4, 0] rfl)
            · rw [if_pos c54] at hf
              refine q_aload_n X dX6_move_66 rfl (lv_at hl 1 rfl) ?_
              have ho := gR_e hf
              clear hf
              obtain ⟨a359, v360, e361, k362, q363, hf⟩ := ho
              cases e361
              refine q_get X M flX6_47.g k362 (congrArg va_rf q363) dX6_move_67 ?_
              refine lv_iload X.1 X.2.1 dX6_move_70 (lv_at hl 0 rfl) ?_
              have ho := aI_e hf
              clear hf
              obtain ⟨a364, v365, e366, k367, i368, q369, hf⟩ := ho
              cases e366
              refine q_iald X M k367 i368 dX6_move_72 ?_
              rw [q369]
              refine lv_iload_n X.1 X.2.1 dX6_move_73 rfl (lv_at hl 4 rfl) ?_
              refine lv_icmp_ne (tgt := 82) X.1 X.2.1 dX6_move_74 (by decide) (fun c370 => ?_) (fun c370 => ?_)
              · rw [if_neg c370] at hf
                refine lv_bipush (v := (-3)) X.1 X.2.1 dX6_move_82 (by decide) ?_
                obtain rfl := Option.some.inj hf
                exact q_iret X M hS (by omega) (by omega) dX6_move_84
              · rw [if_pos c370] at hf
                exact (b_X6_move_77 X) o x1 x2 x3 ((16 * x1) + x2) w13 _ _ _ _ _ hf M hS (by omega) (by omega) (lv_sub hl [1, 2, 3, 4, 0] rfl)
      · rw [if_pos c18] at hf
        refine lv_iconst (v := (-1)) X.1 X.2.1 dX6_move_26 (by decide) ?_
        obtain rfl := Option.some.inj hf
        exact q_iret X M hS (by omega) (by omega) dX6_move_27
theorem m_X6_move {l : Launch} {D : va_G} {aC : Nat → ClassId} {b0 : Nat} {w : Wd} (o : Nat) (x1 : Int32) (x2 : Int32) (x3 : Int32) (v : Int32) (w' : Wd) (hf : f_X6_move o x1 x2 x3 w = some (v, w')) : Ct l D aC b0 yX6_move (Cond.code yX6_move cX6_move 7 (some .int) :: Gw) rX6_move [va_rf (some o), .int x1, .int x2, .int x3] w (some (.int v)) w' :=
  q_met (by decide) (Nat.le_of_ble_eq_true rfl) (fun p e s m below meth c X M ls hl => e_X6_move X (res := (v, w')) o x1 x2 x3 w s.heap [] 0 0 ls hf M va_S.rf (by decide) (by decide) hl)
abbrev rX6_collect : Room := { frames := 2, cells := 0, slots := 0, locals := 43 }
def f_X6_collect_101 (K51 : Nat → Int32 → Int32 → Int32 → Int32 → Int32 → Wd → Option (Int32 × Wd)) (o : Nat) (x1 : Int32) (x2 : Int32) (x3 : Int32) (x4 : Int32) (x5 : Int32) (w : Wd) : Option (Int32 × Wd) := K51 o x1 x2 x3 x4 (x5 + (-1)) w
set_option maxHeartbeats 4000000 in
set_option maxRecDepth 100000 in
theorem b_X6_collect_101 {l : Launch} {D : va_G} {aC : Nat → ClassId} {b0 : Nat} {p : Program} {e : Env} {s : State} {m : MethodId} {args : Array Value} {below : List Frame} {meth : Method} {c : Code} (X : Cx D aC p s m args meth c cX6_collect RX6 6 "collect" (some .int)) {res : (Int32 × Wd)} {K51 : Nat → Int32 → Int32 → Int32 → Int32 → Int32 → Wd → Option (Int32 × Wd)} (hK51 : ∀ (o : Nat) (x1 : Int32) (x2 : Int32) (x3 : Int32) (x4 : Int32) (x5 : Int32) (w : Wd), BW l D aC b0 p e rX6_collect s m args below meth c (Qe D aC b0 below args s 0 0 (some (.int res.1)) res.2) res 0 0 0 0 (K51 o x1 x2 x3 x4 x5 w) w 51 6 [(0, va_rf (some o)), (1, .int x1), (2, .int x2), (3, .int x3), (4, .int x4), (5, .int x5)] []) : ∀ (o : Nat) (x1 : Int32) (x2 : Int32) (x3 : Int32) (x4 : Int32) (x5 : Int32) (w : Wd), BW l D aC b0 p e rX6_collect s m args below meth c (Qe D aC b0 below args s 0 0 (some (.int res.1)) res.2) res 0 0 0 0 (f_X6_collect_101 K51 o x1 x2 x3 x4 x5 w) w 101 6 [(0, va_rf (some o)), (1, .int x1), (2, .int x2), (3, .int x3), (4, .int x4), (5, .int x5)] [] := by
  intro o x1 x2 x3 x4 x5 w H locs cells slots ls hf M hS hc hs hl
  unfold f_X6_collect_101 at hf
  refine lv_iinc (v := (x5 + (-1))) (lv' := [(5, .int (x5 + (-1))), (0, va_rf (some o)), (1, .int x1), (2, .int x2), (3, .int x3), (4, .int x4)]) X.1 X.2.1 dX6_collect_101 hl (k := 5) rfl rfl (by decide) rfl (fun ls hl => ?_)
  refine lv_goto (tgt := 51) X.1 X.2.1 dX6_collect_104 (by decide) ?_
  exact hK51 o x1 x2 x3 x4 (x5 + (-1)) w _ _ _ _ _ hf M hS (by omega) (by omega) (lv_sub hl [1, 2, 3, 4, 5, 0] rfl)
def f_X6_collect_51 (K107 : Nat → Int32 → Int32 → Int32 → Wd → Option (Int32 × Wd)) : Nat → Nat → Int32 → Int32 → Int32 → Int32 → Int32 → Wd → Option (Int32 × Wd)
  | 0, _, _, _, _, _, _, _ => none
  | n + 1, o, x1, x2, x3, x4, x5, w => if x5 < 0 then (K107 o x1 x2 x3 w) else (gR w (some o) 7 17 (fun v34 => aI w v34 100 x4 (fun v39 => if v39 = 1 then (gR w (some o) 7 23 (fun v46 => aI w v46 100 ((12 * x4) + x5) (fun v51 => chk w (some o) 7 (fun a59 => bnd (f_X6_isLive a59 v51 w) (fun v56 w57 => if v56 = 0 then (chk w57 (some o) 7 (fun a66 => bnd (f_X6_forget a66 x4 x5 w57) (fun v63 w64 => (f_X6_collect_101 (f_X6_collect_51 K107 n)) o x1 (x2 + 1) x3 x4 x5 w64))) else ((f_X6_collect_101 (f_X6_collect_51 K107 n)) o x1 x2 x3 x4 x5 w57)))))) else (K107 o x1 x2 x3 w))))
set_option maxHeartbeats 4000000 in
set_option maxRecDepth 100000 in
theorem b_X6_collect_51 {l : Launch} {D : va_G} {aC : Nat → ClassId} {b0 : Nat} {p : Program} {e : Env} {s : State} {m : MethodId} {args : Array Value} {below : List Frame} {meth : Method} {c : Code} (X : Cx D aC p s m args meth c cX6_collect RX6 6 "collect" (some .int)) {res : (Int32 × Wd)} {K107 : Nat → Int32 → Int32 → Int32 → Wd → Option (Int32 × Wd)} (hK107 : ∀ (o : Nat) (x1 : Int32) (x2 : Int32) (x3 : Int32) (w : Wd), BW l D aC b0 p e rX6_collect s m args below meth c (Qe D aC b0 below args s 0 0 (some (.int res.1)) res.2) res 0 0 0 0 (K107 o x1 x2 x3 w) w 107 6 [(0, va_rf (some o)), (1, .int x1), (2, .int x2), (3, .int x3)] []) : ∀ (n : Nat) (o : Nat) (x1 : Int32) (x2 : Int32) (x3 : Int32) (x4 : Int32) (x5 : Int32) (w : Wd), BW l D aC b0 p e rX6_collect s m args below meth c (Qe D aC b0 below args s 0 0 (some (.int res.1)) res.2) res 0 0 0 0 (f_X6_collect_51 K107 n o x1 x2 x3 x4 x5 w) w 51 6 [(0, va_rf (some o)), (1, .int x1), (2, .int x2), (3, .int x3), (4, .int x4), (5, .int x5)] [] := by
  intro n
  induction n with
  | zero =>
    intro o x1 x2 x3 x4 x5 w H locs cells slots ls hf
    rw [f_X6_collect_51.eq_1] at hf
    cases hf
  | succ n ih =>
    intro o x1 x2 x3 x4 x5 w H locs cells slots ls hf M hS hc hs hl
    rw [f_X6_collect_51.eq_2] at hf
    refine lv_iload X.1 X.2.1 dX6_collect_51 (lv_at hl 5 rfl) ?_
    refine lv_if_lt (tgt := 107) X.1 X.2.1 dX6_collect_53 (by decide) (fun c32 => ?_) (fun c32 => ?_)
    · rw [if_pos c32] at hf
      exact hK107 o x1 x2 x3 w _ _ _ _ _ hf M hS (by omega) (by omega) (lv_sub hl [0, 1, 2, 3] rfl)
    · rw [if_neg c32] at hf
      refine q_aload_n X dX6_collect_56 rfl (lv_at hl 0 rfl) ?_
      have ho := gR_e hf
      clear hf
      obtain ⟨a33, v34, e35, k36, q37, hf⟩ := ho
      cases e35
      refine q_get X M flX6_41.g k36 (congrArg va_rf q37) dX6_collect_57 ?_
      refine lv_iload X.1 X.2.1 dX6_collect_60 (lv_at hl 4 rfl) ?_
      have ho := aI_e hf
      clear hf
      obtain ⟨a38, v39, e40, k41, i42, q43, hf⟩ := ho
      cases e40
      refine q_iald X M k41 i42 dX6_collect_62 ?_
      rw [q43]
      refine lv_iconst (v := 1) X.1 X.2.1 dX6_collect_63 (by decide) ?_
      refine lv_icmp_ne (tgt := 107) X.1 X.2.1 dX6_collect_64 (by decide) (fun c44 => ?_) (fun c44 => ?_)
      · rw [if_neg c44] at hf
        exact hK107 o x1 x2 x3 w _ _ _ _ _ hf M hS (by omega) (by omega) (lv_sub hl [0, 1, 2, 3] rfl)
      · rw [if_pos c44] at hf
        refine q_aload_n X dX6_collect_67 rfl (lv_at hl 0 rfl) ?_
        refine q_aload_n X dX6_collect_68 rfl (lv_at hl 0 rfl) ?_
        have ho := gR_e hf
        clear hf
        obtain ⟨a45, v46, e47, k48, q49, hf⟩ := ho
        cases e47
        refine q_get X M flX6_59.g k48 (congrArg va_rf q49) dX6_collect_69 ?_
        refine lv_bipush (v := 12) X.1 X.2.1 dX6_collect_72 (by decide) ?_
        refine lv_iload X.1 X.2.1 dX6_collect_74 (lv_at hl 4 rfl) ?_
        refine lv_imul X.1 X.2.1 dX6_collect_76 ?_
        refine lv_iload X.1 X.2.1 dX6_collect_77 (lv_at hl 5 rfl) ?_
        refine lv_iadd X.1 X.2.1 dX6_collect_79 ?_
        have ho := aI_e hf
        clear hf
        obtain ⟨a50, v51, e52, k53, i54, q55, hf⟩ := ho
        cases e52
        refine q_iald X M k53 i54 dX6_collect_80 ?_
        rw [q55]
        have ho := chk_e hf
        clear hf
        obtain ⟨a59, e60, k61, hf⟩ := ho
        cases e60
        have ho := bnd_e hf
        clear hf
        obtain ⟨v56, w57, q58, hf⟩ := ho
        refine q_cV X M hS hl.1 (ci := 6) (r := (RX6, TX6, 53)) (As := [.int v51]) (m_X6_isLive o v51 _ _ q58) mlX6_179 gm_186 gm_187 rfl (by decide) k61 rfl ⟨(Nat.le_of_ble_eq_true rfl), (Nat.le_of_ble_eq_true rfl)⟩ (rest := []) rfl (Nat.le_of_ble_eq_true rfl) (mc := 0) (ms := 0) (MC := 0) (MS := 0) rfl rfl rfl rfl (by omega) (by omega) dX6_collect_81 (st2 := [.int v56]) rfl (fun H locs M hS => ?_)
        refine lv_if_eq (tgt := 90) X.1 X.2.1 dX6_collect_84 (by decide) (fun c62 => ?_) (fun c62 => ?_)
        · rw [if_pos c62] at hf
          refine q_aload_n X dX6_collect_90 rfl (lv_at hl 0 rfl) ?_
          refine lv_iload X.1 X.2.1 dX6_collect_91 (lv_at hl 4 rfl) ?_
          refine lv_iload X.1 X.2.1 dX6_collect_93 (lv_at hl 5 rfl) ?_
          have ho := chk_e hf
          clear hf
          obtain ⟨a66, e67, k68, hf⟩ := ho
          cases e67
          have ho := bnd_e hf
          clear hf
          obtain ⟨v63, w64, q65, hf⟩ := ho
          refine q_cV X M hS hl.1 (ci := 6) (r := (RX6, TX6, 53)) (As := [.int x4, .int x5]) (m_X6_forget o x4 x5 _ _ q65) mlX6_207 gm_458 gm_459 rfl (by decide) k68 rfl ⟨(Nat.le_of_ble_eq_true rfl), (Nat.le_of_ble_eq_true rfl)⟩ (rest := []) rfl (Nat.le_of_ble_eq_true rfl) (mc := 0) (ms := 0) (MC := 0) (MS := 0) rfl rfl rfl rfl (by omega) (by omega) dX6_collect_95 (st2 := []) rfl (fun H locs M hS => ?_)
          refine lv_iinc (v := (x2 + 1)) (lv' := [(2, .int (x2 + 1)), (0, va_rf (some o)), (1, .int x1), (3, .int x3), (4, .int x4), (5, .int x5)]) X.1 X.2.1 dX6_collect_98 hl (k := 2) rfl rfl (by decide) rfl (fun ls hl => ?_)
          exact (b_X6_collect_101 X ih) o x1 (x2 + 1) x3 x4 x5 w64 _ _ _ _ _ hf M hS (by omega) (by omega) (lv_sub hl [1, 2, 0, 3, 4, 5] rfl)
        · rw [if_neg c62] at hf
          refine lv_goto (tgt := 101) X.1 X.2.1 dX6_collect_87 (by decide) ?_
          exact (b_X6_collect_101 X ih) o x1 x2 x3 x4 x5 w57 _ _ _ _ _ hf M hS (by omega) (by omega) (lv_sub hl [0, 1, 2, 3, 4, 5] rfl)
def f_X6_collect_107 (K26 : Nat → Int32 → Int32 → Int32 → Wd → Option (Int32 × Wd)) (o : Nat) (x1 : Int32) (x2 : Int32) (x3 : Int32) (w : Wd) : Option (Int32 × Wd) := K26 o x1 x2 (x3 + 1) w
set_option maxHeartbeats 4000000 in
set_option maxRecDepth 100000 in
theorem b_X6_collect_107 {l : Launch} {D : va_G} {aC : Nat → ClassId} {b0 : Nat} {p : Program} {e : Env} {s : State} {m : MethodId} {args : Array Value} {below : List Frame} {meth : Method} {c : Code} (X : Cx D aC p s m args meth c cX6_collect RX6 6 "collect" (some .int)) {res : (Int32 × Wd)} {K26 : Nat → Int32 → Int32 → Int32 → Wd → Option (Int32 × Wd)} (hK26 : ∀ (o : Nat) (x1 : Int32) (x2 : Int32) (x3 : Int32) (w : Wd), BW l D aC b0 p e rX6_collect s m args below meth c (Qe D aC b0 below args s 0 0 (some (.int res.1)) res.2) res 0 0 0 0 (K26 o x1 x2 x3 w) w 26 6 [(0, va_rf (some o)), (1, .int x1), (2, .int x2), (3, .int x3)] []) : ∀ (o : Nat) (x1 : Int32) (x2 : Int32) (x3 : Int32) (w : Wd), BW l D aC b0 p e rX6_collect s m args below meth c (Qe D aC b0 below args s 0 0 (some (.int res.1)) res.2) res 0 0 0 0 (f_X6_collect_107 K26 o x1 x2 x3 w) w 107 6 [(0, va_rf (some o)), (1, .int x1), (2, .int x2), (3, .int x3)] [] := by
  intro o x1 x2 x3 w H locs cells slots ls hf M hS hc hs hl
  unfold f_X6_collect_107 at hf
  refine lv_iinc (v := (x3 + 1)) (lv' := [(3, .int (x3 + 1)), (0, va_rf (some o)), (1, .int x1), (2, .int x2)]) X.1 X.2.1 dX6_collect_107 hl (k := 3) rfl rfl (by decide) rfl (fun ls hl => ?_)
  refine lv_goto (tgt := 26) X.1 X.2.1 dX6_collect_110 (by decide) ?_
  exact hK26 o x1 x2 (x3 + 1) w _ _ _ _ _ hf M hS (by omega) (by omega) (lv_sub hl [1, 2, 3, 0] rfl)
def f_X6_collect_26 (K113 : Nat → Int32 → Int32 → Wd → Option (Int32 × Wd)) : Nat → Nat → Int32 → Int32 → Int32 → Wd → Option (Int32 × Wd)
  | 0, _, _, _, _, _ => none
  | n + 1, o, x1, x2, x3, w => if 8 ≤ x3 then (K113 o x1 x2 w) else (gR w (some o) 7 21 (fun v22 => aI w v22 100 ((16 * x1) + x3) (fun v27 => (f_X6_collect_51 (f_X6_collect_107 (f_X6_collect_26 K113 n)) FU) o x1 x2 x3 ((16 * x1) + x3) (v27 - 1) w)))
set_option maxHeartbeats 4000000 in
set_option maxRecDepth 100000 in
theorem b_X6_collect_26 {l : Launch} {D : va_G} {aC : Nat → ClassId} {b0 : Nat} {p : Program} {e : Env} {s : State} {m : MethodId} {args : Array Value} {below : List Frame} {meth : Method} {c : Code} (X : Cx D aC p s m args meth c cX6_collect RX6 6 "collect" (some .int)) {res : (Int32 × Wd)} {K113 : Nat → Int32 → Int32 → Wd → Option (Int32 × Wd)} (hK113 : ∀ (o : Nat) (x1 : Int32) (x2 : Int32) (w : Wd), BW l D aC b0 p e rX6_collect s m args below meth c (Qe D aC b0 below args s 0 0 (some (.int res.1)) res.2) res 0 0 0 0 (K113 o x1 x2 w) w 113 6 [(0, va_rf (some o)), (1, .int x1), (2, .int x2)] []) : ∀ (n : Nat) (o : Nat) (x1 : Int32) (x2 : Int32) (x3 : Int32) (w : Wd), BW l D aC b0 p e rX6_collect s m args below meth c (Qe D aC b0 below args s 0 0 (some (.int res.1)) res.2) res 0 0 0 0 (f_X6_collect_26 K113 n o x1 x2 x3 w) w 26 6 [(0, va_rf (some o)), (1, .int x1), (2, .int x2), (3, .int x3)] [] := by
  intro n
  induction n with
  | zero =>
    intro o x1 x2 x3 w H locs cells slots ls hf
    rw [f_X6_collect_26.eq_1] at hf
    cases hf
  | succ n ih =>
    intro o x1 x2 x3 w H locs cells slots ls hf M hS hc hs hl
    rw [f_X6_collect_26.eq_2] at hf
    refine lv_iload_n X.1 X.2.1 dX6_collect_26 rfl (lv_at hl 3 rfl) ?_
    refine lv_bipush (v := 8) X.1 X.2.1 dX6_collect_27 (by decide) ?_
    refine lv_icmp_ge (tgt := 113) X.1 X.2.1 dX6_collect_29 (by decide) (fun c20 => ?_) (fun c20 => ?_)
    · rw [if_pos c20] at hf
      exact hK113 o x1 x2 w _ _ _ _ _ hf M hS (by omega) (by omega) (lv_sub hl [0, 1, 2] rfl)
    · rw [if_neg c20] at hf
      refine lv_bipush (v := 16) X.1 X.2.1 dX6_collect_32 (by decide) ?_
      refine lv_iload_n X.1 X.2.1 dX6_collect_34 rfl (lv_at hl 1 rfl) ?_
      refine lv_imul X.1 X.2.1 dX6_collect_35 ?_
      refine lv_iload_n X.1 X.2.1 dX6_collect_36 rfl (lv_at hl 3 rfl) ?_
      refine lv_iadd X.1 X.2.1 dX6_collect_37 ?_
      refine lv_istore (i := 4) (lv' := [(4, .int ((16 * x1) + x3)), (0, va_rf (some o)), (1, .int x1), (2, .int x2), (3, .int x3)]) X.1 X.2.1 dX6_collect_38 hl (by decide) rfl (fun ls hl => ?_)
      refine q_aload_n X dX6_collect_40 rfl (lv_at hl 1 rfl) ?_
      have ho := gR_e hf
      clear hf
      obtain ⟨a21, v22, e23, k24, q25, hf⟩ := ho
      cases e23
      refine q_get X M flX6_53.g k24 (congrArg va_rf q25) dX6_collect_41 ?_
      refine lv_iload X.1 X.2.1 dX6_collect_44 (lv_at hl 0 rfl) ?_
      have ho := aI_e hf
      clear hf
      obtain ⟨a26, v27, e28, k29, i30, q31, hf⟩ := ho
      cases e28
      refine q_iald X M k29 i30 dX6_collect_46 ?_
      rw [q31]
      refine lv_iconst (v := 1) X.1 X.2.1 dX6_collect_47 (by decide) ?_
      refine lv_isub X.1 X.2.1 dX6_collect_48 ?_
      refine lv_istore (i := 5) (lv' := [(5, .int (v27 - 1)), (4, .int ((16 * x1) + x3)), (0, va_rf (some o)), (1, .int x1), (2, .int x2), (3, .int x3)]) X.1 X.2.1 dX6_collect_49 hl (by decide) rfl (fun ls hl => ?_)
      exact (b_X6_collect_51 X (b_X6_collect_107 X ih) FU) o x1 x2 x3 ((16 * x1) + x3) (v27 - 1) w _ _ _ _ _ hf M hS (by omega) (by omega) (lv_sub hl [2, 3, 4, 5, 1, 0] rfl)
def f_X6_collect_113 (o : Nat) (x1 : Int32) (x2 : Int32) (w : Wd) : Option (Int32 × Wd) := gR w (some o) 7 29 (fun v70 => aI w v70 102 x1 (fun v75 => if x2 ≤ 0 then (tZ w v70 102 x1 (v75 ||| 0) (fun w82 => some (x2, w82))) else (tZ w v70 102 x1 (v75 ||| 1) (fun w89 => some (x2, w89)))))
set_option maxHeartbeats 4000000 in
set_option maxRecDepth 100000 in
theorem b_X6_collect_113 {l : Launch} {D : va_G} {aC : Nat → ClassId} {b0 : Nat} {p : Program} {e : Env} {s : State} {m : MethodId} {args : Array Value} {below : List Frame} {meth : Method} {c : Code} (X : Cx D aC p s m args meth c cX6_collect RX6 6 "collect" (some .int)) {res : (Int32 × Wd)} : ∀ (o : Nat) (x1 : Int32) (x2 : Int32) (w : Wd), BW l D aC b0 p e rX6_collect s m args below meth c (Qe D aC b0 below args s 0 0 (some (.int res.1)) res.2) res 0 0 0 0 (f_X6_collect_113 o x1 x2 w) w 113 6 [(0, va_rf (some o)), (1, .int x1), (2, .int x2)] [] := by
  intro o x1 x2 w H locs cells slots ls hf M hS hc hs hl
  unfold f_X6_collect_113 at hf
  refine q_aload_n X dX6_collect_113 rfl (lv_at hl 0 rfl) ?_
  have ho := gR_e hf
  clear hf
  obtain ⟨a69, v70, e71, k72, q73, hf⟩ := ho
  cases e71
  refine q_get X M flX6_78.g k72 (congrArg va_rf q73) dX6_collect_114 ?_
  refine lv_iload_n X.1 X.2.1 dX6_collect_117 rfl (lv_at hl 1 rfl) ?_
  refine lv_dup2_11 X.1 X.2.1 dX6_collect_118 rfl (cat1 _) ?_
  have ho := aI_e hf
  clear hf
  obtain ⟨a74, v75, e76, k77, i78, q79, hf⟩ := ho
  cases e76
  refine q_zald X M k77 i78 dX6_collect_119 ?_
  rw [q79]
  refine lv_iload_n X.1 X.2.1 dX6_collect_120 rfl (lv_at hl 2 rfl) ?_
  refine lv_if_le (tgt := 128) X.1 X.2.1 dX6_collect_121 (by decide) (fun c80 => ?_) (fun c80 => ?_)
  · rw [if_pos c80] at hf
    refine lv_iconst (v := 0) X.1 X.2.1 dX6_collect_128 (by decide) ?_
    refine lv_ior X.1 X.2.1 dX6_collect_129 ?_
    have ho := tZ_e hf
    clear hf
    obtain ⟨a81, w82, e83, k84, i85, z87, q86, hf⟩ := ho
    cases e83
    refine q_zast X M hS k84 z87 i85 dX6_collect_130 (fun H locs M hS => ?_)
    rw [q86] at M
    refine lv_iload_n X.1 X.2.1 dX6_collect_131 rfl (lv_at hl 2 rfl) ?_
    obtain rfl := Option.some.inj hf
    exact q_iret X M hS (by omega) (by omega) dX6_collect_132
  · rw [if_neg c80] at hf
    refine lv_iconst (v := 1) X.1 X.2.1 dX6_collect_124 (by decide) ?_
    refine lv_goto (tgt := 129) X.1 X.2.1 dX6_collect_125 (by decide) ?_
    refine lv_ior X.1 X.2.1 dX6_collect_129 ?_
    have ho := tZ_e hf
    clear hf
    obtain ⟨a88, w89, e90, k91, i92, z94, q93, hf⟩ := ho
    cases e90
    refine q_zast X M hS k91 z94 i92 dX6_collect_130 (fun H locs M hS => ?_)
    rw [q93] at M
    refine lv_iload_n X.1 X.2.1 dX6_collect_131 rfl (lv_at hl 2 rfl) ?_
    obtain rfl := Option.some.inj hf
    exact q_iret X M hS (by omega) (by omega) dX6_collect_132
def f_X6_collect (o : Nat) (x1 : Int32) (w : Wd) : Option (Int32 × Wd) := chk w (some o) 7 (fun a4 => bnd (f_X6_isServer a4 x1 w) (fun v1 w2 => if v1 = 0 then (some ((-1), w2)) else (gR w2 (some o) 7 28 (fun v9 => aI w2 v9 102 x1 (fun v14 => if v14 = 0 then (some ((-3), w2)) else ((f_X6_collect_26 (f_X6_collect_113) FU) o x1 0 0 w2))))))
set_option maxHeartbeats 4000000 in
set_option maxRecDepth 100000 in
theorem e_X6_collect {l : Launch} {D : va_G} {aC : Nat → ClassId} {b0 : Nat} {p : Program} {e : Env} {s : State} {m : MethodId} {args : Array Value} {below : List Frame} {meth : Method} {c : Code} (X : Cx D aC p s m args meth c cX6_collect RX6 6 "collect" (some .int)) {res : (Int32 × Wd)} (o : Nat) (x1 : Int32) (w : Wd) : BW l D aC b0 p e rX6_collect s m args below meth c (Qe D aC b0 below args s 0 0 (some (.int res.1)) res.2) res 0 0 0 0 (f_X6_collect o x1 w) w 0 6 [(0, va_rf (some o)), (1, .int x1)] [] := by
  intro H locs cells slots ls hf M hS hc hs hl
  unfold f_X6_collect at hf
  refine q_aload_n X dX6_collect_0 rfl (lv_at hl 0 rfl) ?_
  refine lv_iload_n X.1 X.2.1 dX6_collect_1 rfl (lv_at hl 1 rfl) ?_
  have ho := chk_e hf
  clear hf
  obtain ⟨a4, e5, k6, hf⟩ := ho
  cases e5
  have ho := bnd_e hf
  clear hf
  obtain ⟨v1, w2, q3, hf⟩ := ho
  refine q_cV X M hS hl.1 (ci := 6) (r := (RX6, TX6, 53)) (As := [.int x1]) (m_X6_isServer o x1 _ _ q3) mlX6_201 gm_302 gm_303 rfl (by decide) k6 rfl ⟨(Nat.le_of_ble_eq_true rfl), (Nat.le_of_ble_eq_true rfl)⟩ (rest := []) rfl (Nat.le_of_ble_eq_true rfl) (mc := 0) (ms := 0) (MC := 0) (MS := 0) rfl rfl rfl rfl (by omega) (by omega) dX6_collect_2 (st2 := [.int v1]) rfl (fun H locs M hS => ?_)
  refine lv_if_ne (tgt := 10) X.1 X.2.1 dX6_collect_5 (by decide) (fun c7 => ?_) (fun c7 => ?_)
  · rw [if_neg c7] at hf
    refine q_aload_n X dX6_collect_10 rfl (lv_at hl 0 rfl) ?_
    have ho := gR_e hf
    clear hf
    obtain ⟨a8, v9, e10, k11, q12, hf⟩ := ho
    cases e10
    refine q_get X M flX6_74.g k11 (congrArg va_rf q12) dX6_collect_11 ?_
    refine lv_iload_n X.1 X.2.1 dX6_collect_14 rfl (lv_at hl 1 rfl) ?_
    have ho := aI_e hf
    clear hf
    obtain ⟨a13, v14, e15, k16, i17, q18, hf⟩ := ho
    cases e15
    refine q_zald X M k16 i17 dX6_collect_15 ?_
    rw [q18]
    refine lv_if_ne (tgt := 22) X.1 X.2.1 dX6_collect_16 (by decide) (fun c19 => ?_) (fun c19 => ?_)
    · rw [if_neg c19] at hf
      refine lv_iconst (v := 0) X.1 X.2.1 dX6_collect_22 (by decide) ?_
      refine lv_istore_n (i := 2) (lv' := [(2, .int 0), (0, va_rf (some o)), (1, .int x1)]) X.1 X.2.1 dX6_collect_23 rfl hl (by decide) rfl (fun ls hl => ?_)
      refine lv_iconst (v := 0) X.1 X.2.1 dX6_collect_24 (by decide) ?_
      refine lv_istore_n (i := 3) (lv' := [(3, .int 0), (2, .int 0), (0, va_rf (some o)), (1, .int x1)]) X.1 X.2.1 dX6_collect_25 rfl hl (by decide) rfl (fun ls hl => ?_)
      exact (b_X6_collect_26 X (b_X6_collect_113 X) FU) o x1 0 0 w2 _ _ _ _ _ hf M hS (by omega) (by omega) (lv_sub hl [2, 3, 1, 0] rfl)
    · rw [if_pos c19] at hf
      refine lv_bipush (v := (-3)) X.1 X.2.1 dX6_collect_19 (by decide) ?_
      obtain rfl := Option.some.inj hf
      exact q_iret X M hS (by omega) (by omega) dX6_collect_21
  · rw [if_pos c7] at hf
    refine lv_iconst (v := (-1)) X.1 X.2.1 dX6_collect_8 (by decide) ?_
    obtain rfl := Option.some.inj hf
    exact q_iret X M hS (by omega) (by omega) dX6_collect_9
theorem m_X6_collect {l : Launch} {D : va_G} {aC : Nat → ClassId} {b0 : Nat} {w : Wd} (o : Nat) (x1 : Int32) (v : Int32) (w' : Wd) (hf : f_X6_collect o x1 w = some (v, w')) : Ct l D aC b0 yX6_collect (Cond.code yX6_collect cX6_collect 6 (some .int) :: Gw) rX6_collect [va_rf (some o), .int x1] w (some (.int v)) w' :=
  q_met (by decide) (Nat.le_of_ble_eq_true rfl) (fun p e s m below meth c X M ls hl => e_X6_collect X (res := (v, w')) o x1 w s.heap [] 0 0 ls hf M va_S.rf (by decide) (by decide) hl)
abbrev rX6_ticks : Room := { frames := 1, cells := 0, slots := 0, locals := 22 }
def f_X6_ticks (o : Nat) (x1 : Int32) (w : Wd) : Option (Int32 × Wd) := bnd (f_X6_in x1 0 1000 w) (fun v1 w2 => if v1 = 0 then (some ((-1), w2)) else (gI w2 (some o) 7 2 (fun v6 => pI w2 (some o) 7 2 (v6 + x1) (fun w11 => gI w11 (some o) 7 2 (fun v16 => some (v16, w11))))))
set_option maxHeartbeats 4000000 in
set_option maxRecDepth 100000 in
theorem e_X6_ticks {l : Launch} {D : va_G} {aC : Nat → ClassId} {b0 : Nat} {p : Program} {e : Env} {s : State} {m : MethodId} {args : Array Value} {below : List Frame} {meth : Method} {c : Code} (X : Cx D aC p s m args meth c cX6_ticks RX6 2 "ticks" (some .int)) {res : (Int32 × Wd)} (o : Nat) (x1 : Int32) (w : Wd) : BW l D aC b0 p e rX6_ticks s m args below meth c (Qe D aC b0 below args s 0 0 (some (.int res.1)) res.2) res 0 0 0 0 (f_X6_ticks o x1 w) w 0 2 [(0, va_rf (some o)), (1, .int x1)] [] := by
  intro H locs cells slots ls hf M hS hc hs hl
  unfold f_X6_ticks at hf
  refine lv_iload_n X.1 X.2.1 dX6_ticks_0 rfl (lv_at hl 1 rfl) ?_
  refine lv_iconst (v := 0) X.1 X.2.1 dX6_ticks_1 (by decide) ?_
  refine lv_sipush (v := 1000) X.1 X.2.1 dX6_ticks_2 (by decide) ?_
  have ho := bnd_e hf
  clear hf
  obtain ⟨v1, w2, q3, hf⟩ := ho
  refine q_cS X M hS hl.1 (As := [.int x1, .int 0, .int 1000]) (m_X6_in x1 0 1000 _ _ q3) mlX6_152 gm_171 rfl ⟨(Nat.le_of_ble_eq_true rfl), (Nat.le_of_ble_eq_true rfl)⟩ (rest := []) rfl (Nat.le_of_ble_eq_true rfl) (mc := 0) (ms := 0) (MC := 0) (MS := 0) rfl rfl rfl rfl (by omega) (by omega) dX6_ticks_5 (st2 := [.int v1]) rfl (fun H locs M hS => ?_)
  refine lv_if_ne (tgt := 13) X.1 X.2.1 dX6_ticks_8 (by decide) (fun c4 => ?_) (fun c4 => ?_)
  · rw [if_neg c4] at hf
    refine q_aload_n X dX6_ticks_13 rfl (lv_at hl 0 rfl) ?_
    refine lv_dup X.1 X.2.1 dX6_ticks_14 rfl ?_
    have ho := gI_e hf
    clear hf
    obtain ⟨a5, v6, e7, k8, q9, hf⟩ := ho
    cases e7
    refine q_get X M flX6_156.g k8 (congrArg Value.int q9) dX6_ticks_15 ?_
    refine lv_iload_n X.1 X.2.1 dX6_ticks_18 rfl (lv_at hl 1 rfl) ?_
    refine lv_iadd X.1 X.2.1 dX6_ticks_19 ?_
    have ho := pI_e hf
    clear hf
    obtain ⟨a10, w11, e12, k13, q14, hf⟩ := ho
    cases e12
    refine q_putI X M hS flX6_156 (Or.inl rfl) k13 dX6_ticks_20 (fun H locs M hS => ?_)
    rw [q14] at M
    refine q_aload_n X dX6_ticks_23 rfl (lv_at hl 0 rfl) ?_
    have ho := gI_e hf
    clear hf
    obtain ⟨a15, v16, e17, k18, q19, hf⟩ := ho
    cases e17
    refine q_get X M flX6_156.g k18 (congrArg Value.int q19) dX6_ticks_24 ?_
    obtain rfl := Option.some.inj hf
    exact q_iret X M hS (by omega) (by omega) dX6_ticks_27
  · rw [if_pos c4] at hf
    refine lv_iconst (v := (-1)) X.1 X.2.1 dX6_ticks_11 (by decide) ?_
    obtain rfl := Option.some.inj hf
    exact q_iret X M hS (by omega) (by omega) dX6_ticks_12
theorem m_X6_ticks {l : Launch} {D : va_G} {aC : Nat → ClassId} {b0 : Nat} {w : Wd} (o : Nat) (x1 : Int32) (v : Int32) (w' : Wd) (hf : f_X6_ticks o x1 w = some (v, w')) : Ct l D aC b0 yX6_ticks (Cond.code yX6_ticks cX6_ticks 2 (some .int) :: Gw) rX6_ticks [va_rf (some o), .int x1] w (some (.int v)) w' :=
  q_met (by decide) (Nat.le_of_ble_eq_true rfl) (fun p e s m below meth c X M ls hl => e_X6_ticks X (res := (v, w')) o x1 w s.heap [] 0 0 ls hf M va_S.rf (by decide) (by decide) hl)
abbrev rX6_server : Room := { frames := 2, cells := 0, slots := 0, locals := 43 }
def f_X6_server_93 : Nat → Nat → Int32 → Int32 → Int32 → Wd → Option (Int32 × Wd)
  | 0, _, _, _, _, _ => none
  | n + 1, o, x1, x3, x4, w => if 8 ≤ x4 then (some (x3, w)) else (gR w (some o) 7 28 (fun v61 => aI w v61 102 x1 (fun v66 => if v66 = 0 then (some (x3, w)) else (gR w (some o) 7 21 (fun v73 => aI w v73 100 ((16 * x1) + x4) (fun v78 => (f_X6_server_93 n) o x1 (x3 + v78) (x4 + 1) w))))))
set_option maxHeartbeats 4000000 in
set_option maxRecDepth 100000 in
theorem b_X6_server_93 {l : Launch} {D : va_G} {aC : Nat → ClassId} {b0 : Nat} {p : Program} {e : Env} {s : State} {m : MethodId} {args : Array Value} {below : List Frame} {meth : Method} {c : Code} (X : Cx D aC p s m args meth c cX6_server RX6 5 "server" (some .int)) {res : (Int32 × Wd)} : ∀ (n : Nat) (o : Nat) (x1 : Int32) (x3 : Int32) (x4 : Int32) (w : Wd), BW l D aC b0 p e rX6_server s m args below meth c (Qe D aC b0 below args s 0 0 (some (.int res.1)) res.2) res 0 0 0 0 (f_X6_server_93 n o x1 x3 x4 w) w 93 5 [(0, va_rf (some o)), (1, .int x1), (3, .int x3), (4, .int x4)] [] := by
  intro n
  induction n with
  | zero =>
    intro o x1 x3 x4 w H locs cells slots ls hf
    rw [f_X6_server_93.eq_1] at hf
    cases hf
  | succ n ih =>
    intro o x1 x3 x4 w H locs cells slots ls hf M hS hc hs hl
    rw [f_X6_server_93.eq_2] at hf
    refine lv_iload X.1 X.2.1 dX6_server_93 (lv_at hl 3 rfl) ?_
    refine lv_bipush (v := 8) X.1 X.2.1 dX6_server_95 (by decide) ?_
    refine lv_icmp_ge (tgt := 130) X.1 X.2.1 dX6_server_97 (by decide) (fun c59 => ?_) (fun c59 => ?_)
    · rw [if_pos c59] at hf
      refine lv_iload_n X.1 X.2.1 dX6_server_130 rfl (lv_at hl 2 rfl) ?_
      obtain rfl := Option.some.inj hf
      exact q_iret X M hS (by omega) (by omega) dX6_server_131
    · rw [if_neg c59] at hf
      refine q_aload_n X dX6_server_100 rfl (lv_at hl 0 rfl) ?_
      have ho := gR_e hf
      clear hf
      obtain ⟨a60, v61, e62, k63, q64, hf⟩ := ho
      cases e62
      refine q_get X M flX6_74.g k63 (congrArg va_rf q64) dX6_server_101 ?_
      refine lv_iload_n X.1 X.2.1 dX6_server_104 rfl (lv_at hl 1 rfl) ?_
      have ho := aI_e hf
      clear hf
      obtain ⟨a65, v66, e67, k68, i69, q70, hf⟩ := ho
      cases e67
      refine q_zald X M k68 i69 dX6_server_105 ?_
      rw [q70]
      refine lv_if_eq (tgt := 130) X.1 X.2.1 dX6_server_106 (by decide) (fun c71 => ?_) (fun c71 => ?_)
      · rw [if_pos c71] at hf
        refine lv_iload_n X.1 X.2.1 dX6_server_130 rfl (lv_at hl 2 rfl) ?_
        obtain rfl := Option.some.inj hf
        exact q_iret X M hS (by omega) (by omega) dX6_server_131
      · rw [if_neg c71] at hf
        refine lv_iload_n X.1 X.2.1 dX6_server_109 rfl (lv_at hl 2 rfl) ?_
        refine q_aload_n X dX6_server_110 rfl (lv_at hl 0 rfl) ?_
        have ho := gR_e hf
        clear hf
        obtain ⟨a72, v73, e74, k75, q76, hf⟩ := ho
        cases e74
        refine q_get X M flX6_53.g k75 (congrArg va_rf q76) dX6_server_111 ?_
        refine lv_bipush (v := 16) X.1 X.2.1 dX6_server_114 (by decide) ?_
        refine lv_iload_n X.1 X.2.1 dX6_server_116 rfl (lv_at hl 1 rfl) ?_
        refine lv_imul X.1 X.2.1 dX6_server_117 ?_
        refine lv_iload X.1 X.2.1 dX6_server_118 (lv_at hl 3 rfl) ?_
        refine lv_iadd X.1 X.2.1 dX6_server_120 ?_
        have ho := aI_e hf
        clear hf
        obtain ⟨a77, v78, e79, k80, i81, q82, hf⟩ := ho
        cases e79
        refine q_iald X M k80 i81 dX6_server_121 ?_
        rw [q82]
        refine lv_iadd X.1 X.2.1 dX6_server_122 ?_
        refine lv_istore_n (i := 3) (lv' := [(3, .int (x3 + v78)), (0, va_rf (some o)), (1, .int x1), (4, .int x4)]) X.1 X.2.1 dX6_server_123 rfl hl (by decide) rfl (fun ls hl => ?_)
        refine lv_iinc (v := (x4 + 1)) (lv' := [(4, .int (x4 + 1)), (3, .int (x3 + v78)), (0, va_rf (some o)), (1, .int x1)]) X.1 X.2.1 dX6_server_124 hl (k := 3) rfl rfl (by decide) rfl (fun ls hl => ?_)
        refine lv_goto (tgt := 93) X.1 X.2.1 dX6_server_127 (by decide) ?_
        exact ih o x1 (x3 + v78) (x4 + 1) w _ _ _ _ _ hf M hS (by omega) (by omega) (lv_sub hl [2, 3, 1, 0] rfl)
def f_X6_server (o : Nat) (x1 : Int32) (x2 : Int32) (w : Wd) : Option (Int32 × Wd) := chk w (some o) 7 (fun a4 => bnd (f_X6_isServer a4 x1 w) (fun v1 w2 => if v1 = 0 then (some ((-1), w2)) else (if x2 = 0 then (gR w2 (some o) 7 28 (fun v10 => aI w2 v10 102 x1 (fun v15 => if v15 = 0 then (some (0, w2)) else (some (1, w2))))) else if x2 = 1 then (gR w2 (some o) 7 28 (fun v23 => aI w2 v23 102 x1 (fun v28 => if v28 = 0 then (some (0, w2)) else (gR w2 (some o) 7 29 (fun v35 => aI w2 v35 102 x1 (fun v40 => if v40 = 0 then (some (1, w2)) else (some (0, w2)))))))) else if x2 = 2 then (gR w2 (some o) 7 52 (fun v48 => aI w2 v48 100 x1 (fun v53 => some (v53, w2)))) else if x2 = 3 then ((f_X6_server_93 FU) o x1 0 0 w2) else (some ((-1), w2)))))
set_option maxHeartbeats 4000000 in
set_option maxRecDepth 100000 in
theorem e_X6_server {l : Launch} {D : va_G} {aC : Nat → ClassId} {b0 : Nat} {p : Program} {e : Env} {s : State} {m : MethodId} {args : Array Value} {below : List Frame} {meth : Method} {c : Code} (X : Cx D aC p s m args meth c cX6_server RX6 5 "server" (some .int)) {res : (Int32 × Wd)} (o : Nat) (x1 : Int32) (x2 : Int32) (w : Wd) : BW l D aC b0 p e rX6_server s m args below meth c (Qe D aC b0 below args s 0 0 (some (.int res.1)) res.2) res 0 0 0 0 (f_X6_server o x1 x2 w) w 0 5 [(0, va_rf (some o)), (1, .int x1), (2, .int x2)] [] := by
  intro H locs cells slots ls hf M hS hc hs hl
  unfold f_X6_server at hf
  refine q_aload_n X dX6_server_0 rfl (lv_at hl 0 rfl) ?_
  refine lv_iload_n X.1 X.2.1 dX6_server_1 rfl (lv_at hl 1 rfl) ?_
  have ho := chk_e hf
  clear hf
  obtain ⟨a4, e5, k6, hf⟩ := ho
  cases e5
  have ho := bnd_e hf
  clear hf
  obtain ⟨v1, w2, q3, hf⟩ := ho
  refine q_cV X M hS hl.1 (ci := 6) (r := (RX6, TX6, 53)) (As := [.int x1]) (m_X6_isServer o x1 _ _ q3) mlX6_201 gm_302 gm_303 rfl (by decide) k6 rfl ⟨(Nat.le_of_ble_eq_true rfl), (Nat.le_of_ble_eq_true rfl)⟩ (rest := []) rfl (Nat.le_of_ble_eq_true rfl) (mc := 0) (ms := 0) (MC := 0) (MS := 0) rfl rfl rfl rfl (by omega) (by omega) dX6_server_2 (st2 := [.int v1]) rfl (fun H locs M hS => ?_)
  refine lv_if_ne (tgt := 10) X.1 X.2.1 dX6_server_5 (by decide) (fun c7 => ?_) (fun c7 => ?_)
  · rw [if_neg c7] at hf
    refine lv_iconst (v := 0) X.1 X.2.1 dX6_server_10 (by decide) ?_
    refine lv_istore_n (i := 3) (lv' := [(3, .int 0), (0, va_rf (some o)), (1, .int x1), (2, .int x2)]) X.1 X.2.1 dX6_server_11 rfl hl (by decide) rfl (fun ls hl => ?_)
    refine lv_iload_n X.1 X.2.1 dX6_server_12 rfl (lv_at hl 3 rfl) ?_
    by_cases c8 : x2 = 0
    · rw [if_pos c8] at hf
      refine lv_tableIn (tgt := 44) (off := 31) X.1 X.2.1 dX6_server_13 (by rw [c8]; decide) (by rw [c8]; decide) (by rw [c8]; rfl) (by decide) ?_
      refine q_aload_n X dX6_server_44 rfl (lv_at hl 1 rfl) ?_
      have ho := gR_e hf
      clear hf
      obtain ⟨a9, v10, e11, k12, q13, hf⟩ := ho
      cases e11
      refine q_get X M flX6_74.g k12 (congrArg va_rf q13) dX6_server_45 ?_
      refine lv_iload_n X.1 X.2.1 dX6_server_48 rfl (lv_at hl 2 rfl) ?_
      have ho := aI_e hf
      clear hf
      obtain ⟨a14, v15, e16, k17, i18, q19, hf⟩ := ho
      cases e16
      refine q_zald X M k17 i18 dX6_server_49 ?_
      rw [q19]
      refine lv_if_eq (tgt := 57) X.1 X.2.1 dX6_server_50 (by decide) (fun c20 => ?_) (fun c20 => ?_)
      · rw [if_pos c20] at hf
        refine lv_iconst (v := 0) X.1 X.2.1 dX6_server_57 (by decide) ?_
        obtain rfl := Option.some.inj hf
        exact q_iret X M hS (by omega) (by omega) dX6_server_58
      · rw [if_neg c20] at hf
        refine lv_iconst (v := 1) X.1 X.2.1 dX6_server_53 (by decide) ?_
        refine lv_goto (tgt := 58) X.1 X.2.1 dX6_server_54 (by decide) ?_
        obtain rfl := Option.some.inj hf
        exact q_iret X M hS (by omega) (by omega) dX6_server_58
    rw [if_neg c8] at hf
    by_cases c21 : x2 = 1
    · rw [if_pos c21] at hf
      refine lv_tableIn (tgt := 59) (off := 46) X.1 X.2.1 dX6_server_13 (by rw [c21]; decide) (by rw [c21]; decide) (by rw [c21]; rfl) (by decide) ?_
      refine q_aload_n X dX6_server_59 rfl (lv_at hl 1 rfl) ?_
      have ho := gR_e hf
      clear hf
      obtain ⟨a22, v23, e24, k25, q26, hf⟩ := ho
      cases e24
      refine q_get X M flX6_74.g k25 (congrArg va_rf q26) dX6_server_60 ?_
      refine lv_iload_n X.1 X.2.1 dX6_server_63 rfl (lv_at hl 2 rfl) ?_
      have ho := aI_e hf
      clear hf
      obtain ⟨a27, v28, e29, k30, i31, q32, hf⟩ := ho
      cases e29
      refine q_zald X M k30 i31 dX6_server_64 ?_
      rw [q32]
      refine lv_if_eq (tgt := 81) X.1 X.2.1 dX6_server_65 (by decide) (fun c33 => ?_) (fun c33 => ?_)
      · rw [if_pos c33] at hf
        refine lv_iconst (v := 0) X.1 X.2.1 dX6_server_81 (by decide) ?_
        obtain rfl := Option.some.inj hf
        exact q_iret X M hS (by omega) (by omega) dX6_server_82
      · rw [if_neg c33] at hf
        refine q_aload_n X dX6_server_68 rfl (lv_at hl 1 rfl) ?_
        have ho := gR_e hf
        clear hf
        obtain ⟨a34, v35, e36, k37, q38, hf⟩ := ho
        cases e36
        refine q_get X M flX6_78.g k37 (congrArg va_rf q38) dX6_server_69 ?_
        refine lv_iload_n X.1 X.2.1 dX6_server_72 rfl (lv_at hl 2 rfl) ?_
        have ho := aI_e hf
        clear hf
        obtain ⟨a39, v40, e41, k42, i43, q44, hf⟩ := ho
        cases e41
        refine q_zald X M k42 i43 dX6_server_73 ?_
        rw [q44]
        refine lv_if_ne (tgt := 81) X.1 X.2.1 dX6_server_74 (by decide) (fun c45 => ?_) (fun c45 => ?_)
        · rw [if_neg c45] at hf
          refine lv_iconst (v := 0) X.1 X.2.1 dX6_server_81 (by decide) ?_
          obtain rfl := Option.some.inj hf
          exact q_iret X M hS (by omega) (by omega) dX6_server_82
        · rw [if_pos c45] at hf
          refine lv_iconst (v := 1) X.1 X.2.1 dX6_server_77 (by decide) ?_
          refine lv_goto (tgt := 82) X.1 X.2.1 dX6_server_78 (by decide) ?_
          obtain rfl := Option.some.inj hf
          exact q_iret X M hS (by omega) (by omega) dX6_server_82
    rw [if_neg c21] at hf
    by_cases c46 : x2 = 2
    · rw [if_pos c46] at hf
      refine lv_tableIn (tgt := 83) (off := 70) X.1 X.2.1 dX6_server_13 (by rw [c46]; decide) (by rw [c46]; decide) (by rw [c46]; rfl) (by decide) ?_
      refine q_aload_n X dX6_server_83 rfl (lv_at hl 1 rfl) ?_
      have ho := gR_e hf
      clear hf
      obtain ⟨a47, v48, e49, k50, q51, hf⟩ := ho
      cases e49
      refine q_get X M flX6_142.g k50 (congrArg va_rf q51) dX6_server_84 ?_
      refine lv_iload_n X.1 X.2.1 dX6_server_87 rfl (lv_at hl 2 rfl) ?_
      have ho := aI_e hf
      clear hf
      obtain ⟨a52, v53, e54, k55, i56, q57, hf⟩ := ho
      cases e54
      refine q_iald X M k55 i56 dX6_server_88 ?_
      rw [q57]
      obtain rfl := Option.some.inj hf
      exact q_iret X M hS (by omega) (by omega) dX6_server_89
    rw [if_neg c46] at hf
    by_cases c58 : x2 = 3
    · rw [if_pos c58] at hf
      refine lv_tableIn (tgt := 90) (off := 77) X.1 X.2.1 dX6_server_13 (by rw [c58]; decide) (by rw [c58]; decide) (by rw [c58]; rfl) (by decide) ?_
      refine lv_iconst (v := 0) X.1 X.2.1 dX6_server_90 (by decide) ?_
      refine lv_istore (i := 4) (lv' := [(4, .int 0), (3, .int 0), (0, va_rf (some o)), (1, .int x1), (2, .int x2)]) X.1 X.2.1 dX6_server_91 hl (by decide) rfl (fun ls hl => ?_)
      exact (b_X6_server_93 X FU) o x1 0 0 w2 _ _ _ _ _ hf M hS (by omega) (by omega) (lv_sub hl [2, 3, 1, 0] rfl)
    rw [if_neg c58] at hf
    have ht13 : x2.toInt < 0 ∨ 3 < x2.toInt := by
      have g0 : x2.toInt ≠ 0 := by simpa using ne_i c8
      have g1 : x2.toInt ≠ 1 := by simpa using ne_i c21
      have g2 : x2.toInt ≠ 2 := by simpa using ne_i c46
      have g3 : x2.toInt ≠ 3 := by simpa using ne_i c58
      omega
    refine lv_tableOut (tgt := 132) X.1 X.2.1 dX6_server_13 ht13 (by decide) ?_
    refine lv_iconst (v := (-1)) X.1 X.2.1 dX6_server_132 (by decide) ?_
    obtain rfl := Option.some.inj hf
    exact q_iret X M hS (by omega) (by omega) dX6_server_133
  · rw [if_pos c7] at hf
    refine lv_iconst (v := (-1)) X.1 X.2.1 dX6_server_8 (by decide) ?_
    obtain rfl := Option.some.inj hf
    exact q_iret X M hS (by omega) (by omega) dX6_server_9
theorem m_X6_server {l : Launch} {D : va_G} {aC : Nat → ClassId} {b0 : Nat} {w : Wd} (o : Nat) (x1 : Int32) (x2 : Int32) (v : Int32) (w' : Wd) (hf : f_X6_server o x1 x2 w = some (v, w')) : Ct l D aC b0 yX6_server (Cond.code yX6_server cX6_server 5 (some .int) :: Gw) rX6_server [va_rf (some o), .int x1, .int x2] w (some (.int v)) w' :=
  q_met (by decide) (Nat.le_of_ble_eq_true rfl) (fun p e s m below meth c X M ls hl => e_X6_server X (res := (v, w')) o x1 x2 w s.heap [] 0 0 ls hf M va_S.rf (by decide) (by decide) hl)
abbrev rX6_store : Room := { frames := 0, cells := 0, slots := 0, locals := 0 }
def f_X6_store (o : Nat) (x1 : Int32) (w : Wd) : Option (Int32 × Wd) := gR w (some o) 7 28 (fun v2 => aI w v2 102 x1 (fun v7 => if v7 = 0 then (some (((16 * x1) + 8), w)) else (some ((16 * x1), w))))
set_option maxHeartbeats 4000000 in
set_option maxRecDepth 100000 in
theorem e_X6_store {l : Launch} {D : va_G} {aC : Nat → ClassId} {b0 : Nat} {p : Program} {e : Env} {s : State} {m : MethodId} {args : Array Value} {below : List Frame} {meth : Method} {c : Code} (X : Cx D aC p s m args meth c cX6_store RX6 2 "store" (some .int)) {res : (Int32 × Wd)} (o : Nat) (x1 : Int32) (w : Wd) : BW l D aC b0 p e rX6_store s m args below meth c (Qe D aC b0 below args s 0 0 (some (.int res.1)) res.2) res 0 0 0 0 (f_X6_store o x1 w) w 0 2 [(0, va_rf (some o)), (1, .int x1)] [] := by
  intro H locs cells slots ls hf M hS hc hs hl
  unfold f_X6_store at hf
  refine q_aload_n X dX6_store_0 rfl (lv_at hl 0 rfl) ?_
  have ho := gR_e hf
  clear hf
  obtain ⟨a1, v2, e3, k4, q5, hf⟩ := ho
  cases e3
  refine q_get X M flX6_74.g k4 (congrArg va_rf q5) dX6_store_1 ?_
  refine lv_iload_n X.1 X.2.1 dX6_store_4 rfl (lv_at hl 1 rfl) ?_
  have ho := aI_e hf
  clear hf
  obtain ⟨a6, v7, e8, k9, i10, q11, hf⟩ := ho
  cases e8
  refine q_zald X M k9 i10 dX6_store_5 ?_
  rw [q11]
  refine lv_if_eq (tgt := 16) X.1 X.2.1 dX6_store_6 (by decide) (fun c12 => ?_) (fun c12 => ?_)
  · rw [if_pos c12] at hf
    refine lv_bipush (v := 16) X.1 X.2.1 dX6_store_16 (by decide) ?_
    refine lv_iload_n X.1 X.2.1 dX6_store_18 rfl (lv_at hl 1 rfl) ?_
    refine lv_imul X.1 X.2.1 dX6_store_19 ?_
    refine lv_bipush (v := 8) X.1 X.2.1 dX6_store_20 (by decide) ?_
    refine lv_iadd X.1 X.2.1 dX6_store_22 ?_
    obtain rfl := Option.some.inj hf
    exact q_iret X M hS (by omega) (by omega) dX6_store_23
  · rw [if_neg c12] at hf
    refine lv_bipush (v := 16) X.1 X.2.1 dX6_store_9 (by decide) ?_
    refine lv_iload_n X.1 X.2.1 dX6_store_11 rfl (lv_at hl 1 rfl) ?_
    refine lv_imul X.1 X.2.1 dX6_store_12 ?_
    refine lv_goto (tgt := 23) X.1 X.2.1 dX6_store_13 (by decide) ?_
    obtain rfl := Option.some.inj hf
    exact q_iret X M hS (by omega) (by omega) dX6_store_23
theorem m_X6_store {l : Launch} {D : va_G} {aC : Nat → ClassId} {b0 : Nat} {w : Wd} (o : Nat) (x1 : Int32) (v : Int32) (w' : Wd) (hf : f_X6_store o x1 w = some (v, w')) : Ct l D aC b0 yX6_store (Cond.code yX6_store cX6_store 2 (some .int) :: Gw) rX6_store [va_rf (some o), .int x1] w (some (.int v)) w' :=
  q_met (by decide) (Nat.le_of_ble_eq_true rfl) (fun p e s m below meth c X M ls hl => e_X6_store X (res := (v, w')) o x1 w s.heap [] 0 0 ls hf M va_S.rf (by decide) (by decide) hl)
