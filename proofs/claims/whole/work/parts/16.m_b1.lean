abbrev rX5_init : Room := { frames := 3, cells := 805, slots := 12649, locals := 72 }
def f_X5_init_53 (K82 : Nat → Int32 → Wd → Option (Unit × Wd)) : Nat → Nat → Int32 → Int32 → Wd → Option (Unit × Wd)
  | 0, _, _, _, _ => none
  | n + 1, o, x3, x4, w => if x3 ≤ x4 then (K82 o x3 w) else (gR w (some o) 6 0 (fun v19 => nwO w 5 (fun w23 => bnd (f_X4_init (wn w) x4 x3 w23) (fun v25 w26 => tR w26 v19 106 x4 (some (wn w)) 5 (fun w29 => (f_X5_init_53 K82 n) o x3 (x4 + 1) w29)))))
set_option maxHeartbeats 4000000 in
set_option maxRecDepth 100000 in
theorem b_X5_init_53 {l : Launch} {D : va_G} {aC : Nat → ClassId} {b0 : Nat} {p : Program} {e : Env} {s : State} {m : MethodId} {args : Array Value} {below : List Frame} {meth : Method} {c : Code} (X : Cx D aC p s m args meth c cX5_init RX5 5 "<init>" none) {res : (Unit × Wd)} {K82 : Nat → Int32 → Wd → Option (Unit × Wd)} (hK82 : ∀ (o : Nat) (x3 : Int32) (w : Wd), BW l D aC b0 p e rX5_init s m args below meth c (Qe D aC b0 below args s 805 12649 none res.2) res 805 12649 59 3215 (K82 o x3 w) w 82 5 [(0, va_rf (some o)), (3, .int x3)] []) : ∀ (n : Nat) (o : Nat) (x3 : Int32) (x4 : Int32) (w : Wd), BW l D aC b0 p e rX5_init s m args below meth c (Qe D aC b0 below args s 805 12649 none res.2) res 805 12649 (n * 149 + 59) (n * 1886 + 3215) (f_X5_init_53 K82 n o x3 x4 w) w 53 5 [(0, va_rf (some o)), (3, .int x3), (4, .int x4)] [] := by
  intro n
  induction n with
  | zero =>
    intro o x3 x4 w H locs cells slots ls hf
    rw [f_X5_init_53.eq_1] at hf
    cases hf
  | succ n ih =>
    intro o x3 x4 w H locs cells slots ls hf M hS hc hs hl
    rw [f_X5_init_53.eq_2] at hf
    refine lv_iload X.1 X.2.1 dX5_init_53 (lv_at hl 2 rfl) ?_
    refine lv_iload_n X.1 X.2.1 dX5_init_55 rfl (lv_at hl 1 rfl) ?_
    refine lv_icmp_ge (tgt := 82) X.1 X.2.1 dX5_init_56 (by decide) (fun c17 => ?_) (fun c17 => ?_)
    · rw [if_pos c17] at hf
      exact hK82 o x3 w _ _ _ _ _ hf M hS (by omega) (by omega) (lv_sub hl [0, 1] rfl)
    · rw [if_neg c17] at hf
      refine q_aload_n X dX5_init_59 rfl (lv_at hl 0 rfl) ?_
      have ho := gR_e hf
      clear hf
      obtain ⟨a18, v19, e20, k21, q22, hf⟩ := ho
      cases e20
      refine q_get X M flX5_15.g k21 (congrArg va_rf q22) dX5_init_60 ?_
      refine lv_iload X.1 X.2.1 dX5_init_63 (lv_at hl 2 rfl) ?_
      have ho := nwO_e hf
      clear hf
      obtain ⟨w23, q24, hf⟩ := ho
      refine q_new X M hS clX5_13 (MC := 805) (MS := 12649) rfl rfl (by omega) (by omega) dX5_init_65 (fun H M hS => ?_)
      rw [q24] at M
      refine lv_dup X.1 X.2.1 dX5_init_68 rfl ?_
      refine lv_iload X.1 X.2.1 dX5_init_69 (lv_at hl 2 rfl) ?_
      refine lv_iload_n X.1 X.2.1 dX5_init_71 rfl (lv_at hl 1 rfl) ?_
      have ho := bnd_e hf
      clear hf
      obtain ⟨v25, w26, q27, hf⟩ := ho
      refine q_cI X M hS hl.1 (As := [.int x4, .int x3]) (m_X4_init (wn w) x4 x3 _ _ q27) mlX5_19 gm_31 rfl rfl ⟨(Nat.le_of_ble_eq_true rfl), (Nat.le_of_ble_eq_true rfl)⟩ (rest := [va_rf (some (wn w)), .int x4, va_rf v19]) rfl (by simp [cat1, cati, catl]) (mc := 148) (ms := 1880) (MC := 805) (MS := 12649) rfl rfl rfl rfl (by omega) (by omega) dX5_init_72 (fun H locs M hS => ?_)
      have ho := tR_e hf
      clear hf
      obtain ⟨a28, w29, e30, k31, i32, z34, q33, hf⟩ := ho
      cases e30
      refine q_aast X M hS (Or.inr (Or.inr (Or.inr ⟨rfl, rfl, rfl⟩))) k31 z34 i32 dX5_init_75 (fun H locs M hS => ?_)
      rw [q33] at M
      refine lv_iinc (v := (x4 + 1)) (lv' := [(4, .int (x4 + 1)), (0, va_rf (some o)), (3, .int x3)]) X.1 X.2.1 dX5_init_76 hl (k := 2) rfl rfl (by decide) rfl (fun ls hl => ?_)
      refine lv_goto (tgt := 53) X.1 X.2.1 dX5_init_79 (by decide) ?_
      exact ih o x3 (x4 + 1) w29 _ _ _ _ _ hf M hS (by omega) (by omega) (lv_sub hl [1, 2, 0] rfl)
def f_X5_init_94 (K124 : Nat → Wd → Option (Unit × Wd)) : Nat → Nat → Int32 → Int32 → Wd → Option (Unit × Wd)
  | 0, _, _, _, _ => none
  | n + 1, o, x3, x4, w => if 6 ≤ x4 then (K124 o w) else (gR w (some o) 6 1 (fun v46 => nwO w 2 (fun w50 => bnd (f_X1_init (wn w) x4 x3 w50) (fun v52 w53 => tR w53 v46 104 x4 (some (wn w)) 2 (fun w56 => (f_X5_init_94 K124 n) o x3 (x4 + 1) w56)))))
set_option maxHeartbeats 4000000 in
set_option maxRecDepth 100000 in
theorem b_X5_init_94 {l : Launch} {D : va_G} {aC : Nat → ClassId} {b0 : Nat} {p : Program} {e : Env} {s : State} {m : MethodId} {args : Array Value} {below : List Frame} {meth : Method} {c : Code} (X : Cx D aC p s m args meth c cX5_init RX5 5 "<init>" none) {res : (Unit × Wd)} {K124 : Nat → Wd → Option (Unit × Wd)} (hK124 : ∀ (o : Nat) (w : Wd), BW l D aC b0 p e rX5_init s m args below meth c (Qe D aC b0 below args s 805 12649 none res.2) res 805 12649 2 514 (K124 o w) w 124 5 [(0, va_rf (some o))] []) : ∀ (n : Nat) (o : Nat) (x3 : Int32) (x4 : Int32) (w : Wd), BW l D aC b0 p e rX5_init s m args below meth c (Qe D aC b0 below args s 805 12649 none res.2) res 805 12649 (n * 8 + 2) (n * 385 + 514) (f_X5_init_94 K124 n o x3 x4 w) w 94 5 [(0, va_rf (some o)), (3, .int x3), (4, .int x4)] [] := by
  intro n
  induction n with
  | zero =>
    intro o x3 x4 w H locs cells slots ls hf
    rw [f_X5_init_94.eq_1] at hf
    cases hf
  | succ n ih =>
    intro o x3 x4 w H locs cells slots ls hf M hS hc hs hl
    rw [f_X5_init_94.eq_2] at hf
    refine lv_iload X.1 X.2.1 dX5_init_94 (lv_at hl 2 rfl) ?_
    refine lv_bipush (v := 6) X.1 X.2.1 dX5_init_96 (by decide) ?_
    refine lv_icmp_ge (tgt := 124) X.1 X.2.1 dX5_init_98 (by decide) (fun c44 => ?_) (fun c44 => ?_)
    · rw [if_pos c44] at hf
      exact hK124 o w _ _ _ _ _ hf M hS (by omega) (by omega) (lv_sub hl [0] rfl)
    · rw [if_neg c44] at hf
      refine q_aload_n X dX5_init_101 rfl (lv_at hl 0 rfl) ?_
      have ho := gR_e hf
      clear hf
      obtain ⟨a45, v46, e47, k48, q49, hf⟩ := ho
      cases e47
      refine q_get X M flX5_24.g k48 (congrArg va_rf q49) dX5_init_102 ?_
      refine lv_iload X.1 X.2.1 dX5_init_105 (lv_at hl 2 rfl) ?_
      have ho := nwO_e hf
      clear hf
      obtain ⟨w50, q51, hf⟩ := ho
      refine q_new X M hS clX5_22 (MC := 805) (MS := 12649) rfl rfl (by omega) (by omega) dX5_init_107 (fun H M hS => ?_)
      rw [q51] at M
      refine lv_dup X.1 X.2.1 dX5_init_110 rfl ?_
      refine lv_iload X.1 X.2.1 dX5_init_111 (lv_at hl 2 rfl) ?_
      refine lv_iload_n X.1 X.2.1 dX5_init_113 rfl (lv_at hl 1 rfl) ?_
      have ho := bnd_e hf
      clear hf
      obtain ⟨v52, w53, q54, hf⟩ := ho
      refine q_cI X M hS hl.1 (As := [.int x4, .int x3]) (m_X1_init (wn w) x4 x3 _ _ q54) mlX5_28 gm_83 rfl rfl ⟨(Nat.le_of_ble_eq_true rfl), (Nat.le_of_ble_eq_true rfl)⟩ (rest := [va_rf (some (wn w)), .int x4, va_rf v46]) rfl (by simp [cat1, cati, catl]) (mc := 7) (ms := 374) (MC := 805) (MS := 12649) rfl rfl rfl rfl (by omega) (by omega) dX5_init_114 (fun H locs M hS => ?_)
      have ho := tR_e hf
      clear hf
      obtain ⟨a55, w56, e57, k58, i59, z61, q60, hf⟩ := ho
      cases e57
      refine q_aast X M hS (Or.inr (Or.inl ⟨rfl, rfl, rfl⟩)) k58 z61 i59 dX5_init_117 (fun H locs M hS => ?_)
      rw [q60] at M
      refine lv_iinc (v := (x4 + 1)) (lv' := [(4, .int (x4 + 1)), (0, va_rf (some o)), (3, .int x3)]) X.1 X.2.1 dX5_init_118 hl (k := 2) rfl rfl (by decide) rfl (fun ls hl => ?_)
      refine lv_goto (tgt := 94) X.1 X.2.1 dX5_init_121 (by decide) ?_
      exact ih o x3 (x4 + 1) w56 _ _ _ _ _ hf M hS (by omega) (by omega) (lv_sub hl [1, 2, 0] rfl)
def f_X5_init_124 (o : Nat) (w : Wd) : Option (Unit × Wd) := nwO w 4 (fun w62 => bnd (f_X3_init (wn w) 400 w62) (fun v64 w65 => pR w65 (some o) 6 2 (some (wn w)) (fun w68 => some ((), w68))))
set_option maxHeartbeats 4000000 in
set_option maxRecDepth 100000 in
theorem b_X5_init_124 {l : Launch} {D : va_G} {aC : Nat → ClassId} {b0 : Nat} {p : Program} {e : Env} {s : State} {m : MethodId} {args : Array Value} {below : List Frame} {meth : Method} {c : Code} (X : Cx D aC p s m args meth c cX5_init RX5 5 "<init>" none) {res : (Unit × Wd)} : ∀ (o : Nat) (w : Wd), BW l D aC b0 p e rX5_init s m args below meth c (Qe D aC b0 below args s 805 12649 none res.2) res 805 12649 2 514 (f_X5_init_124 o w) w 124 5 [(0, va_rf (some o))] [] := by
  intro o w H locs cells slots ls hf M hS hc hs hl
  unfold f_X5_init_124 at hf
  refine q_aload_n X dX5_init_124 rfl (lv_at hl 0 rfl) ?_
  have ho := nwO_e hf
  clear hf
  obtain ⟨w62, q63, hf⟩ := ho
  refine q_new X M hS clX5_29 (MC := 805) (MS := 12649) rfl rfl (by omega) (by omega) dX5_init_125 (fun H M hS => ?_)
  rw [q63] at M
  refine lv_dup X.1 X.2.1 dX5_init_128 rfl ?_
  refine lv_sipush (v := 400) X.1 X.2.1 dX5_init_129 (by decide) ?_
  have ho := bnd_e hf
  clear hf
  obtain ⟨v64, w65, q66, hf⟩ := ho
  refine q_cI X M hS hl.1 (As := [.int 400]) (m_X3_init (wn w) 400 _ _ q66) mlX5_31 gm_52 rfl rfl ⟨(Nat.le_of_ble_eq_true rfl), (Nat.le_of_ble_eq_true rfl)⟩ (rest := [va_rf (some (wn w)), va_rf (some o)]) rfl (Nat.le_of_ble_eq_true rfl) (mc := 1) (ms := 512) (MC := 805) (MS := 12649) rfl rfl rfl rfl (by omega) (by omega) dX5_init_132 (fun H locs M hS => ?_)
  have ho := pR_e hf
  clear hf
  obtain ⟨a67, w68, e69, k70, q71, hf⟩ := ho
  cases e69
  refine q_putR X M hS flX5_34 (Or.inr rfl) k70 dX5_init_135 (fun H locs M hS => ?_)
  rw [q71] at M
  obtain rfl := Option.some.inj hf
  exact q_vret X M hS (by omega) (by omega) dX5_init_138
def f_X5_init_82 (o : Nat) (x3 : Int32) (w : Wd) : Option (Unit × Wd) := nwA w 104 6 6 (fun w35 => pR w35 (some o) 6 1 (some (wn w)) (fun w40 => (f_X5_init_94 (f_X5_init_124) 7) o x3 0 w40))
set_option maxHeartbeats 4000000 in
set_option maxRecDepth 100000 in
theorem b_X5_init_82 {l : Launch} {D : va_G} {aC : Nat → ClassId} {b0 : Nat} {p : Program} {e : Env} {s : State} {m : MethodId} {args : Array Value} {below : List Frame} {meth : Method} {c : Code} (X : Cx D aC p s m args meth c cX5_init RX5 5 "<init>" none) {res : (Unit × Wd)} : ∀ (o : Nat) (x3 : Int32) (w : Wd), BW l D aC b0 p e rX5_init s m args below meth c (Qe D aC b0 below args s 805 12649 none res.2) res 805 12649 59 3215 (f_X5_init_82 o x3 w) w 82 5 [(0, va_rf (some o)), (3, .int x3)] [] := by
  intro o x3 w H locs cells slots ls hf M hS hc hs hl
  unfold f_X5_init_82 at hf
  refine q_aload_n X dX5_init_82 rfl (lv_at hl 0 rfl) ?_
  refine lv_bipush (v := 6) X.1 X.2.1 dX5_init_83 (by decide) ?_
  have ho := nwA_e hf
  clear hf
  obtain ⟨w35, z36, z37, q38, hf⟩ := ho
  refine q_newq X M hS (t := 4) (Or.inr (Or.inl ⟨rfl, rfl, rfl⟩))  gm_22 z36 (bd := 6) z37 (by decide) (MC := 805) (MS := 12649) rfl rfl (by omega) (by omega) dX5_init_85 (fun H M hS => ?_)
  rw [q38] at M
  have ho := pR_e hf
  clear hf
  obtain ⟨a39, w40, e41, k42, q43, hf⟩ := ho
  cases e41
  refine q_putR X M hS flX5_24 (Or.inr rfl) k42 dX5_init_88 (fun H locs M hS => ?_)
  rw [q43] at M
  refine lv_iconst (v := 0) X.1 X.2.1 dX5_init_91 (by decide) ?_
  refine lv_istore (i := 4) (lv' := [(4, .int 0), (0, va_rf (some o)), (3, .int x3)]) X.1 X.2.1 dX5_init_92 hl (by decide) rfl (fun ls hl => ?_)
  exact (b_X5_init_94 X (b_X5_init_124 X) 7) o x3 0 w40 _ _ _ _ _ hf M hS (by omega) (by omega) (lv_sub hl [1, 2, 0] rfl)
def f_X5_init_39 (o : Nat) (x3 : Int32) (y0 : Option Nat) (y1 : Int32) (w : Wd) : Option (Unit × Wd) := pI w y0 6 3 y1 (fun w4 => nwA w4 106 x3 4 (fun w8 => pR w8 (some o) 6 0 (some (wn w4)) (fun w13 => (f_X5_init_53 (f_X5_init_82) 5) o x3 0 w13)))
set_option maxHeartbeats 4000000 in
set_option maxRecDepth 100000 in
theorem b_X5_init_39 {l : Launch} {D : va_G} {aC : Nat → ClassId} {b0 : Nat} {p : Program} {e : Env} {s : State} {m : MethodId} {args : Array Value} {below : List Frame} {meth : Method} {c : Code} (X : Cx D aC p s m args meth c cX5_init RX5 5 "<init>" none) {res : (Unit × Wd)} : ∀ (o : Nat) (x3 : Int32) (y0 : Option Nat) (y1 : Int32) (w : Wd), BW l D aC b0 p e rX5_init s m args below meth c (Qe D aC b0 below args s 805 12649 none res.2) res 805 12649 805 12649 (f_X5_init_39 o x3 y0 y1 w) w 39 5 [(0, va_rf (some o)), (3, .int x3)] [.int y1, va_rf y0] := by
  intro o x3 y0 y1 w H locs cells slots ls hf M hS hc hs hl
  unfold f_X5_init_39 at hf
  have ho := pI_e hf
  clear hf
  obtain ⟨a3, w4, e5, k6, q7, hf⟩ := ho
  cases e5
  refine q_putI X M hS flX5_9 (Or.inr rfl) k6 dX5_init_39 (fun H locs M hS => ?_)
  rw [q7] at M
  refine q_aload_n X dX5_init_42 rfl (lv_at hl 0 rfl) ?_
  refine lv_iload_n X.1 X.2.1 dX5_init_43 rfl (lv_at hl 1 rfl) ?_
  have ho := nwA_e hf
  clear hf
  obtain ⟨w8, z9, z10, q11, hf⟩ := ho
  refine q_newq X M hS (t := 6) (Or.inr (Or.inr (Or.inr ⟨rfl, rfl, rfl⟩)))  gm_18 z9 (bd := 4) z10 (by decide) (MC := 805) (MS := 12649) rfl rfl (by omega) (by omega) dX5_init_44 (fun H M hS => ?_)
  rw [q11] at M
  have ho := pR_e hf
  clear hf
  obtain ⟨a12, w13, e14, k15, q16, hf⟩ := ho
  cases e14
  refine q_putR X M hS flX5_15 (Or.inr rfl) k15 dX5_init_47 (fun H locs M hS => ?_)
  rw [q16] at M
  refine lv_iconst (v := 0) X.1 X.2.1 dX5_init_50 (by decide) ?_
  refine lv_istore (i := 4) (lv' := [(4, .int 0), (0, va_rf (some o)), (3, .int x3)]) X.1 X.2.1 dX5_init_51 hl (by decide) rfl (fun ls hl => ?_)
  exact (b_X5_init_53 X (b_X5_init_82 X) 5) o x3 0 w13 _ _ _ _ _ hf M hS (by omega) (by omega) (lv_sub hl [1, 2, 0] rfl)
def f_X5_init_37 (o : Nat) (x3 : Int32) (y0 : Option Nat) (w : Wd) : Option (Unit × Wd) := (f_X5_init_39) o x3 y0 50 w
set_option maxHeartbeats 4000000 in
set_option maxRecDepth 100000 in
theorem b_X5_init_37 {l : Launch} {D : va_G} {aC : Nat → ClassId} {b0 : Nat} {p : Program} {e : Env} {s : State} {m : MethodId} {args : Array Value} {below : List Frame} {meth : Method} {c : Code} (X : Cx D aC p s m args meth c cX5_init RX5 5 "<init>" none) {res : (Unit × Wd)} : ∀ (o : Nat) (x3 : Int32) (y0 : Option Nat) (w : Wd), BW l D aC b0 p e rX5_init s m args below meth c (Qe D aC b0 below args s 805 12649 none res.2) res 805 12649 805 12649 (f_X5_init_37 o x3 y0 w) w 37 5 [(0, va_rf (some o)), (3, .int x3)] [va_rf y0] := by
  intro o x3 y0 w H locs cells slots ls hf M hS hc hs hl
  unfold f_X5_init_37 at hf
  refine lv_bipush (v := 50) X.1 X.2.1 dX5_init_37 (by decide) ?_
  exact (b_X5_init_39 X) o x3 y0 50 w _ _ _ _ _ hf M hS (by omega) (by omega) (lv_sub hl [0, 1] rfl)
def f_X5_init_19 (o : Nat) (x2 : Int32) (y0 : Int32) (w : Wd) : Option (Unit × Wd) := if x2 < 1 then ((f_X5_init_37) o y0 (some o) w) else (if 1000 < x2 then ((f_X5_init_37) o y0 (some o) w) else ((f_X5_init_39) o y0 (some o) x2 w))
set_option maxHeartbeats 4000000 in
set_option maxRecDepth 100000 in
theorem b_X5_init_19 {l : Launch} {D : va_G} {aC : Nat → ClassId} {b0 : Nat} {p : Program} {e : Env} {s : State} {m : MethodId} {args : Array Value} {below : List Frame} {meth : Method} {c : Code} (X : Cx D aC p s m args meth c cX5_init RX5 5 "<init>" none) {res : (Unit × Wd)} : ∀ (o : Nat) (x2 : Int32) (y0 : Int32) (w : Wd), BW l D aC b0 p e rX5_init s m args below meth c (Qe D aC b0 below args s 805 12649 none res.2) res 805 12649 805 12649 (f_X5_init_19 o x2 y0 w) w 19 5 [(0, va_rf (some o)), (2, .int x2)] [.int y0] := by
  intro o x2 y0 w H locs cells slots ls hf M hS hc hs hl
  unfold f_X5_init_19 at hf
  refine lv_istore_n (i := 3) (lv' := [(3, .int y0), (0, va_rf (some o)), (2, .int x2)]) X.1 X.2.1 dX5_init_19 rfl hl (by decide) rfl (fun ls hl => ?_)
  refine q_aload_n X dX5_init_20 rfl (lv_at hl 1 rfl) ?_
  refine lv_iload_n X.1 X.2.1 dX5_init_21 rfl (lv_at hl 2 rfl) ?_
  refine lv_iconst (v := 1) X.1 X.2.1 dX5_init_22 (by decide) ?_
  refine lv_icmp_lt (tgt := 37) X.1 X.2.1 dX5_init_23 (by decide) (fun c2 => ?_) (fun c2 => ?_)
  · rw [if_pos c2] at hf
    exact (b_X5_init_37 X) o y0 (some o) w _ _ _ _ _ hf M hS (by omega) (by omega) (lv_sub hl [1, 0] rfl)
  · rw [if_neg c2] at hf
    refine lv_iload_n X.1 X.2.1 dX5_init_26 rfl (lv_at hl 2 rfl) ?_
    refine lv_sipush (v := 1000) X.1 X.2.1 dX5_init_27 (by decide) ?_
    refine lv_icmp_gt (tgt := 37) X.1 X.2.1 dX5_init_30 (by decide) (fun c72 => ?_) (fun c72 => ?_)
    · rw [if_pos c72] at hf
      exact (b_X5_init_37 X) o y0 (some o) w _ _ _ _ _ hf M hS (by omega) (by omega) (lv_sub hl [1, 0] rfl)
    · rw [if_neg c72] at hf
      refine lv_iload_n X.1 X.2.1 dX5_init_33 rfl (lv_at hl 2 rfl) ?_
      refine lv_goto (tgt := 39) X.1 X.2.1 dX5_init_34 (by decide) ?_
      exact (b_X5_init_39 X) o y0 (some o) x2 w _ _ _ _ _ hf M hS (by omega) (by omega) (lv_sub hl [1, 0] rfl)
def f_X5_init_18 (o : Nat) (x2 : Int32) (w : Wd) : Option (Unit × Wd) := (f_X5_init_19) o x2 3 w
set_option maxHeartbeats 4000000 in
set_option maxRecDepth 100000 in
theorem b_X5_init_18 {l : Launch} {D : va_G} {aC : Nat → ClassId} {b0 : Nat} {p : Program} {e : Env} {s : State} {m : MethodId} {args : Array Value} {below : List Frame} {meth : Method} {c : Code} (X : Cx D aC p s m args meth c cX5_init RX5 5 "<init>" none) {res : (Unit × Wd)} : ∀ (o : Nat) (x2 : Int32) (w : Wd), BW l D aC b0 p e rX5_init s m args below meth c (Qe D aC b0 below args s 805 12649 none res.2) res 805 12649 805 12649 (f_X5_init_18 o x2 w) w 18 5 [(0, va_rf (some o)), (2, .int x2)] [] := by
  intro o x2 w H locs cells slots ls hf M hS hc hs hl
  unfold f_X5_init_18 at hf
  refine lv_iconst (v := 3) X.1 X.2.1 dX5_init_18 (by decide) ?_
  exact (b_X5_init_19 X) o x2 3 w _ _ _ _ _ hf M hS (by omega) (by omega) (lv_sub hl [0, 1] rfl)
def f_X5_init (o : Nat) (x1 : Int32) (x2 : Int32) (w : Wd) : Option (Unit × Wd) := if x1 < 2 then ((f_X5_init_18) o x2 w) else (if 4 < x1 then ((f_X5_init_18) o x2 w) else ((f_X5_init_19) o x2 x1 w))
set_option maxHeartbeats 4000000 in
set_option maxRecDepth 100000 in
theorem e_X5_init {l : Launch} {D : va_G} {aC : Nat → ClassId} {b0 : Nat} {p : Program} {e : Env} {s : State} {m : MethodId} {args : Array Value} {below : List Frame} {meth : Method} {c : Code} (X : Cx D aC p s m args meth c cX5_init RX5 5 "<init>" none) {res : (Unit × Wd)} (o : Nat) (x1 : Int32) (x2 : Int32) (w : Wd) : BW l D aC b0 p e rX5_init s m args below meth c (Qe D aC b0 below args s 805 12649 none res.2) res 805 12649 805 12649 (f_X5_init o x1 x2 w) w 0 5 [(0, va_rf (some o)), (1, .int x1), (2, .int x2)] [] := by
  intro H locs cells slots ls hf M hS hc hs hl
  unfold f_X5_init at hf
  refine q_aload_n X dX5_init_0 rfl (lv_at hl 0 rfl) ?_
  refine q_obj X hl.1 gm_14 (Nat.le_of_ble_eq_true rfl) (Nat.le_of_ble_eq_true rfl) dX5_init_1 ?_
  refine lv_iload_n X.1 X.2.1 dX5_init_4 rfl (lv_at hl 1 rfl) ?_
  refine lv_iconst (v := 2) X.1 X.2.1 dX5_init_5 (by decide) ?_
  refine lv_icmp_lt (tgt := 18) X.1 X.2.1 dX5_init_6 (by decide) (fun c1 => ?_) (fun c1 => ?_)
  · rw [if_pos c1] at hf
    exact (b_X5_init_18 X) o x2 w _ _ _ _ _ hf M hS (by omega) (by omega) (lv_sub hl [0, 2] rfl)
  · rw [if_neg c1] at hf
    refine lv_iload_n X.1 X.2.1 dX5_init_9 rfl (lv_at hl 1 rfl) ?_
    refine lv_iconst (v := 4) X.1 X.2.1 dX5_init_10 (by decide) ?_
    refine lv_icmp_gt (tgt := 18) X.1 X.2.1 dX5_init_11 (by decide) (fun c73 => ?_) (fun c73 => ?_)
    · rw [if_pos c73] at hf
      exact (b_X5_init_18 X) o x2 w _ _ _ _ _ hf M hS (by omega) (by omega) (lv_sub hl [0, 2] rfl)
    · rw [if_neg c73] at hf
      refine lv_iload_n X.1 X.2.1 dX5_init_14 rfl (lv_at hl 1 rfl) ?_
      refine lv_goto (tgt := 19) X.1 X.2.1 dX5_init_15 (by decide) ?_
      exact (b_X5_init_19 X) o x2 x1 w _ _ _ _ _ hf M hS (by omega) (by omega) (lv_sub hl [0, 2] rfl)
theorem m_X5_init {l : Launch} {D : va_G} {aC : Nat → ClassId} {b0 : Nat} {w : Wd} (o : Nat) (x1 : Int32) (x2 : Int32) (v : Unit) (w' : Wd) (hf : f_X5_init o x1 x2 w = some (v, w')) : Ct l D aC b0 yX5_init (Cond.code yX5_init cX5_init 5 none :: Gw) rX5_init [va_rf (some o), .int x1, .int x2] w none w' :=
  q_met (by decide) (Nat.le_of_ble_eq_true rfl) (fun p e s m below meth c X M ls hl => e_X5_init X (res := (v, w')) o x1 x2 w s.heap [] 0 0 ls hf M va_S.rf (by decide) (by decide) hl)
abbrev rX5_clientAt : Room := { frames := 0, cells := 0, slots := 0, locals := 0 }
def f_X5_clientAt (o : Nat) (x1 : Int32) (w : Wd) : Option ((Option Nat) × Wd) := if x1 < 0 then (some (none, w)) else (gR w (some o) 6 1 (fun v3 => gN w v3 104 (fun v8 => if v8 ≤ x1 then (some (none, w)) else (gR w (some o) 6 1 (fun v14 => aR w v14 104 x1 (fun v19 => some (v19, w)))))))
set_option maxHeartbeats 4000000 in
set_option maxRecDepth 100000 in
theorem e_X5_clientAt {l : Launch} {D : va_G} {aC : Nat → ClassId} {b0 : Nat} {p : Program} {e : Env} {s : State} {m : MethodId} {args : Array Value} {below : List Frame} {meth : Method} {c : Code} (X : Cx D aC p s m args meth c cX5_clientAt RX5 2 "clientAt" (some (.object "OnceCalls$Client"))) {res : ((Option Nat) × Wd)} (o : Nat) (x1 : Int32) (w : Wd) : BW l D aC b0 p e rX5_clientAt s m args below meth c (Qe D aC b0 below args s 0 0 (some (va_rf res.1)) res.2) res 0 0 0 0 (f_X5_clientAt o x1 w) w 0 2 [(0, va_rf (some o)), (1, .int x1)] [] := by
  intro H locs cells slots ls hf M hS hc hs hl
  unfold f_X5_clientAt at hf
  refine lv_iload_n X.1 X.2.1 dX5_clientAt_0 rfl (lv_at hl 1 rfl) ?_
  refine lv_if_lt (tgt := 22) X.1 X.2.1 dX5_clientAt_1 (by decide) (fun c1 => ?_) (fun c1 => ?_)
  · rw [if_pos c1] at hf
    refine q_null X dX5_clientAt_22 ?_
    obtain rfl := Option.some.inj hf
    exact q_aret X M hS (by omega) (by omega) dX5_clientAt_23
  · rw [if_neg c1] at hf
    refine lv_iload_n X.1 X.2.1 dX5_clientAt_4 rfl (lv_at hl 1 rfl) ?_
    refine q_aload_n X dX5_clientAt_5 rfl (lv_at hl 0 rfl) ?_
    have ho := gR_e hf
    clear hf
    obtain ⟨a2, v3, e4, k5, q6, hf⟩ := ho
    cases e4
    refine q_get X M flX5_24.g k5 (congrArg va_rf q6) dX5_clientAt_6 ?_
    have ho := gN_e hf
    clear hf
    obtain ⟨a7, v8, e9, k10, q11, hf⟩ := ho
    cases e9
    refine q_alen X M (t := 4) (by decide) k10 dX5_clientAt_9 ?_
    rw [q11]
    refine lv_icmp_ge (tgt := 22) X.1 X.2.1 dX5_clientAt_10 (by decide) (fun c12 => ?_) (fun c12 => ?_)
    · rw [if_pos c12] at hf
      refine q_null X dX5_clientAt_22 ?_
      obtain rfl := Option.some.inj hf
      exact q_aret X M hS (by omega) (by omega) dX5_clientAt_23
    · rw [if_neg c12] at hf
      refine q_aload_n X dX5_clientAt_13 rfl (lv_at hl 0 rfl) ?_
      have ho := gR_e hf
      clear hf
      obtain ⟨a13, v14, e15, k16, q17, hf⟩ := ho
      cases e15
      refine q_get X M flX5_24.g k16 (congrArg va_rf q17) dX5_clientAt_14 ?_
      refine lv_iload_n X.1 X.2.1 dX5_clientAt_17 rfl (lv_at hl 1 rfl) ?_
      have ho := aR_e hf
      clear hf
      obtain ⟨a18, v19, e20, k21, i22, q23, hf⟩ := ho
      cases e20
      refine q_aald X M (Or.inr (Or.inl ⟨rfl, rfl, rfl⟩)) k21 i22 dX5_clientAt_18 ?_
      rw [q23]
      refine lv_goto (tgt := 23) X.1 X.2.1 dX5_clientAt_19 (by decide) ?_
      obtain rfl := Option.some.inj hf
      exact q_aret X M hS (by omega) (by omega) dX5_clientAt_23
theorem m_X5_clientAt {l : Launch} {D : va_G} {aC : Nat → ClassId} {b0 : Nat} {w : Wd} (o : Nat) (x1 : Int32) (v : (Option Nat)) (w' : Wd) (hf : f_X5_clientAt o x1 w = some (v, w')) : Ct l D aC b0 yX5_clientAt (Cond.code yX5_clientAt cX5_clientAt 2 (some (.object "OnceCalls$Client")) :: Gw) rX5_clientAt [va_rf (some o), .int x1] w (some (va_rf v)) w' :=
  q_met (by decide) (Nat.le_of_ble_eq_true rfl) (fun p e s m below meth c X M ls hl => e_X5_clientAt X (res := (v, w')) o x1 w s.heap [] 0 0 ls hf M va_S.rf (by decide) (by decide) hl)
abbrev rX5_open : Room := { frames := 1, cells := 0, slots := 0, locals := 21 }
def f_X5_open (o : Nat) (x1 : Int32) (w : Wd) : Option (Int32 × Wd) := chk w (some o) 6 (fun a4 => bnd (f_X5_clientAt a4 x1 w) (fun v1 w2 => if v1 = none then (some ((-1), w2)) else (gI w2 (some o) 6 5 (fun v9 => pI w2 (some o) 6 5 (v9 + 1) (fun w14 => gI w14 (some o) 6 5 (fun v19 => pI w14 v1 2 1 v19 (fun w24 => pI w24 v1 2 3 0 (fun w29 => gI w29 (some o) 6 4 (fun v34 => gI w29 (some o) 6 3 (fun v39 => pI w29 v1 2 2 (v34 + v39) (fun w44 => gI w44 v1 2 1 (fun v49 => some (v49, w44)))))))))))))
set_option maxHeartbeats 4000000 in
set_option maxRecDepth 100000 in
theorem e_X5_open {l : Launch} {D : va_G} {aC : Nat → ClassId} {b0 : Nat} {p : Program} {e : Env} {s : State} {m : MethodId} {args : Array Value} {below : List Frame} {meth : Method} {c : Code} (X : Cx D aC p s m args meth c cX5_open RX5 3 "open" (some .int)) {res : (Int32 × Wd)} (o : Nat) (x1 : Int32) (w : Wd) : BW l D aC b0 p e rX5_open s m args below meth c (Qe D aC b0 below args s 0 0 (some (.int res.1)) res.2) res 0 0 0 0 (f_X5_open o x1 w) w 0 3 [(0, va_rf (some o)), (1, .int x1)] [] := by
  intro H locs cells slots ls hf M hS hc hs hl
  unfold f_X5_open at hf
  refine q_aload_n X dX5_open_0 rfl (lv_at hl 0 rfl) ?_
  refine lv_iload_n X.1 X.2.1 dX5_open_1 rfl (lv_at hl 1 rfl) ?_
  have ho := chk_e hf
  clear hf
  obtain ⟨a4, e5, k6, hf⟩ := ho
  cases e5
  have ho := bnd_e hf
  clear hf
  obtain ⟨v1, w2, q3, hf⟩ := ho
  refine q_cV X M hS hl.1 (ci := 5) (r := (RX5, TX5, 9)) (As := [.int x1]) (m_X5_clientAt o x1 _ _ q3) mlX5_38 gm_158 gm_159 rfl (by decide) k6 rfl ⟨(Nat.le_of_ble_eq_true rfl), (Nat.le_of_ble_eq_true rfl)⟩ (rest := []) rfl (Nat.le_of_ble_eq_true rfl) (mc := 0) (ms := 0) (MC := 0) (MS := 0) rfl rfl rfl rfl (by omega) (by omega) dX5_open_2 (st2 := [va_rf v1]) rfl (fun H locs M hS => ?_)
  refine q_astore_n (i := 2) (lv' := [(2, va_rf v1), (0, va_rf (some o)), (1, .int x1)]) X dX5_open_5 rfl hl (by decide) rfl (fun ls hl => ?_)
  refine q_aload_n X dX5_open_6 rfl (lv_at hl 0 rfl) ?_
  refine q_ifnonnull (tgt := 12) X dX5_open_7 (by decide) (fun c7 => ?_) (fun c7 => ?_)
  · rw [if_neg c7] at hf
    refine q_aload_n X dX5_open_12 rfl (lv_at hl 1 rfl) ?_
    refine lv_dup X.1 X.2.1 dX5_open_13 rfl ?_
    have ho := gI_e hf
    clear hf
    obtain ⟨a8, v9, e10, k11, q12, hf⟩ := ho
    cases e10
    refine q_get X M flX5_42.g k11 (congrArg Value.int q12) dX5_open_14 ?_
    refine lv_iconst (v := 1) X.1 X.2.1 dX5_open_17 (by decide) ?_
    refine lv_iadd X.1 X.2.1 dX5_open_18 ?_
    have ho := pI_e hf
    clear hf
    obtain ⟨a13, w14, e15, k16, q17, hf⟩ := ho
    cases e15
    refine q_putI X M hS flX5_42 (Or.inl rfl) k16 dX5_open_19 (fun H locs M hS => ?_)
    rw [q17] at M
    refine q_aload_n X dX5_open_22 rfl (lv_at hl 0 rfl) ?_
    refine q_aload_n X dX5_open_23 rfl (lv_at hl 1 rfl) ?_
    have ho := gI_e hf
    clear hf
    obtain ⟨a18, v19, e20, k21, q22, hf⟩ := ho
    cases e20
    refine q_get X M flX5_42.g k21 (congrArg Value.int q22) dX5_open_24 ?_
    have ho := pI_e hf
    clear hf
    obtain ⟨a23, w24, e25, k26, q27, hf⟩ := ho
    cases e25
    refine q_putI X M hS flX5_45 (Or.inl rfl) k26 dX5_open_27 (fun H locs M hS => ?_)
    rw [q27] at M
    refine q_aload_n X dX5_open_30 rfl (lv_at hl 0 rfl) ?_
    refine lv_iconst (v := 0) X.1 X.2.1 dX5_open_31 (by decide) ?_
    have ho := pI_e hf
    clear hf
    obtain ⟨a28, w29, e30, k31, q32, hf⟩ := ho
    cases e30
    refine q_putI X M hS flX5_48 (Or.inl rfl) k31 dX5_open_32 (fun H locs M hS => ?_)
    rw [q32] at M
    refine q_aload_n X dX5_open_35 rfl (lv_at hl 0 rfl) ?_
    refine q_aload_n X dX5_open_36 rfl (lv_at hl 1 rfl) ?_
    have ho := gI_e hf
    clear hf
    obtain ⟨a33, v34, e35, k36, q37, hf⟩ := ho
    cases e35
    refine q_get X M flX5_51.g k36 (congrArg Value.int q37) dX5_open_37 ?_
    refine q_aload_n X dX5_open_40 rfl (lv_at hl 1 rfl) ?_
    have ho := gI_e hf
    clear hf
    obtain ⟨a38, v39, e40, k41, q42, hf⟩ := ho
    cases e40
    refine q_get X M flX5_9.g k41 (congrArg Value.int q42) dX5_open_41 ?_
    refine lv_iadd X.1 X.2.1 dX5_open_44 ?_
    have ho := pI_e hf
    clear hf
    obtain ⟨a43, w44, e45, k46, q47, hf⟩ := ho
    cases e45
    refine q_putI X M hS flX5_54 (Or.inl rfl) k46 dX5_open_45 (fun H locs M hS => ?_)
    rw [q47] at M
    refine q_aload_n X dX5_open_48 rfl (lv_at hl 0 rfl) ?_
    have ho := gI_e hf
    clear hf
    obtain ⟨a48, v49, e50, k51, q52, hf⟩ := ho
    cases e50
    refine q_get X M flX5_45.g k51 (congrArg Value.int q52) dX5_open_49 ?_
    obtain rfl := Option.some.inj hf
    exact q_iret X M hS (by omega) (by omega) dX5_open_52
  · rw [if_pos c7] at hf
    refine lv_iconst (v := (-1)) X.1 X.2.1 dX5_open_10 (by decide) ?_
    obtain rfl := Option.some.inj hf
    exact q_iret X M hS (by omega) (by omega) dX5_open_11
theorem m_X5_open {l : Launch} {D : va_G} {aC : Nat → ClassId} {b0 : Nat} {w : Wd} (o : Nat) (x1 : Int32) (v : Int32) (w' : Wd) (hf : f_X5_open o x1 w = some (v, w')) : Ct l D aC b0 yX5_open (Cond.code yX5_open cX5_open 3 (some .int) :: Gw) rX5_open [va_rf (some o), .int x1] w (some (.int v)) w' :=
  q_met (by decide) (Nat.le_of_ble_eq_true rfl) (fun p e s m below meth c X M ls hl => e_X5_open X (res := (v, w')) o x1 w s.heap [] 0 0 ls hf M va_S.rf (by decide) (by decide) hl)
abbrev rX5_isLive : Room := { frames := 1, cells := 0, slots := 0, locals := 21 }
def f_X5_isLive (o : Nat) (x1 : Int32) (x2 : Int32) (w : Wd) : Option (Int32 × Wd) := chk w (some o) 6 (fun a4 => bnd (f_X5_clientAt a4 x1 w) (fun v1 w2 => if v1 = none then (retZ 0 w2) else (gI w2 v1 2 1 (fun v10 => if v10 = 0 then (retZ 0 w2) else (gI w2 v1 2 1 (fun v17 => if v17 = x2 then (gI w2 (some o) 6 4 (fun v24 => gI w2 v1 2 2 (fun v29 => if v29 < v24 then (retZ 0 w2) else (retZ 1 w2)))) else (retZ 0 w2)))))))
set_option maxHeartbeats 4000000 in
set_option maxRecDepth 100000 in
theorem e_X5_isLive {l : Launch} {D : va_G} {aC : Nat → ClassId} {b0 : Nat} {p : Program} {e : Env} {s : State} {m : MethodId} {args : Array Value} {below : List Frame} {meth : Method} {c : Code} (X : Cx D aC p s m args meth c cX5_isLive RX5 4 "isLive" (some .boolean)) {res : (Int32 × Wd)} (o : Nat) (x1 : Int32) (x2 : Int32) (w : Wd) : BW l D aC b0 p e rX5_isLive s m args below meth c (Qe D aC b0 below args s 0 0 (some (.int res.1)) res.2) res 0 0 0 0 (f_X5_isLive o x1 x2 w) w 0 4 [(0, va_rf (some o)), (1, .int x1), (2, .int x2)] [] := by
  intro H locs cells slots ls hf M hS hc hs hl
  unfold f_X5_isLive at hf
  refine q_aload_n X dX5_isLive_0 rfl (lv_at hl 0 rfl) ?_
  refine lv_iload_n X.1 X.2.1 dX5_isLive_1 rfl (lv_at hl 1 rfl) ?_
  have ho := chk_e hf
  clear hf
  obtain ⟨a4, e5, k6, hf⟩ := ho
  cases e5
  have ho := bnd_e hf
  clear hf
  obtain ⟨v1, w2, q3, hf⟩ := ho
  refine q_cV X M hS hl.1 (ci := 5) (r := (RX5, TX5, 9)) (As := [.int x1]) (m_X5_clientAt o x1 _ _ q3) mlX5_38 gm_158 gm_159 rfl (by decide) k6 rfl ⟨(Nat.le_of_ble_eq_true rfl), (Nat.le_of_ble_eq_true rfl)⟩ (rest := []) rfl (Nat.le_of_ble_eq_true rfl) (mc := 0) (ms := 0) (MC := 0) (MS := 0) rfl rfl rfl rfl (by omega) (by omega) dX5_isLive_2 (st2 := [va_rf v1]) rfl (fun H locs M hS => ?_)
  refine q_astore_n (i := 3) (lv' := [(3, va_rf v1), (0, va_rf (some o)), (1, .int x1), (2, .int x2)]) X dX5_isLive_5 rfl hl (by decide) rfl (fun ls hl => ?_)
  refine q_aload_n X dX5_isLive_6 rfl (lv_at hl 0 rfl) ?_
  refine q_ifnull (tgt := 40) X dX5_isLive_7 (by decide) (fun c7 => ?_) (fun c7 => ?_)
  · rw [if_pos c7] at hf
    refine lv_iconst (v := 0) X.1 X.2.1 dX5_isLive_40 (by decide) ?_
    have ho := retZ_e hf
    clear hf
    obtain ⟨z8, rfl⟩ := ho
    exact q_zret X M hS (by omega) (by omega) z8 dX5_isLive_41
  · rw [if_neg c7] at hf
    refine q_aload_n X dX5_isLive_10 rfl (lv_at hl 0 rfl) ?_
    have ho := gI_e hf
    clear hf
    obtain ⟨a9, v10, e11, k12, q13, hf⟩ := ho
    cases e11
    refine q_get X M flX5_45.g k12 (congrArg Value.int q13) dX5_isLive_11 ?_
    refine lv_if_eq (tgt := 40) X.1 X.2.1 dX5_isLive_14 (by decide) (fun c14 => ?_) (fun c14 => ?_)
    · rw [if_pos c14] at hf
      refine lv_iconst (v := 0) X.1 X.2.1 dX5_isLive_40 (by decide) ?_
      have ho := retZ_e hf
      clear hf
      obtain ⟨z15, rfl⟩ := ho
      exact q_zret X M hS (by omega) (by omega) z15 dX5_isLive_41
    · rw [if_neg c14] at hf
      refine q_aload_n X dX5_isLive_17 rfl (lv_at hl 0 rfl) ?_
      have ho := gI_e hf
      clear hf
      obtain ⟨a16, v17, e18, k19, q20, hf⟩ := ho
      cases e18
      refine q_get X M flX5_45.g k19 (congrArg Value.int q20) dX5_isLive_18 ?_
      refine lv_iload_n X.1 X.2.1 dX5_isLive_21 rfl (lv_at hl 3 rfl) ?_
      refine lv_icmp_ne (tgt := 40) X.1 X.2.1 dX5_isLive_22 (by decide) (fun c21 => ?_) (fun c21 => ?_)
      · rw [if_neg c21] at hf
        refine lv_iconst (v := 0) X.1 X.2.1 dX5_isLive_40 (by decide) ?_
        have ho := retZ_e hf
        clear hf
        obtain ⟨z22, rfl⟩ := ho
        exact q_zret X M hS (by omega) (by omega) z22 dX5_isLive_41
      · rw [if_pos c21] at hf
        refine q_aload_n X dX5_isLive_25 rfl (lv_at hl 1 rfl) ?_
        have ho := gI_e hf
        clear hf
        obtain ⟨a23, v24, e25, k26, q27, hf⟩ := ho
        cases e25
        refine q_get X M flX5_51.g k26 (congrArg Value.int q27) dX5_isLive_26 ?_
        refine q_aload_n X dX5_isLive_29 rfl (lv_at hl 0 rfl) ?_
        have ho := gI_e hf
        clear hf
        obtain ⟨a28, v29, e30, k31, q32, hf⟩ := ho
        cases e30
        refine q_get X M flX5_54.g k31 (congrArg Value.int q32) dX5_isLive_30 ?_
        refine lv_icmp_gt (tgt := 40) X.1 X.2.1 dX5_isLive_33 (by decide) (fun c33 => ?_) (fun c33 => ?_)
        · rw [if_pos c33] at hf
          refine lv_iconst (v := 0) X.1 X.2.1 dX5_isLive_40 (by decide) ?_
          have ho := retZ_e hf
          clear hf
          obtain ⟨z34, rfl⟩ := ho
          exact q_zret X M hS (by omega) (by omega) z34 dX5_isLive_41
        · rw [if_neg c33] at hf
          refine lv_iconst (v := 1) X.1 X.2.1 dX5_isLive_36 (by decide) ?_
          refine lv_goto (tgt := 41) X.1 X.2.1 dX5_isLive_37 (by decide) ?_
          have ho := retZ_e hf
          clear hf
          obtain ⟨z35, rfl⟩ := ho
          exact q_zret X M hS (by omega) (by omega) z35 dX5_isLive_41
theorem m_X5_isLive {l : Launch} {D : va_G} {aC : Nat → ClassId} {b0 : Nat} {w : Wd} (o : Nat) (x1 : Int32) (x2 : Int32) (v : Int32) (w' : Wd) (hf : f_X5_isLive o x1 x2 w = some (v, w')) : Ct l D aC b0 yX5_isLive (Cond.code yX5_isLive cX5_isLive 4 (some .boolean) :: Gw) rX5_isLive [va_rf (some o), .int x1, .int x2] w (some (.int v)) w' :=
  q_met (by decide) (Nat.le_of_ble_eq_true rfl) (fun p e s m below meth c X M ls hl => e_X5_isLive X (res := (v, w')) o x1 x2 w s.heap [] 0 0 ls hf M va_S.rf (by decide) (by decide) hl)
abbrev rX5_renew : Room := { frames := 2, cells := 0, slots := 0, locals := 44 }
def f_X5_renew (o : Nat) (x1 : Int32) (w : Wd) : Option (Int32 × Wd) := chk w (some o) 6 (fun a4 => bnd (f_X5_clientAt a4 x1 w) (fun v1 w2 => if v1 = none then (some ((-1), w2)) else (gI w2 v1 2 1 (fun v9 => chk w2 (some o) 6 (fun a16 => bnd (f_X5_isLive a16 x1 v9 w2) (fun v13 w14 => if v13 = 0 then (some ((-3), w14)) else (gI w14 (some o) 6 4 (fun v21 => gI w14 (some o) 6 3 (fun v26 => pI w14 v1 2 2 (v21 + v26) (fun w31 => gI w31 v1 2 2 (fun v36 => some (v36, w31))))))))))))
set_option maxHeartbeats 4000000 in
set_option maxRecDepth 100000 in
theorem e_X5_renew {l : Launch} {D : va_G} {aC : Nat → ClassId} {b0 : Nat} {p : Program} {e : Env} {s : State} {m : MethodId} {args : Array Value} {below : List Frame} {meth : Method} {c : Code} (X : Cx D aC p s m args meth c cX5_renew RX5 3 "renew" (some .int)) {res : (Int32 × Wd)} (o : Nat) (x1 : Int32) (w : Wd) : BW l D aC b0 p e rX5_renew s m args below meth c (Qe D aC b0 below args s 0 0 (some (.int res.1)) res.2) res 0 0 0 0 (f_X5_renew o x1 w) w 0 3 [(0, va_rf (some o)), (1, .int x1)] [] := by
  intro H locs cells slots ls hf M hS hc hs hl
  unfold f_X5_renew at hf
  refine q_aload_n X dX5_renew_0 rfl (lv_at hl 0 rfl) ?_
  refine lv_iload_n X.1 X.2.1 dX5_renew_1 rfl (lv_at hl 1 rfl) ?_
  have ho := chk_e hf
  clear hf
  obtain ⟨a4, e5, k6, hf⟩ := ho
  cases e5
  have ho := bnd_e hf
  clear hf
  obtain ⟨v1, w2, q3, hf⟩ := ho
  refine q_cV X M hS hl.1 (ci := 5) (r := (RX5, TX5, 9)) (As := [.int x1]) (m_X5_clientAt o x1 _ _ q3) mlX5_38 gm_158 gm_159 rfl (by decide) k6 rfl ⟨(Nat.le_of_ble_eq_true rfl), (Nat.le_of_ble_eq_true rfl)⟩ (rest := []) rfl (Nat.le_of_ble_eq_true rfl) (mc := 0) (ms := 0) (MC := 0) (MS := 0) rfl rfl rfl rfl (by omega) (by omega) dX5_renew_2 (st2 := [va_rf v1]) rfl (fun H locs M hS => ?_)
  refine q_astore_n (i := 2) (lv' := [(2, va_rf v1), (0, va_rf (some o)), (1, .int x1)]) X dX5_renew_5 rfl hl (by decide) rfl (fun ls hl => ?_)
  refine q_aload_n X dX5_renew_6 rfl (lv_at hl 0 rfl) ?_
  refine q_ifnonnull (tgt := 12) X dX5_renew_7 (by decide) (fun c7 => ?_) (fun c7 => ?_)
  · rw [if_neg c7] at hf
    refine q_aload_n X dX5_renew_12 rfl (lv_at hl 1 rfl) ?_
    refine lv_iload_n X.1 X.2.1 dX5_renew_13 rfl (lv_at hl 2 rfl) ?_
    refine q_aload_n X dX5_renew_14 rfl (lv_at hl 0 rfl) ?_
    have ho := gI_e hf
    clear hf
    obtain ⟨a8, v9, e10, k11, q12, hf⟩ := ho
    cases e10
    refine q_get X M flX5_45.g k11 (congrArg Value.int q12) dX5_renew_15 ?_
    have ho := chk_e hf
    clear hf
    obtain ⟨a16, e17, k18, hf⟩ := ho
    cases e17
    have ho := bnd_e hf
    clear hf
    obtain ⟨v13, w14, q15, hf⟩ := ho
    refine q_cV X M hS hl.1 (ci := 5) (r := (RX5, TX5, 9)) (As := [.int x1, .int v9]) (m_X5_isLive o x1 v9 _ _ q15) mlX5_57 gm_178 gm_179 rfl (by decide) k18 rfl ⟨(Nat.le_of_ble_eq_true rfl), (Nat.le_of_ble_eq_true rfl)⟩ (rest := []) rfl (Nat.le_of_ble_eq_true rfl) (mc := 0) (ms := 0) (MC := 0) (MS := 0) rfl rfl rfl rfl (by omega) (by omega) dX5_renew_18 (st2 := [.int v13]) rfl (fun H locs M hS => ?_)
    refine lv_if_ne (tgt := 27) X.1 X.2.1 dX5_renew_21 (by decide) (fun c19 => ?_) (fun c19 => ?_)
    · rw [if_neg c19] at hf
      refine q_aload_n X dX5_renew_27 rfl (lv_at hl 0 rfl) ?_
      refine q_aload_n X dX5_renew_28 rfl (lv_at hl 1 rfl) ?_
      have ho := gI_e hf
      clear hf
      obtain ⟨a20, v21, e22, k23, q24, hf⟩ := ho
      cases e22
      refine q_get X M flX5_51.g k23 (congrArg Value.int q24) dX5_renew_29 ?_
      refine q_aload_n X dX5_renew_32 rfl (lv_at hl 1 rfl) ?_
      have ho := gI_e hf
      clear hf
      obtain ⟨a25, v26, e27, k28, q29, hf⟩ := ho
      cases e27
      refine q_get X M flX5_9.g k28 (congrArg Value.int q29) dX5_renew_33 ?_
      refine lv_iadd X.1 X.2.1 dX5_renew_36 ?_
      have ho := pI_e hf
      clear hf
      obtain ⟨a30, w31, e32, k33, q34, hf⟩ := ho
      cases e32
      refine q_putI X M hS flX5_54 (Or.inl rfl) k33 dX5_renew_37 (fun H locs M hS => ?_)
      rw [q34] at M
      refine q_aload_n X dX5_renew_40 rfl (lv_at hl 0 rfl) ?_
      have ho := gI_e hf
      clear hf
      obtain ⟨a35, v36, e37, k38, q39, hf⟩ := ho
      cases e37
      refine q_get X M flX5_54.g k38 (congrArg Value.int q39) dX5_renew_41 ?_
      obtain rfl := Option.some.inj hf
      exact q_iret X M hS (by omega) (by omega) dX5_renew_44
    · rw [if_pos c19] at hf
      refine lv_bipush (v := (-3)) X.1 X.2.1 dX5_renew_24 (by decide) ?_
      obtain rfl := Option.some.inj hf
      exact q_iret X M hS (by omega) (by omega) dX5_renew_26
  · rw [if_pos c7] at hf
    refine lv_iconst (v := (-1)) X.1 X.2.1 dX5_renew_10 (by decide) ?_
    obtain rfl := Option.some.inj hf
    exact q_iret X M hS (by omega) (by omega) dX5_renew_11
theorem m_X5_renew {l : Launch} {D : va_G} {aC : Nat → ClassId} {b0 : Nat} {w : Wd} (o : Nat) (x1 : Int32) (v : Int32) (w' : Wd) (hf : f_X5_renew o x1 w = some (v, w')) : Ct l D aC b0 yX5_renew (Cond.code yX5_renew cX5_renew 3 (some .int) :: Gw) rX5_renew [va_rf (some o), .int x1] w (some (.int v)) w' :=
  q_met (by decide) (Nat.le_of_ble_eq_true rfl) (fun p e s m below meth c X M ls hl => e_X5_renew X (res := (v, w')) o x1 w s.heap [] 0 0 ls hf M va_S.rf (by decide) (by decide) hl)
abbrev rX5_bucketOf : Room := { frames := 0, cells := 0, slots := 0, locals := 0 }
def f_X5_bucketOf (x0 : Int32) (w : Wd) : Option (Int32 × Wd) := some ((x0 - x0 / 8 * 8), w)
set_option maxHeartbeats 4000000 in
set_option maxRecDepth 100000 in
theorem e_X5_bucketOf {l : Launch} {D : va_G} {aC : Nat → ClassId} {b0 : Nat} {p : Program} {e : Env} {s : State} {m : MethodId} {args : Array Value} {below : List Frame} {meth : Method} {c : Code} (X : Cx D aC p s m args meth c cX5_bucketOf RX5 1 "bucketOf" (some .int)) {res : (Int32 × Wd)} (x0 : Int32) (w : Wd) : BW l D aC b0 p e rX5_bucketOf s m args below meth c (Qe D aC b0 below args s 0 0 (some (.int res.1)) res.2) res 0 0 0 0 (f_X5_bucketOf x0 w) w 0 1 [(0, .int x0)] [] := by
  intro H locs cells slots ls hf M hS hc hs hl
  unfold f_X5_bucketOf at hf
  refine lv_iload_n X.1 X.2.1 dX5_bucketOf_0 rfl (lv_at hl 0 rfl) ?_
  refine lv_bipush (v := 8) X.1 X.2.1 dX5_bucketOf_1 (by decide) ?_
  refine lv_irem X.1 X.2.1 dX5_bucketOf_3 (by decide) ?_
  obtain rfl := Option.some.inj hf
  exact q_iret X M hS (by omega) (by omega) dX5_bucketOf_4
theorem m_X5_bucketOf {l : Launch} {D : va_G} {aC : Nat → ClassId} {b0 : Nat} {w : Wd} (x0 : Int32) (v : Int32) (w' : Wd) (hf : f_X5_bucketOf x0 w = some (v, w')) : Ct l D aC b0 yX5_bucketOf (Cond.code yX5_bucketOf cX5_bucketOf 1 (some .int) :: Gw) rX5_bucketOf [.int x0] w (some (.int v)) w' :=
  q_met (by decide) (Nat.le_of_ble_eq_true rfl) (fun p e s m below meth c X M ls hl => e_X5_bucketOf X (res := (v, w')) x0 w s.heap [] 0 0 ls hf M va_S.rf (by decide) (by decide) hl)
abbrev rX5_requestOf : Room := { frames := 2, cells := 1, slots := 15, locals := 43 }
def f_X5_requestOf (x0 : Option Nat) (x1 : Int32) (w : Wd) : Option ((Option Nat) × Wd) := gR w x0 2 5 (fun v2 => aI w v2 100 x1 (fun v7 => nwO w 3 (fun w12 => gR w12 x0 2 4 (fun v15 => bnd (f_X5_bucketOf v7 w12) (fun v19 w20 => aI w20 v15 100 v19 (fun v23 => gI w20 x0 2 0 (fun v29 => bnd (f_X2_init (wn w) 1 v23 v29 w20) (fun v33 w34 => gI w34 x0 2 1 (fun v37 => pI w34 (some (wn w)) 3 3 v37 (fun w42 => pI w42 (some (wn w)) 3 5 x1 (fun w47 => chk w47 x0 2 (fun a54 => bnd (f_X1_first a54 w47) (fun v51 w52 => pI w52 (some (wn w)) 3 6 v51 (fun w58 => pI w58 (some (wn w)) 3 9 v7 (fun w63 => gR w63 x0 2 6 (fun v68 => aI w63 v68 100 x1 (fun v73 => pI w63 (some (wn w)) 3 10 v73 (fun w79 => gR w79 x0 2 7 (fun v84 => aL w79 v84 101 x1 (fun v89 => pL w79 (some (wn w)) 3 11 v89 (fun w95 => gR w95 x0 2 8 (fun v100 => aL w95 v100 101 x1 (fun v105 => pL w95 (some (wn w)) 3 12 v105 (fun w111 => some ((some (wn w)), w111)))))))))))))))))))))))))
set_option maxHeartbeats 4000000 in
set_option maxRecDepth 100000 in
theorem e_X5_requestOf {l : Launch} {D : va_G} {aC : Nat → ClassId} {b0 : Nat} {p : Program} {e : Env} {s : State} {m : MethodId} {args : Array Value} {below : List Frame} {meth : Method} {c : Code} (X : Cx D aC p s m args meth c cX5_requestOf RX5 4 "requestOf" (some (.object "OnceCalls$Letter"))) {res : ((Option Nat) × Wd)} (x0 : Option Nat) (x1 : Int32) (w : Wd) : BW l D aC b0 p e rX5_requestOf s m args below meth c (Qe D aC b0 below args s 1 15 (some (va_rf res.1)) res.2) res 1 15 1 15 (f_X5_requestOf x0 x1 w) w 0 4 [(0, va_rf x0), (1, .int x1)] [] := by
  intro H locs cells slots ls hf M hS hc hs hl
  unfold f_X5_requestOf at hf
  refine q_aload_n X dX5_requestOf_0 rfl (lv_at hl 0 rfl) ?_
  have ho := gR_e hf
  clear hf
  obtain ⟨a1, v2, e3, k4, q5, hf⟩ := ho
  cases e3
  refine q_get X M flX5_250 k4 (congrArg va_rf q5) dX5_requestOf_1 ?_
  refine lv_iload_n X.1 X.2.1 dX5_requestOf_4 rfl (lv_at hl 1 rfl) ?_
  have ho := aI_e hf
  clear hf
  obtain ⟨a6, v7, e8, k9, i10, q11, hf⟩ := ho
  cases e8
  refine q_iald X M k9 i10 dX5_requestOf_5 ?_
  rw [q11]
  refine lv_istore_n (i := 2) (lv' := [(2, .int v7), (0, va_rf (some a1)), (1, .int x1)]) X.1 X.2.1 dX5_requestOf_6 rfl hl (by decide) rfl (fun ls hl => ?_)
  have ho := nwO_e hf
  clear hf
  obtain ⟨w12, q13, hf⟩ := ho
  refine q_new X M hS clX5_89 (MC := 1) (MS := 15) rfl rfl (by omega) (by omega) dX5_requestOf_7 (fun H M hS => ?_)
  rw [q13] at M
  refine lv_dup X.1 X.2.1 dX5_requestOf_10 rfl ?_
  refine lv_iconst (v := 1) X.1 X.2.1 dX5_requestOf_11 (by decide) ?_
  refine q_aload_n X dX5_requestOf_12 rfl (lv_at hl 1 rfl) ?_
  have ho := gR_e hf
  clear hf
  obtain ⟨a14, v15, e16, k17, q18, hf⟩ := ho
  cases e16
  refine q_get X M flX5_225 k17 (congrArg va_rf q18) dX5_requestOf_13 ?_
  refine lv_iload_n X.1 X.2.1 dX5_requestOf_16 rfl (lv_at hl 0 rfl) ?_
  have ho := bnd_e hf
  clear hf
  obtain ⟨v19, w20, q21, hf⟩ := ho
  refine q_cS X M hS hl.1 (As := [.int v7]) (m_X5_bucketOf v7 _ _ q21) mlX5_205 gm_222 rfl ⟨(Nat.le_of_ble_eq_true rfl), (Nat.le_of_ble_eq_true rfl)⟩ (rest := [va_rf v15, .int 1, va_rf (some (wn w)), va_rf (some (wn w))]) rfl (by simp [cat1, cati, catl]) (mc := 0) (ms := 0) (MC := 1) (MS := 15) rfl rfl rfl rfl (by omega) (by omega) dX5_requestOf_17 (st2 := [.int v19, va_rf v15, .int 1, va_rf (some (wn w)), va_rf (some (wn w))]) rfl (fun H locs M hS => ?_)
  have ho := aI_e hf
  clear hf
  obtain ⟨a22, v23, e24, k25, i26, q27, hf⟩ := ho
  cases e24
  refine q_iald X M k25 i26 dX5_requestOf_20 ?_
  rw [q27]
  refine q_aload_n X dX5_requestOf_21 rfl (lv_at hl 1 rfl) ?_
  have ho := gI_e hf
  clear hf
  obtain ⟨a28, v29, e30, k31, q32, hf⟩ := ho
  cases e30
  refine q_get X M flX5_312 k31 (congrArg Value.int q32) dX5_requestOf_22 ?_
  have ho := bnd_e hf
  clear hf
  obtain ⟨v33, w34, q35, hf⟩ := ho
  refine q_cI X M hS hl.1 (As := [.int 1, .int v23, .int v29]) (m_X2_init (wn w) 1 v23 v29 _ _ q35) mlX5_91 gm_225 rfl rfl ⟨(Nat.le_of_ble_eq_true rfl), (Nat.le_of_ble_eq_true rfl)⟩ (rest := [va_rf (some (wn w))]) rfl (Nat.le_of_ble_eq_true rfl) (mc := 0) (ms := 0) (MC := 1) (MS := 15) rfl rfl rfl rfl (by omega) (by omega) dX5_requestOf_25 (fun H locs M hS => ?_)
  refine q_astore_n (i := 3) (lv' := [(3, va_rf (some (wn w))), (2, .int v7), (0, va_rf (some a1)), (1, .int x1)]) X dX5_requestOf_28 rfl hl (by decide) rfl (fun ls hl => ?_)
  refine q_aload_n X dX5_requestOf_29 rfl (lv_at hl 0 rfl) ?_
  refine q_aload_n X dX5_requestOf_30 rfl (lv_at hl 2 rfl) ?_
  have ho := gI_e hf
  clear hf
  obtain ⟨a36, v37, e38, k39, q40, hf⟩ := ho
  cases e38
  refine q_get X M flX5_45.g k39 (congrArg Value.int q40) dX5_requestOf_31 ?_
  have ho := pI_e hf
  clear hf
  obtain ⟨a41, w42, e43, k44, q45, hf⟩ := ho
  cases e43
  refine q_putI X M hS flX5_94 (Or.inl rfl) k44 dX5_requestOf_34 (fun H locs M hS => ?_)
  rw [q45] at M
  refine q_aload_n X dX5_requestOf_37 rfl (lv_at hl 0 rfl) ?_
  refine lv_iload_n X.1 X.2.1 dX5_requestOf_38 rfl (lv_at hl 3 rfl) ?_
  have ho := pI_e hf
  clear hf
  obtain ⟨a46, w47, e48, k49, q50, hf⟩ := ho
  cases e48
  refine q_putI X M hS flX5_240 (Or.inl rfl) k49 dX5_requestOf_39 (fun H locs M hS => ?_)
  rw [q50] at M
  refine q_aload_n X dX5_requestOf_42 rfl (lv_at hl 0 rfl) ?_
  refine q_aload_n X dX5_requestOf_43 rfl (lv_at hl 2 rfl) ?_
  have ho := chk_e hf
  clear hf
  obtain ⟨a54, e55, k56, hf⟩ := ho
  cases e55
  have ho := bnd_e hf
  clear hf
  obtain ⟨v51, w52, q53, hf⟩ := ho
  refine q_cV X M hS hl.1 (ci := 1) (r := (RX1, TX1, 11)) (As := []) (m_X1_first a1 _ _ q53) mlX5_95 gm_232 gm_233 rfl (by decide) k56 rfl ⟨(Nat.le_of_ble_eq_true rfl), (Nat.le_of_ble_eq_true rfl)⟩ (rest := [va_rf (some (wn w))]) rfl (Nat.le_of_ble_eq_true rfl) (mc := 0) (ms := 0) (MC := 1) (MS := 15) rfl rfl rfl rfl (by omega) (by omega) dX5_requestOf_44 (st2 := [.int v51, va_rf (some (wn w))]) rfl (fun H locs M hS => ?_)
  have ho := pI_e hf
  clear hf
  obtain ⟨a57, w58, e59, k60, q61, hf⟩ := ho
  cases e59
  refine q_putI X M hS flX5_98 (Or.inl rfl) k60 dX5_requestOf_47 (fun H locs M hS => ?_)
  rw [q61] at M
  refine q_aload_n X dX5_requestOf_50 rfl (lv_at hl 0 rfl) ?_
  refine lv_iload_n X.1 X.2.1 dX5_requestOf_51 rfl (lv_at hl 1 rfl) ?_
  have ho := pI_e hf
  clear hf
  obtain ⟨a62, w63, e64, k65, q66, hf⟩ := ho
  cases e64
  refine q_putI X M hS flX5_268 (Or.inl rfl) k65 dX5_requestOf_52 (fun H locs M hS => ?_)
  rw [q66] at M
  refine q_aload_n X dX5_requestOf_55 rfl (lv_at hl 0 rfl) ?_
  refine q_aload_n X dX5_requestOf_56 rfl (lv_at hl 2 rfl) ?_
  have ho := gR_e hf
  clear hf
  obtain ⟨a67, v68, e69, k70, q71, hf⟩ := ho
  cases e69
  refine q_get X M flX5_313 k70 (congrArg va_rf q71) dX5_requestOf_57 ?_
  refine lv_iload_n X.1 X.2.1 dX5_requestOf_60 rfl (lv_at hl 3 rfl) ?_
  have ho := aI_e hf
  clear hf
  obtain ⟨a72, v73, e74, k75, i76, q77, hf⟩ := ho
  cases e74
  refine q_iald X M k75 i76 dX5_requestOf_61 ?_
  rw [q77]
  have ho := pI_e hf
  clear hf
  obtain ⟨a78, w79, e80, k81, q82, hf⟩ := ho
  cases e80
  refine q_putI X M hS flX5_316 (Or.inl rfl) k81 dX5_requestOf_62 (fun H locs M hS => ?_)
  rw [q82] at M
  refine q_aload_n X dX5_requestOf_65 rfl (lv_at hl 0 rfl) ?_
  refine q_aload_n X dX5_requestOf_66 rfl (lv_at hl 2 rfl) ?_
  have ho := gR_e hf
  clear hf
  obtain ⟨a83, v84, e85, k86, q87, hf⟩ := ho
  cases e85
  refine q_get X M flX5_319 k86 (congrArg va_rf q87) dX5_requestOf_67 ?_
  refine lv_iload_n X.1 X.2.1 dX5_requestOf_70 rfl (lv_at hl 3 rfl) ?_
  have ho := aL_e hf
  clear hf
  obtain ⟨a88, v89, e90, k91, i92, q93, hf⟩ := ho
  cases e90
  refine q_lald X M k91 i92 dX5_requestOf_71 ?_
  rw [q93]
  have ho := pL_e hf
  clear hf
  obtain ⟨a94, w95, e96, k97, q98, hf⟩ := ho
  cases e96
  refine q_putL X M hS flX5_322 (Or.inl rfl) k97 dX5_requestOf_72 (fun H locs M hS => ?_)
  rw [q98] at M
  refine q_aload_n X dX5_requestOf_75 rfl (lv_at hl 0 rfl) ?_
  refine q_aload_n X dX5_requestOf_76 rfl (lv_at hl 2 rfl) ?_
  have ho := gR_e hf
  clear hf
  obtain ⟨a99, v100, e101, k102, q103, hf⟩ := ho
  cases e101
  refine q_get X M flX5_325 k102 (congrArg va_rf q103) dX5_requestOf_77 ?_
  refine lv_iload_n X.1 X.2.1 dX5_requestOf_80 rfl (lv_at hl 3 rfl) ?_
  have ho := aL_e hf
  clear hf
  obtain ⟨a104, v105, e106, k107, i108, q109, hf⟩ := ho
  cases e106
  refine q_lald X M k107 i108 dX5_requestOf_81 ?_
  rw [q109]
  have ho := pL_e hf
  clear hf
  obtain ⟨a110, w111, e112, k113, q114, hf⟩ := ho
  cases e112
  refine q_putL X M hS flX5_328 (Or.inl rfl) k113 dX5_requestOf_82 (fun H locs M hS => ?_)
  rw [q114] at M
  refine q_aload_n X dX5_requestOf_85 rfl (lv_at hl 0 rfl) ?_
  obtain rfl := Option.some.inj hf
  exact q_aret X M hS (by omega) (by omega) dX5_requestOf_86
theorem m_X5_requestOf {l : Launch} {D : va_G} {aC : Nat → ClassId} {b0 : Nat} {w : Wd} (x0 : Option Nat) (x1 : Int32) (v : (Option Nat)) (w' : Wd) (hf : f_X5_requestOf x0 x1 w = some (v, w')) : Ct l D aC b0 yX5_requestOf (Cond.code yX5_requestOf cX5_requestOf 4 (some (.object "OnceCalls$Letter")) :: Gw) rX5_requestOf [va_rf x0, .int x1] w (some (va_rf v)) w' :=
  q_met (by decide) (by simp [lg_sl, cat1, cati, catl]) (fun p e s m below meth c X M ls hl => e_X5_requestOf X (res := (v, w')) x0 x1 w s.heap [] 0 0 ls hf M va_S.rf (by decide) (by decide) (by simpa [lv_args, cat1, cati, catl] using hl))
abbrev rX5_send : Room := { frames := 1, cells := 0, slots := 0, locals := 21 }
def f_X5_send (o : Nat) (x1 : Option Nat) (w : Wd) : Option (Unit × Wd) := if x1 = none then (some ((), w)) else (gR w (some o) 6 2 (fun v3 => chk w v3 4 (fun a10 => bnd (f_X3_append a10 x1 w) (fun v7 w8 => if v7 = 0 then (gI w8 (some o) 6 6 (fun v15 => pI w8 (some o) 6 6 (v15 + 1) (fun w20 => some ((), w20)))) else (some ((), w8))))))
set_option maxHeartbeats 4000000 in
set_option maxRecDepth 100000 in
theorem e_X5_send {l : Launch} {D : va_G} {aC : Nat → ClassId} {b0 : Nat} {p : Program} {e : Env} {s : State} {m : MethodId} {args : Array Value} {below : List Frame} {meth : Method} {c : Code} (X : Cx D aC p s m args meth c cX5_send RX5 2 "send" none) {res : (Unit × Wd)} (o : Nat) (x1 : Option Nat) (w : Wd) : BW l D aC b0 p e rX5_send s m args below meth c (Qe D aC b0 below args s 0 0 none res.2) res 0 0 0 0 (f_X5_send o x1 w) w 0 2 [(0, va_rf (some o)), (1, va_rf x1)] [] := by
  intro H locs cells slots ls hf M hS hc hs hl
  unfold f_X5_send at hf
  refine q_aload_n X dX5_send_0 rfl (lv_at hl 1 rfl) ?_
  refine q_ifnull (tgt := 25) X dX5_send_1 (by decide) (fun c1 => ?_) (fun c1 => ?_)
  · rw [if_pos c1] at hf
    obtain rfl := Option.some.inj hf
    exact q_vret X M hS (by omega) (by omega) dX5_send_25
  · rw [if_neg c1] at hf
    refine q_aload_n X dX5_send_4 rfl (lv_at hl 0 rfl) ?_
    have ho := gR_e hf
    clear hf
    obtain ⟨a2, v3, e4, k5, q6, hf⟩ := ho
    cases e4
    refine q_get X M flX5_34.g k5 (congrArg va_rf q6) dX5_send_5 ?_
    refine q_aload_n X dX5_send_8 rfl (lv_at hl 1 rfl) ?_
    have ho := chk_e hf
    clear hf
    obtain ⟨a10, e11, k12, hf⟩ := ho
    cases e11
    have ho := bnd_e hf
    clear hf
    obtain ⟨v7, w8, q9, hf⟩ := ho
    refine q_cV X M hS hl.1 (ci := 3) (r := (RX3, TX3, 2)) (As := [va_rf x1]) (m_X3_append a10 x1 _ _ q9) mlX5_127 gm_241 gm_242 rfl (by decide) k12 rfl ⟨(Nat.le_of_ble_eq_true rfl), (Nat.le_of_ble_eq_true rfl)⟩ (rest := []) rfl (Nat.le_of_ble_eq_true rfl) (mc := 0) (ms := 0) (MC := 0) (MS := 0) rfl rfl rfl rfl (by omega) (by omega) dX5_send_9 (st2 := [.int v7]) rfl (fun H locs M hS => ?_)
    refine lv_if_ne (tgt := 25) X.1 X.2.1 dX5_send_12 (by decide) (fun c13 => ?_) (fun c13 => ?_)
    · rw [if_neg c13] at hf
      obtain rfl := Option.some.inj hf
      exact q_vret X M hS (by omega) (by omega) dX5_send_25
    · rw [if_pos c13] at hf
      refine q_aload_n X dX5_send_15 rfl (lv_at hl 0 rfl) ?_
      refine lv_dup X.1 X.2.1 dX5_send_16 rfl ?_
      have ho := gI_e hf
      clear hf
      obtain ⟨a14, v15, e16, k17, q18, hf⟩ := ho
      cases e16
      refine q_get X M flX5_120.g k17 (congrArg Value.int q18) dX5_send_17 ?_
      refine lv_iconst (v := 1) X.1 X.2.1 dX5_send_20 (by decide) ?_
      refine lv_iadd X.1 X.2.1 dX5_send_21 ?_
      have ho := pI_e hf
      clear hf
      obtain ⟨a19, w20, e21, k22, q23, hf⟩ := ho
      cases e21
      refine q_putI X M hS flX5_120 (Or.inl rfl) k22 dX5_send_22 (fun H locs M hS => ?_)
      rw [q23] at M
      obtain rfl := Option.some.inj hf
      exact q_vret X M hS (by omega) (by omega) dX5_send_25
theorem m_X5_send {l : Launch} {D : va_G} {aC : Nat → ClassId} {b0 : Nat} {w : Wd} (o : Nat) (x1 : Option Nat) (v : Unit) (w' : Wd) (hf : f_X5_send o x1 w = some (v, w')) : Ct l D aC b0 yX5_send (Cond.code yX5_send cX5_send 2 none :: Gw) rX5_send [va_rf (some o), va_rf x1] w none w' :=
  q_met (by decide) (by simp [lg_sl, cat1, cati, catl]) (fun p e s m below meth c X M ls hl => e_X5_send X (res := (v, w')) o x1 w s.heap [] 0 0 ls hf M va_S.rf (by decide) (by decide) (by simpa [lv_args, cat1, cati, catl] using hl))
abbrev rX5_call : Room := { frames := 3, cells := 1, slots := 15, locals := 66 }
def f_X5_call (o : Nat) (x1 : Int32) (x2 : Int32) (x3 : Int32) (x4 : Int64) (x6 : Int64) (w : Wd) : Option (Int32 × Wd) := chk w (some o) 6 (fun a4 => bnd (f_X5_clientAt a4 x1 w) (fun v1 w2 => if v1 = none then (some ((-1), w2)) else (if x2 < 0 then (some ((-1), w2)) else (if 32 ≤ x2 then (some ((-1), w2)) else (if x3 < 0 then (some ((-1), w2)) else (if x3 ≤ 3 then (gI w2 v1 2 1 (fun v13 => if v13 = 0 then (some ((-3), w2)) else (gI w2 v1 2 3 (fun v19 => if 60 ≤ v19 then (some ((-2), w2)) else (chk w2 v1 2 (fun a27 => bnd (f_X1_waiting a27 w2) (fun v24 w25 => if v24 < 4 then (chk w25 v1 2 (fun a34 => bnd (f_X1_newCall a34 x2 x3 x4 x6 w25) (fun v31 w32 => bnd (f_X5_requestOf v1 v31 w32) (fun v37 w38 => chk w38 (some o) 6 (fun a43 => bnd (f_X5_send a43 v37 w38) (fun v40 w41 => some (v31, w41))))))) else (some ((-2), w25))))))))) else (some ((-1), w2))))))))
set_option maxHeartbeats 4000000 in
set_option maxRecDepth 100000 in
theorem e_X5_call {l : Launch} {D : va_G} {aC : Nat → ClassId} {b0 : Nat} {p : Program} {e : Env} {s : State} {m : MethodId} {args : Array Value} {below : List Frame} {meth : Method} {c : Code} (X : Cx D aC p s m args meth c cX5_call RX5 10 "call" (some .int)) {res : (Int32 × Wd)} (o : Nat) (x1 : Int32) (x2 : Int32) (x3 : Int32) (x4 : Int64) (x6 : Int64) (w : Wd) : BW l D aC b0 p e rX5_call s m args below meth c (Qe D aC b0 below args s 1 15 (some (.int res.1)) res.2) res 1 15 1 15 (f_X5_call o x1 x2 x3 x4 x6 w) w 0 10 [(0, va_rf (some o)), (1, .int x1), (2, .int x2), (3, .int x3), (4, .long x4), (6, .long x6)] [] := by
  intro H locs cells slots ls hf M hS hc hs hl
  unfold f_X5_call at hf
  refine q_aload_n X dX5_call_0 rfl (lv_at hl 0 rfl) ?_
  refine lv_iload_n X.1 X.2.1 dX5_call_1 rfl (lv_at hl 1 rfl) ?_
  have ho := chk_e hf
  clear hf
  obtain ⟨a4, e5, k6, hf⟩ := ho
  cases e5
  have ho := bnd_e hf
  clear hf
  obtain ⟨v1, w2, q3, hf⟩ := ho
  refine q_cV X M hS hl.1 (ci := 5) (r := (RX5, TX5, 9)) (As := [.int x1]) (m_X5_clientAt o x1 _ _ q3) mlX5_38 gm_158 gm_159 rfl (by decide) k6 rfl ⟨(Nat.le_of_ble_eq_true rfl), (Nat.le_of_ble_eq_true rfl)⟩ (rest := []) rfl (Nat.le_of_ble_eq_true rfl) (mc := 0) (ms := 0) (MC := 1) (MS := 15) rfl rfl rfl rfl (by omega) (by omega) dX5_call_2 (st2 := [va_rf v1]) rfl (fun H locs M hS => ?_)
  refine q_astore (i := 8) (lv' := [(8, va_rf v1), (0, va_rf (some o)), (1, .int x1), (2, .int x2), (3, .int x3), (4, .long x4), (6, .long x6)]) X dX5_call_5 hl (by decide) rfl (fun ls hl => ?_)
  refine q_aload X dX5_call_7 (lv_at hl 0 rfl) ?_
  refine q_ifnull (tgt := 31) X dX5_call_9 (by decide) (fun c7 => ?_) (fun c7 => ?_)
  · rw [if_pos c7] at hf
    refine lv_iconst (v := (-1)) X.1 X.2.1 dX5_call_31 (by decide) ?_
    obtain rfl := Option.some.inj hf
    exact q_iret X M hS (by omega) (by omega) dX5_call_32
  · rw [if_neg c7] at hf
    refine lv_iload_n X.1 X.2.1 dX5_call_12 rfl (lv_at hl 3 rfl) ?_
    refine lv_if_lt (tgt := 31) X.1 X.2.1 dX5_call_13 (by decide) (fun c8 => ?_) (fun c8 => ?_)
    · rw [if_pos c8] at hf
      refine lv_iconst (v := (-1)) X.1 X.2.1 dX5_call_31 (by decide) ?_
      obtain rfl := Option.some.inj hf
      exact q_iret X M hS (by omega) (by omega) dX5_call_32
    · rw [if_neg c8] at hf
      refine lv_iload_n X.1 X.2.1 dX5_call_16 rfl (lv_at hl 3 rfl) ?_
      refine lv_bipush (v := 32) X.1 X.2.1 dX5_call_17 (by decide) ?_
      refine lv_icmp_ge (tgt := 31) X.1 X.2.1 dX5_call_19 (by decide) (fun c9 => ?_) (fun c9 => ?_)
      · rw [if_pos c9] at hf
        refine lv_iconst (v := (-1)) X.1 X.2.1 dX5_call_31 (by decide) ?_
        obtain rfl := Option.some.inj hf
        exact q_iret X M hS (by omega) (by omega) dX5_call_32
      · rw [if_neg c9] at hf
        refine lv_iload_n X.1 X.2.1 dX5_call_22 rfl (lv_at hl 4 rfl) ?_
        refine lv_if_lt (tgt := 31) X.1 X.2.1 dX5_call_23 (by decide) (fun c10 => ?_) (fun c10 => ?_)
        · rw [if_pos c10] at hf
          refine lv_iconst (v := (-1)) X.1 X.2.1 dX5_call_31 (by decide) ?_
          obtain rfl := Option.some.inj hf
          exact q_iret X M hS (by omega) (by omega) dX5_call_32
        · rw [if_neg c10] at hf
          refine lv_iload_n X.1 X.2.1 dX5_call_26 rfl (lv_at hl 4 rfl) ?_
          refine lv_iconst (v := 3) X.1 X.2.1 dX5_call_27 (by decide) ?_
          refine lv_icmp_le (tgt := 33) X.1 X.2.1 dX5_call_28 (by decide) (fun c11 => ?_) (fun c11 => ?_)
          · rw [if_pos c11] at hf
            refine q_aload X dX5_call_33 (lv_at hl 0 rfl) ?_
            have ho := gI_e hf
            clear hf
            obtain ⟨a12, v13, e14, k15, q16, hf⟩ := ho
            cases e14
            refine q_get X M flX5_45.g k15 (congrArg Value.int q16) dX5_call_35 ?_
            refine lv_if_ne (tgt := 44) X.1 X.2.1 dX5_call_38 (by decide) (fun c17 => ?_) (fun c17 => ?_)
            · rw [if_neg c17] at hf
              refine q_aload X dX5_call_44 (lv_at hl 0 rfl) ?_
              have ho := gI_e hf
              clear hf
              obtain ⟨a18, v19, e20, k21, q22, hf⟩ := ho
              cases e20
              refine q_get X M flX5_48.g k21 (congrArg Value.int q22) dX5_call_46 ?_
              refine lv_bipush (v := 60) X.1 X.2.1 dX5_call_49 (by decide) ?_
              refine lv_icmp_ge (tgt := 63) X.1 X.2.1 dX5_call_51 (by decide) (fun c23 => ?_) (fun c23 => ?_)
              · rw [if_pos c23] at hf
                refine lv_bipush (v := (-2)) X.1 X.2.1 dX5_call_63 (by decide) ?_
                obtain rfl := Option.some.inj hf
                exact q_iret X M hS (by omega) (by omega) dX5_call_65
              · rw [if_neg c23] at hf
                refine q_aload X dX5_call_54 (lv_at hl 0 rfl) ?_
                have ho := chk_e hf
                clear hf
                obtain ⟨a27, e28, k29, hf⟩ := ho
                cases e28
                have ho := bnd_e hf
                clear hf
                obtain ⟨v24, w25, q26, hf⟩ := ho
                refine q_cV X M hS hl.1 (ci := 1) (r := (RX1, TX1, 11)) (As := []) (m_X1_waiting a12 _ _ q26) mlX5_61 gm_194 gm_195 rfl (by decide) k29 rfl ⟨(Nat.le_of_ble_eq_true rfl), (Nat.le_of_ble_eq_true rfl)⟩ (rest := []) rfl (Nat.le_of_ble_eq_true rfl) (mc := 0) (ms := 0) (MC := 1) (MS := 15) rfl rfl rfl rfl (by omega) (by omega) dX5_call_56 (st2 := [.int v24]) rfl (fun H locs M hS => ?_)
                refine lv_iconst (v := 4) X.1 X.2.1 dX5_call_59 (by decide) ?_
                refine lv_icmp_lt (tgt := 66) X.1 X.2.1 dX5_call_60 (by decide) (fun c30 => ?_) (fun c30 => ?_)
                · rw [if_pos c30] at hf
                  refine q_aload X dX5_call_66 (lv_at hl 0 rfl) ?_
                  refine lv_iload_n X.1 X.2.1 dX5_call_68 rfl (lv_at hl 3 rfl) ?_
                  refine lv_iload_n X.1 X.2.1 dX5_call_69 rfl (lv_at hl 4 rfl) ?_
                  refine lv_lload X.1 X.2.1 dX5_call_70 (lv_at hl 5 rfl) ?_
                  refine lv_lload X.1 X.2.1 dX5_call_72 (lv_at hl 6 rfl) ?_
                  have ho := chk_e hf
                  clear hf
                  obtain ⟨a34, e35, k36, hf⟩ := ho
                  cases e35
                  have ho := bnd_e hf
                  clear hf
                  obtain ⟨v31, w32, q33, hf⟩ := ho
                  refine q_cV X M hS hl.1 (ci := 1) (r := (RX1, TX1, 11)) (As := [.int x2, .int x3, .long x4, .long x6]) (m_X1_newCall a12 x2 x3 x4 x6 _ _ q33) mlX5_65 gm_199 gm_200 rfl (by decide) k36 rfl ⟨(Nat.le_of_ble_eq_true rfl), (Nat.le_of_ble_eq_true rfl)⟩ (rest := []) rfl (Nat.le_of_ble_eq_true rfl) (mc := 0) (ms := 0) (MC := 1) (MS := 15) rfl rfl rfl rfl (by omega) (by omega) dX5_call_74 (st2 := [.int v31]) rfl (fun H locs M hS => ?_)
                  refine lv_istore (i := 9) (lv' := [(9, .int v31), (8, va_rf (some a12)), (0, va_rf (some o)), (1, .int x1), (2, .int x2), (3, .int x3), (4, .long x4), (6, .long x6)]) X.1 X.2.1 dX5_call_77 hl (by decide) rfl (fun ls hl => ?_)
                  refine q_aload_n X dX5_call_79 rfl (lv_at hl 2 rfl) ?_
                  refine q_aload X dX5_call_80 (lv_at hl 1 rfl) ?_
                  refine lv_iload X.1 X.2.1 dX5_call_82 (lv_at hl 0 rfl) ?_
                  have ho := bnd_e hf
                  clear hf
                  obtain ⟨v37, w38, q39, hf⟩ := ho
                  refine q_cS X M hS hl.1 (As := [va_rf (some a12), .int v31]) (m_X5_requestOf (some a12) v31 _ _ q39) mlX5_69 gm_203 rfl ⟨(Nat.le_of_ble_eq_true rfl), (Nat.le_of_ble_eq_true rfl)⟩ (rest := [va_rf (some o)]) rfl (Nat.le_of_ble_eq_true rfl) (mc := 1) (ms := 15) (MC := 1) (MS := 15) rfl rfl rfl rfl (by omega) (by omega) dX5_call_84 (st2 := [va_rf v37, va_rf (some o)]) rfl (fun H locs M hS => ?_)
                  have ho := chk_e hf
                  clear hf
                  obtain ⟨a43, e44, k45, hf⟩ := ho
                  cases e44
                  have ho := bnd_e hf
                  clear hf
                  obtain ⟨v40, w41, q42, hf⟩ := ho
                  refine q_cV X M hS hl.1 (ci := 5) (r := (RX5, TX5, 9)) (As := [va_rf v37]) (m_X5_send o v37 _ _ q42) mlX5_73 gm_236 gm_237 rfl (by decide) k45 rfl ⟨(Nat.le_of_ble_eq_true rfl), (Nat.le_of_ble_eq_true rfl)⟩ (rest := []) rfl (Nat.le_of_ble_eq_true rfl) (mc := 0) (ms := 0) (MC := 1) (MS := 15) rfl rfl rfl rfl (by omega) (by omega) dX5_call_87 (st2 := []) rfl (fun H locs M hS => ?_)
                  refine lv_iload X.1 X.2.1 dX5_call_90 (lv_at hl 0 rfl) ?_
                  obtain rfl := Option.some.inj hf
                  exact q_iret X M hS (by omega) (by omega) dX5_call_92
                · rw [if_neg c30] at hf
                  refine lv_bipush (v := (-2)) X.1 X.2.1 dX5_call_63 (by decide) ?_
                  obtain rfl := Option.some.inj hf
                  exact q_iret X M hS (by omega) (by omega) dX5_call_65
            · rw [if_pos c17] at hf
              refine lv_bipush (v := (-3)) X.1 X.2.1 dX5_call_41 (by decide) ?_
              obtain rfl := Option.some.inj hf
              exact q_iret X M hS (by omega) (by omega) dX5_call_43
          · rw [if_neg c11] at hf
            refine lv_iconst (v := (-1)) X.1 X.2.1 dX5_call_31 (by decide) ?_
            obtain rfl := Option.some.inj hf
            exact q_iret X M hS (by omega) (by omega) dX5_call_32
theorem m_X5_call {l : Launch} {D : va_G} {aC : Nat → ClassId} {b0 : Nat} {w : Wd} (o : Nat) (x1 : Int32) (x2 : Int32) (x3 : Int32) (x4 : Int64) (x6 : Int64) (v : Int32) (w' : Wd) (hf : f_X5_call o x1 x2 x3 x4 x6 w = some (v, w')) : Ct l D aC b0 yX5_call (Cond.code yX5_call cX5_call 10 (some .int) :: Gw) rX5_call [va_rf (some o), .int x1, .int x2, .int x3, .long x4, .long x6] w (some (.int v)) w' :=
  q_met (by decide) (Nat.le_of_ble_eq_true rfl) (fun p e s m below meth c X M ls hl => e_X5_call X (res := (v, w')) o x1 x2 x3 x4 x6 w s.heap [] 0 0 ls hf M va_S.rf (by decide) (by decide) hl)
abbrev rX5_retry : Room := { frames := 3, cells := 1, slots := 15, locals := 66 }
def f_X5_retry (o : Nat) (x1 : Int32) (x2 : Int32) (w : Wd) : Option (Int32 × Wd) := chk w (some o) 6 (fun a4 => bnd (f_X5_clientAt a4 x1 w) (fun v1 w2 => if v1 = none then (some ((-1), w2)) else (chk w2 v1 2 (fun a11 => bnd (f_X1_hasCall a11 x2 w2) (fun v8 w9 => if v8 = 0 then (some ((-1), w9)) else (gR w9 v1 2 9 (fun v16 => aI w9 v16 100 x2 (fun v21 => if v21 = 0 then (bnd (f_X5_requestOf v1 x2 w9) (fun v27 w28 => chk w28 (some o) 6 (fun a33 => bnd (f_X5_send a33 v27 w28) (fun v30 w31 => some (1, w31))))) else (some (0, w9))))))))))
set_option maxHeartbeats 4000000 in
set_option maxRecDepth 100000 in
theorem e_X5_retry {l : Launch} {D : va_G} {aC : Nat → ClassId} {b0 : Nat} {p : Program} {e : Env} {s : State} {m : MethodId} {args : Array Value} {below : List Frame} {meth : Method} {c : Code} (X : Cx D aC p s m args meth c cX5_retry RX5 4 "retry" (some .int)) {res : (Int32 × Wd)} (o : Nat) (x1 : Int32) (x2 : Int32) (w : Wd) : BW l D aC b0 p e rX5_retry s m args below meth c (Qe D aC b0 below args s 1 15 (some (.int res.1)) res.2) res 1 15 1 15 (f_X5_retry o x1 x2 w) w 0 4 [(0, va_rf (some o)), (1, .int x1), (2, .int x2)] [] := by
  intro H locs cells slots ls hf M hS hc hs hl
  unfold f_X5_retry at hf
  refine q_aload_n X dX5_retry_0 rfl (lv_at hl 0 rfl) ?_
  refine lv_iload_n X.1 X.2.1 dX5_retry_1 rfl (lv_at hl 1 rfl) ?_
  have ho := chk_e hf
  clear hf
  obtain ⟨a4, e5, k6, hf⟩ := ho
  cases e5
  have ho := bnd_e hf
  clear hf
  obtain ⟨v1, w2, q3, hf⟩ := ho
  refine q_cV X M hS hl.1 (ci := 5) (r := (RX5, TX5, 9)) (As := [.int x1]) (m_X5_clientAt o x1 _ _ q3) mlX5_38 gm_158 gm_159 rfl (by decide) k6 rfl ⟨(Nat.le_of_ble_eq_true rfl), (Nat.le_of_ble_eq_true rfl)⟩ (rest := []) rfl (Nat.le_of_ble_eq_true rfl) (mc := 0) (ms := 0) (MC := 1) (MS := 15) rfl rfl rfl rfl (by omega) (by omega) dX5_retry_2 (st2 := [va_rf v1]) rfl (fun H locs M hS => ?_)
  refine q_astore_n (i := 3) (lv' := [(3, va_rf v1), (0, va_rf (some o)), (1, .int x1), (2, .int x2)]) X dX5_retry_5 rfl hl (by decide) rfl (fun ls hl => ?_)
  refine q_aload_n X dX5_retry_6 rfl (lv_at hl 0 rfl) ?_
  refine q_ifnull (tgt := 18) X dX5_retry_7 (by decide) (fun c7 => ?_) (fun c7 => ?_)
  · rw [if_pos c7] at hf
    refine lv_iconst (v := (-1)) X.1 X.2.1 dX5_retry_18 (by decide) ?_
    obtain rfl := Option.some.inj hf
    exact q_iret X M hS (by omega) (by omega) dX5_retry_19
  · rw [if_neg c7] at hf
    refine q_aload_n X dX5_retry_10 rfl (lv_at hl 0 rfl) ?_
    refine lv_iload_n X.1 X.2.1 dX5_retry_11 rfl (lv_at hl 3 rfl) ?_
    have ho := chk_e hf
    clear hf
    obtain ⟨a11, e12, k13, hf⟩ := ho
    cases e12
    have ho := bnd_e hf
    clear hf
    obtain ⟨v8, w9, q10, hf⟩ := ho
    refine q_cV X M hS hl.1 (ci := 1) (r := (RX1, TX1, 11)) (As := [.int x2]) (m_X1_hasCall a11 x2 _ _ q10) mlX5_77 gm_278 gm_279 rfl (by decide) k13 rfl ⟨(Nat.le_of_ble_eq_true rfl), (Nat.le_of_ble_eq_true rfl)⟩ (rest := []) rfl (Nat.le_of_ble_eq_true rfl) (mc := 0) (ms := 0) (MC := 1) (MS := 15) rfl rfl rfl rfl (by omega) (by omega) dX5_retry_12 (st2 := [.int v8]) rfl (fun H locs M hS => ?_)
    refine lv_if_ne (tgt := 20) X.1 X.2.1 dX5_retry_15 (by decide) (fun c14 => ?_) (fun c14 => ?_)
    · rw [if_neg c14] at hf
      refine q_aload_n X dX5_retry_20 rfl (lv_at hl 0 rfl) ?_
      have ho := gR_e hf
      clear hf
      obtain ⟨a15, v16, e17, k18, q19, hf⟩ := ho
      cases e17
      refine q_get X M flX5_81 k18 (congrArg va_rf q19) dX5_retry_21 ?_
      refine lv_iload_n X.1 X.2.1 dX5_retry_24 rfl (lv_at hl 3 rfl) ?_
      have ho := aI_e hf
      clear hf
      obtain ⟨a20, v21, e22, k23, i24, q25, hf⟩ := ho
      cases e22
      refine q_iald X M k23 i24 dX5_retry_25 ?_
      rw [q25]
      refine lv_if_eq (tgt := 31) X.1 X.2.1 dX5_retry_26 (by decide) (fun c26 => ?_) (fun c26 => ?_)
      · rw [if_pos c26] at hf
        refine q_aload_n X dX5_retry_31 rfl (lv_at hl 1 rfl) ?_
        refine q_aload_n X dX5_retry_32 rfl (lv_at hl 0 rfl) ?_
        refine lv_iload_n X.1 X.2.1 dX5_retry_33 rfl (lv_at hl 3 rfl) ?_
        have ho := bnd_e hf
        clear hf
        obtain ⟨v27, w28, q29, hf⟩ := ho
        refine q_cS X M hS hl.1 (As := [va_rf (some a11), .int x2]) (m_X5_requestOf (some a11) x2 _ _ q29) mlX5_69 gm_203 rfl ⟨(Nat.le_of_ble_eq_true rfl), (Nat.le_of_ble_eq_true rfl)⟩ (rest := [va_rf (some o)]) rfl (Nat.le_of_ble_eq_true rfl) (mc := 1) (ms := 15) (MC := 1) (MS := 15) rfl rfl rfl rfl (by omega) (by omega) dX5_retry_34 (st2 := [va_rf v27, va_rf (some o)]) rfl (fun H locs M hS => ?_)
        have ho := chk_e hf
        clear hf
        obtain ⟨a33, e34, k35, hf⟩ := ho
        cases e34
        have ho := bnd_e hf
        clear hf
        obtain ⟨v30, w31, q32, hf⟩ := ho
        refine q_cV X M hS hl.1 (ci := 5) (r := (RX5, TX5, 9)) (As := [va_rf v27]) (m_X5_send o v27 _ _ q32) mlX5_73 gm_236 gm_237 rfl (by decide) k35 rfl ⟨(Nat.le_of_ble_eq_true rfl), (Nat.le_of_ble_eq_true rfl)⟩ (rest := []) rfl (Nat.le_of_ble_eq_true rfl) (mc := 0) (ms := 0) (MC := 1) (MS := 15) rfl rfl rfl rfl (by omega) (by omega) dX5_retry_37 (st2 := []) rfl (fun H locs M hS => ?_)
        refine lv_iconst (v := 1) X.1 X.2.1 dX5_retry_40 (by decide) ?_
        obtain rfl := Option.some.inj hf
        exact q_iret X M hS (by omega) (by omega) dX5_retry_41
      · rw [if_neg c26] at hf
        refine lv_iconst (v := 0) X.1 X.2.1 dX5_retry_29 (by decide) ?_
        obtain rfl := Option.some.inj hf
        exact q_iret X M hS (by omega) (by omega) dX5_retry_30
    · rw [if_pos c14] at hf
      refine lv_iconst (v := (-1)) X.1 X.2.1 dX5_retry_18 (by decide) ?_
      obtain rfl := Option.some.inj hf
      exact q_iret X M hS (by omega) (by omega) dX5_retry_19
theorem m_X5_retry {l : Launch} {D : va_G} {aC : Nat → ClassId} {b0 : Nat} {w : Wd} (o : Nat) (x1 : Int32) (x2 : Int32) (v : Int32) (w' : Wd) (hf : f_X5_retry o x1 x2 w = some (v, w')) : Ct l D aC b0 yX5_retry (Cond.code yX5_retry cX5_retry 4 (some .int) :: Gw) rX5_retry [va_rf (some o), .int x1, .int x2] w (some (.int v)) w' :=
  q_met (by decide) (Nat.le_of_ble_eq_true rfl) (fun p e s m below meth c X M ls hl => e_X5_retry X (res := (v, w')) o x1 x2 w s.heap [] 0 0 ls hf M va_S.rf (by decide) (by decide) hl)
abbrev rX5_serverAt : Room := { frames := 0, cells := 0, slots := 0, locals := 0 }
def f_X5_serverAt (o : Nat) (x1 : Int32) (w : Wd) : Option ((Option Nat) × Wd) := if x1 < 0 then (some (none, w)) else (gR w (some o) 6 0 (fun v3 => gN w v3 106 (fun v8 => if v8 ≤ x1 then (some (none, w)) else (gR w (some o) 6 0 (fun v14 => aR w v14 106 x1 (fun v19 => some (v19, w)))))))
set_option maxHeartbeats 4000000 in
set_option maxRecDepth 100000 in
theorem e_X5_serverAt {l : Launch} {D : va_G} {aC : Nat → ClassId} {b0 : Nat} {p : Program} {e : Env} {s : State} {m : MethodId} {args : Array Value} {below : List Frame} {meth : Method} {c : Code} (X : Cx D aC p s m args meth c cX5_serverAt RX5 2 "serverAt" (some (.object "OnceCalls$Server"))) {res : ((Option Nat) × Wd)} (o : Nat) (x1 : Int32) (w : Wd) : BW l D aC b0 p e rX5_serverAt s m args below meth c (Qe D aC b0 below args s 0 0 (some (va_rf res.1)) res.2) res 0 0 0 0 (f_X5_serverAt o x1 w) w 0 2 [(0, va_rf (some o)), (1, .int x1)] [] := by
  intro H locs cells slots ls hf M hS hc hs hl
  unfold f_X5_serverAt at hf
  refine lv_iload_n X.1 X.2.1 dX5_serverAt_0 rfl (lv_at hl 1 rfl) ?_
  refine lv_if_lt (tgt := 22) X.1 X.2.1 dX5_serverAt_1 (by decide) (fun c1 => ?_) (fun c1 => ?_)
  · rw [if_pos c1] at hf
    refine q_null X dX5_serverAt_22 ?_
    obtain rfl := Option.some.inj hf
    exact q_aret X M hS (by omega) (by omega) dX5_serverAt_23
  · rw [if_neg c1] at hf
    refine lv_iload_n X.1 X.2.1 dX5_serverAt_4 rfl (lv_at hl 1 rfl) ?_
    refine q_aload_n X dX5_serverAt_5 rfl (lv_at hl 0 rfl) ?_
    have ho := gR_e hf
    clear hf
    obtain ⟨a2, v3, e4, k5, q6, hf⟩ := ho
    cases e4
    refine q_get X M flX5_15.g k5 (congrArg va_rf q6) dX5_serverAt_6 ?_
    have ho := gN_e hf
    clear hf
    obtain ⟨a7, v8, e9, k10, q11, hf⟩ := ho
    cases e9
    refine q_alen X M (t := 6) (by decide) k10 dX5_serverAt_9 ?_
    rw [q11]
    refine lv_icmp_ge (tgt := 22) X.1 X.2.1 dX5_serverAt_10 (by decide) (fun c12 => ?_) (fun c12 => ?_)
    · rw [if_pos c12] at hf
      refine q_null X dX5_serverAt_22 ?_
      obtain rfl := Option.some.inj hf
      exact q_aret X M hS (by omega) (by omega) dX5_serverAt_23
    · rw [if_neg c12] at hf
      refine q_aload_n X dX5_serverAt_13 rfl (lv_at hl 0 rfl) ?_
      have ho := gR_e hf
      clear hf
      obtain ⟨a13, v14, e15, k16, q17, hf⟩ := ho
      cases e15
      refine q_get X M flX5_15.g k16 (congrArg va_rf q17) dX5_serverAt_14 ?_
      refine lv_iload_n X.1 X.2.1 dX5_serverAt_17 rfl (lv_at hl 1 rfl) ?_
      have ho := aR_e hf
      clear hf
      obtain ⟨a18, v19, e20, k21, i22, q23, hf⟩ := ho
      cases e20
      refine q_aald X M (Or.inr (Or.inr (Or.inr ⟨rfl, rfl, rfl⟩))) k21 i22 dX5_serverAt_18 ?_
      rw [q23]
      refine lv_goto (tgt := 23) X.1 X.2.1 dX5_serverAt_19 (by decide) ?_
      obtain rfl := Option.some.inj hf
      exact q_aret X M hS (by omega) (by omega) dX5_serverAt_23
theorem m_X5_serverAt {l : Launch} {D : va_G} {aC : Nat → ClassId} {b0 : Nat} {w : Wd} (o : Nat) (x1 : Int32) (v : (Option Nat)) (w' : Wd) (hf : f_X5_serverAt o x1 w = some (v, w')) : Ct l D aC b0 yX5_serverAt (Cond.code yX5_serverAt cX5_serverAt 2 (some (.object "OnceCalls$Server")) :: Gw) rX5_serverAt [va_rf (some o), .int x1] w (some (va_rf v)) w' :=
  q_met (by decide) (Nat.le_of_ble_eq_true rfl) (fun p e s m below meth c X M ls hl => e_X5_serverAt X (res := (v, w')) o x1 w s.heap [] 0 0 ls hf M va_S.rf (by decide) (by decide) hl)
abbrev rX5_ack : Room := { frames := 2, cells := 1, slots := 15, locals := 43 }
def f_X5_ack (o : Nat) (x1 : Int32) (x2 : Int32) (w : Wd) : Option (Int32 × Wd) := chk w (some o) 6 (fun a4 => bnd (f_X5_clientAt a4 x1 w) (fun v1 w2 => if v1 = none then (some ((-1), w2)) else (chk w2 (some o) 6 (fun a11 => bnd (f_X5_serverAt a11 x2 w2) (fun v8 w9 => if v8 = none then (some ((-1), w9)) else (gI w9 v1 2 1 (fun v16 => if v16 = 0 then (some ((-3), w9)) else (nwO w9 3 (fun w21 => bnd (f_X2_init (wn w9) 5 x2 x1 w21) (fun v23 w24 => gI w24 v1 2 1 (fun v27 => pI w24 (some (wn w9)) 3 3 v27 (fun w32 => chk w32 v1 2 (fun a39 => bnd (f_X1_first a39 w32) (fun v36 w37 => pI w37 (some (wn w9)) 3 6 v36 (fun w43 => chk w43 (some o) 6 (fun a50 => bnd (f_X5_send a50 (some (wn w9)) w43) (fun v47 w48 => gI w48 (some (wn w9)) 3 6 (fun v54 => some (v54, w48)))))))))))))))))))
set_option maxHeartbeats 4000000 in
set_option maxRecDepth 100000 in
theorem e_X5_ack {l : Launch} {D : va_G} {aC : Nat → ClassId} {b0 : Nat} {p : Program} {e : Env} {s : State} {m : MethodId} {args : Array Value} {below : List Frame} {meth : Method} {c : Code} (X : Cx D aC p s m args meth c cX5_ack RX5 5 "ack" (some .int)) {res : (Int32 × Wd)} (o : Nat) (x1 : Int32) (x2 : Int32) (w : Wd) : BW l D aC b0 p e rX5_ack s m args below meth c (Qe D aC b0 below args s 1 15 (some (.int res.1)) res.2) res 1 15 1 15 (f_X5_ack o x1 x2 w) w 0 5 [(0, va_rf (some o)), (1, .int x1), (2, .int x2)] [] := by
  intro H locs cells slots ls hf M hS hc hs hl
  unfold f_X5_ack at hf
  refine q_aload_n X dX5_ack_0 rfl (lv_at hl 0 rfl) ?_
  refine lv_iload_n X.1 X.2.1 dX5_ack_1 rfl (lv_at hl 1 rfl) ?_
  have ho := chk_e hf
  clear hf
  obtain ⟨a4, e5, k6, hf⟩ := ho
  cases e5
  have ho := bnd_e hf
  clear hf
  obtain ⟨v1, w2, q3, hf⟩ := ho
  refine q_cV X M hS hl.1 (ci := 5) (r := (RX5, TX5, 9)) (As := [.int x1]) (m_X5_clientAt o x1 _ _ q3) mlX5_38 gm_158 gm_159 rfl (by decide) k6 rfl ⟨(Nat.le_of_ble_eq_true rfl), (Nat.le_of_ble_eq_true rfl)⟩ (rest := []) rfl (Nat.le_of_ble_eq_true rfl) (mc := 0) (ms := 0) (MC := 1) (MS := 15) rfl rfl rfl rfl (by omega) (by omega) dX5_ack_2 (st2 := [va_rf v1]) rfl (fun H locs M hS => ?_)
  refine q_astore_n (i := 3) (lv' := [(3, va_rf v1), (0, va_rf (some o)), (1, .int x1), (2, .int x2)]) X dX5_ack_5 rfl hl (by decide) rfl (fun ls hl => ?_)
  refine q_aload_n X dX5_ack_6 rfl (lv_at hl 0 rfl) ?_
  refine q_ifnull (tgt := 18) X dX5_ack_7 (by decide) (fun c7 => ?_) (fun c7 => ?_)
  · rw [if_pos c7] at hf
    refine lv_iconst (v := (-1)) X.1 X.2.1 dX5_ack_18 (by decide) ?_
    obtain rfl := Option.some.inj hf
    exact q_iret X M hS (by omega) (by omega) dX5_ack_19
  · rw [if_neg c7] at hf
    refine q_aload_n X dX5_ack_10 rfl (lv_at hl 1 rfl) ?_
    refine lv_iload_n X.1 X.2.1 dX5_ack_11 rfl (lv_at hl 3 rfl) ?_
    have ho := chk_e hf
    clear hf
    obtain ⟨a11, e12, k13, hf⟩ := ho
    cases e12
    have ho := bnd_e hf
    clear hf
    obtain ⟨v8, w9, q10, hf⟩ := ho
    refine q_cV X M hS hl.1 (ci := 5) (r := (RX5, TX5, 9)) (As := [.int x2]) (m_X5_serverAt o x2 _ _ q10) mlX5_85 gm_294 gm_295 rfl (by decide) k13 rfl ⟨(Nat.le_of_ble_eq_true rfl), (Nat.le_of_ble_eq_true rfl)⟩ (rest := []) rfl (Nat.le_of_ble_eq_true rfl) (mc := 0) (ms := 0) (MC := 1) (MS := 15) rfl rfl rfl rfl (by omega) (by omega) dX5_ack_12 (st2 := [va_rf v8]) rfl (fun H locs M hS => ?_)
    refine q_ifnonnull (tgt := 20) X dX5_ack_15 (by decide) (fun c14 => ?_) (fun c14 => ?_)
    · rw [if_neg c14] at hf
      refine q_aload_n X dX5_ack_20 rfl (lv_at hl 0 rfl) ?_
      have ho := gI_e hf
      clear hf
      obtain ⟨a15, v16, e17, k18, q19, hf⟩ := ho
      cases e17
      refine q_get X M flX5_45.g k18 (congrArg Value.int q19) dX5_ack_21 ?_
      refine lv_if_ne (tgt := 30) X.1 X.2.1 dX5_ack_24 (by decide) (fun c20 => ?_) (fun c20 => ?_)
      · rw [if_neg c20] at hf
        have ho := nwO_e hf
        clear hf
        obtain ⟨w21, q22, hf⟩ := ho
        refine q_new X M hS clX5_89 (MC := 1) (MS := 15) rfl rfl (by omega) (by omega) dX5_ack_30 (fun H M hS => ?_)
        rw [q22] at M
        refine lv_dup X.1 X.2.1 dX5_ack_33 rfl ?_
        refine lv_iconst (v := 5) X.1 X.2.1 dX5_ack_34 (by decide) ?_
        refine lv_iload_n X.1 X.2.1 dX5_ack_35 rfl (lv_at hl 3 rfl) ?_
        refine lv_iload_n X.1 X.2.1 dX5_ack_36 rfl (lv_at hl 2 rfl) ?_
        have ho := bnd_e hf
        clear hf
        obtain ⟨v23, w24, q25, hf⟩ := ho
        refine q_cI X M hS hl.1 (As := [.int 5, .int x2, .int x1]) (m_X2_init (wn w9) 5 x2 x1 _ _ q25) mlX5_91 gm_225 rfl rfl ⟨(Nat.le_of_ble_eq_true rfl), (Nat.le_of_ble_eq_true rfl)⟩ (rest := [va_rf (some (wn w9))]) rfl (Nat.le_of_ble_eq_true rfl) (mc := 0) (ms := 0) (MC := 1) (MS := 15) rfl rfl rfl rfl (by omega) (by omega) dX5_ack_37 (fun H locs M hS => ?_)
        refine q_astore (i := 4) (lv' := [(4, va_rf (some (wn w9))), (3, va_rf (some a15)), (0, va_rf (some o)), (1, .int x1), (2, .int x2)]) X dX5_ack_40 hl (by decide) rfl (fun ls hl => ?_)
        refine q_aload X dX5_ack_42 (lv_at hl 0 rfl) ?_
        refine q_aload_n X dX5_ack_44 rfl (lv_at hl 1 rfl) ?_
        have ho := gI_e hf
        clear hf
        obtain ⟨a26, v27, e28, k29, q30, hf⟩ := ho
        cases e28
        refine q_get X M flX5_45.g k29 (congrArg Value.int q30) dX5_ack_45 ?_
        have ho := pI_e hf
        clear hf
        obtain ⟨a31, w32, e33, k34, q35, hf⟩ := ho
        cases e33
        refine q_putI X M hS flX5_94 (Or.inl rfl) k34 dX5_ack_48 (fun H locs M hS => ?_)
        rw [q35] at M
        refine q_aload X dX5_ack_51 (lv_at hl 0 rfl) ?_
        refine q_aload_n X dX5_ack_53 rfl (lv_at hl 1 rfl) ?_
        have ho := chk_e hf
        clear hf
        obtain ⟨a39, e40, k41, hf⟩ := ho
        cases e40
        have ho := bnd_e hf
        clear hf
        obtain ⟨v36, w37, q38, hf⟩ := ho
        refine q_cV X M hS hl.1 (ci := 1) (r := (RX1, TX1, 11)) (As := []) (m_X1_first a15 _ _ q38) mlX5_95 gm_232 gm_233 rfl (by decide) k41 rfl ⟨(Nat.le_of_ble_eq_true rfl), (Nat.le_of_ble_eq_true rfl)⟩ (rest := [va_rf (some (wn w9))]) rfl (Nat.le_of_ble_eq_true rfl) (mc := 0) (ms := 0) (MC := 1) (MS := 15) rfl rfl rfl rfl (by omega) (by omega) dX5_ack_54 (st2 := [.int v36, va_rf (some (wn w9))]) rfl (fun H locs M hS => ?_)
        have ho := pI_e hf
        clear hf
        obtain ⟨a42, w43, e44, k45, q46, hf⟩ := ho
        cases e44
        refine q_putI X M hS flX5_98 (Or.inl rfl) k45 dX5_ack_57 (fun H locs M hS => ?_)
        rw [q46] at M
        refine q_aload_n X dX5_ack_60 rfl (lv_at hl 2 rfl) ?_
        refine q_aload X dX5_ack_61 (lv_at hl 0 rfl) ?_
        have ho := chk_e hf
        clear hf
        obtain ⟨a50, e51, k52, hf⟩ := ho
        cases e51
        have ho := bnd_e hf
        clear hf
        obtain ⟨v47, w48, q49, hf⟩ := ho
        refine q_cV X M hS hl.1 (ci := 5) (r := (RX5, TX5, 9)) (As := [va_rf (some (wn w9))]) (m_X5_send o (some (wn w9)) _ _ q49) mlX5_73 gm_236 gm_237 rfl (by decide) k52 rfl ⟨(Nat.le_of_ble_eq_true rfl), (Nat.le_of_ble_eq_true rfl)⟩ (rest := []) rfl (Nat.le_of_ble_eq_true rfl) (mc := 0) (ms := 0) (MC := 1) (MS := 15) rfl rfl rfl rfl (by omega) (by omega) dX5_ack_63 (st2 := []) rfl (fun H locs M hS => ?_)
        refine q_aload X dX5_ack_66 (lv_at hl 0 rfl) ?_
        have ho := gI_e hf
        clear hf
        obtain ⟨a53, v54, e55, k56, q57, hf⟩ := ho
        cases e55
        refine q_get X M flX5_98.g k56 (congrArg Value.int q57) dX5_ack_68 ?_
        obtain rfl := Option.some.inj hf
        exact q_iret X M hS (by omega) (by omega) dX5_ack_71
      · rw [if_pos c20] at hf
        refine lv_bipush (v := (-3)) X.1 X.2.1 dX5_ack_27 (by decide) ?_
        obtain rfl := Option.some.inj hf
        exact q_iret X M hS (by omega) (by omega) dX5_ack_29
    · rw [if_pos c14] at hf
      refine lv_iconst (v := (-1)) X.1 X.2.1 dX5_ack_18 (by decide) ?_
      obtain rfl := Option.some.inj hf
      exact q_iret X M hS (by omega) (by omega) dX5_ack_19
theorem m_X5_ack {l : Launch} {D : va_G} {aC : Nat → ClassId} {b0 : Nat} {w : Wd} (o : Nat) (x1 : Int32) (x2 : Int32) (v : Int32) (w' : Wd) (hf : f_X5_ack o x1 x2 w = some (v, w')) : Ct l D aC b0 yX5_ack (Cond.code yX5_ack cX5_ack 5 (some .int) :: Gw) rX5_ack [va_rf (some o), .int x1, .int x2] w (some (.int v)) w' :=
  q_met (by decide) (Nat.le_of_ble_eq_true rfl) (fun p e s m below meth c X M ls hl => e_X5_ack X (res := (v, w')) o x1 x2 w s.heap [] 0 0 ls hf M va_S.rf (by decide) (by decide) hl)
abbrev rX5_takeAnswer : Room := { frames := 1, cells := 0, slots := 0, locals := 21 }
def f_X5_takeAnswer (o : Nat) (x1 : Option Nat) (w : Wd) : Option (Unit × Wd) := gI w x1 3 1 (fun v2 => chk w (some o) 6 (fun a9 => bnd (f_X5_clientAt a9 v2 w) (fun v6 w7 => if v6 = none then (some ((), w7)) else (gI w7 v6 2 1 (fun v14 => gI w7 x1 3 3 (fun v19 => if v14 = v19 then (gI w7 x1 3 5 (fun v25 => chk w7 v6 2 (fun a32 => bnd (f_X1_hasCall a32 v25 w7) (fun v29 w30 => if v29 = 0 then (some ((), w30)) else (gR w30 v6 2 9 (fun v37 => gI w30 x1 3 5 (fun v42 => aI w30 v37 100 v42 (fun v47 => if v47 = 0 then (gI w30 x1 3 8 (fun v54 => if v54 = 0 then (gR w30 v6 2 9 (fun v113 => gI w30 x1 3 5 (fun v118 => tI w30 v113 100 v118 1 (fun w123 => gR w123 v6 2 10 (fun v129 => gI w123 x1 3 5 (fun v134 => gL w123 x1 3 13 (fun v139 => tL w123 v129 101 v134 v139 (fun w144 => gI w144 (some o) 6 8 (fun v150 => pI w144 (some o) 6 8 (v150 + 1) (fun w155 => some ((), w155))))))))))) else (gI w30 x1 3 8 (fun v60 => if v60 = 1 then (gR w30 v6 2 4 (fun v78 => gR w30 v6 2 5 (fun v83 => gI w30 x1 3 5 (fun v88 => aI w30 v83 100 v88 (fun v93 => bnd (f_X5_bucketOf v93 w30) (fun v98 w99 => gL w99 x1 3 13 (fun v102 => tI w99 v78 100 v98 (v102.toInt32) (fun w107 => some ((), w107))))))))) else (gI w30 x1 3 8 (fun v66 => if v66 = 3 then (chk w30 v6 2 (fun a74 => bnd (f_X1_refuseWaiting a74 w30) (fun v71 w72 => some ((), w72)))) else (some ((), w30)))))))) else (some ((), w30)))))))))) else (some ((), w7))))))))
set_option maxHeartbeats 4000000 in
set_option maxRecDepth 100000 in
theorem e_X5_takeAnswer {l : Launch} {D : va_G} {aC : Nat → ClassId} {b0 : Nat} {p : Program} {e : Env} {s : State} {m : MethodId} {args : Array Value} {below : List Frame} {meth : Method} {c : Code} (X : Cx D aC p s m args meth c cX5_takeAnswer RX5 3 "takeAnswer" none) {res : (Unit × Wd)} (o : Nat) (x1 : Option Nat) (w : Wd) : BW l D aC b0 p e rX5_takeAnswer s m args below meth c (Qe D aC b0 below args s 0 0 none res.2) res 0 0 0 0 (f_X5_takeAnswer o x1 w) w 0 3 [(0, va_rf (some o)), (1, va_rf x1)] [] := by
  intro H locs cells slots ls hf M hS hc hs hl
  unfold f_X5_takeAnswer at hf
  refine q_aload_n X dX5_takeAnswer_0 rfl (lv_at hl 0 rfl) ?_
  refine q_aload_n X dX5_takeAnswer_1 rfl (lv_at hl 1 rfl) ?_
  have ho := gI_e hf
  clear hf
  obtain ⟨a1, v2, e3, k4, q5, hf⟩ := ho
  cases e3
  refine q_get X M flX5_113 k4 (congrArg Value.int q5) dX5_takeAnswer_2 ?_
  have ho := chk_e hf
  clear hf
  obtain ⟨a9, e10, k11, hf⟩ := ho
  cases e10
  have ho := bnd_e hf
  clear hf
  obtain ⟨v6, w7, q8, hf⟩ := ho
  refine q_cV X M hS hl.1 (ci := 5) (r := (RX5, TX5, 9)) (As := [.int v2]) (m_X5_clientAt o v2 _ _ q8) mlX5_38 gm_158 gm_159 rfl (by decide) k11 rfl ⟨(Nat.le_of_ble_eq_true rfl), (Nat.le_of_ble_eq_true rfl)⟩ (rest := []) rfl (Nat.le_of_ble_eq_true rfl) (mc := 0) (ms := 0) (MC := 0) (MS := 0) rfl rfl rfl rfl (by omega) (by omega) dX5_takeAnswer_5 (st2 := [va_rf v6]) rfl (fun H locs M hS => ?_)
  refine q_astore_n (i := 2) (lv' := [(2, va_rf v6), (0, va_rf (some o)), (1, va_rf (some a1))]) X dX5_takeAnswer_8 rfl hl (by decide) rfl (fun ls hl => ?_)
  refine q_aload_n X dX5_takeAnswer_9 rfl (lv_at hl 0 rfl) ?_
  refine q_ifnull (tgt := 47) X dX5_takeAnswer_10 (by decide) (fun c12 => ?_) (fun c12 => ?_)
  · rw [if_pos c12] at hf
    obtain rfl := Option.some.inj hf
    exact q_vret X M hS (by omega) (by omega) dX5_takeAnswer_47
  · rw [if_neg c12] at hf
    refine q_aload_n X dX5_takeAnswer_13 rfl (lv_at hl 0 rfl) ?_
    have ho := gI_e hf
    clear hf
    obtain ⟨a13, v14, e15, k16, q17, hf⟩ := ho
    cases e15
    refine q_get X M flX5_45.g k16 (congrArg Value.int q17) dX5_takeAnswer_14 ?_
    refine q_aload_n X dX5_takeAnswer_17 rfl (lv_at hl 2 rfl) ?_
    have ho := gI_e hf
    clear hf
    obtain ⟨a18, v19, e20, k21, q22, hf⟩ := ho
    cases e20
    refine q_get X M flX5_94.g k21 (congrArg Value.int q22) dX5_takeAnswer_18 ?_
    refine lv_icmp_ne (tgt := 47) X.1 X.2.1 dX5_takeAnswer_21 (by decide) (fun c23 => ?_) (fun c23 => ?_)
    · rw [if_neg c23] at hf
      obtain rfl := Option.some.inj hf
      exact q_vret X M hS (by omega) (by omega) dX5_takeAnswer_47
    · rw [if_pos c23] at hf
      refine q_aload_n X dX5_takeAnswer_24 rfl (lv_at hl 0 rfl) ?_
      refine q_aload_n X dX5_takeAnswer_25 rfl (lv_at hl 2 rfl) ?_
      have ho := gI_e hf
      clear hf
      obtain ⟨a24, v25, e26, k27, q28, hf⟩ := ho
      cases e26
      refine q_get X M flX5_240.g k27 (congrArg Value.int q28) dX5_takeAnswer_26 ?_
      have ho := chk_e hf
      clear hf
      obtain ⟨a32, e33, k34, hf⟩ := ho
      cases e33
      have ho := bnd_e hf
      clear hf
      obtain ⟨v29, w30, q31, hf⟩ := ho
      refine q_cV X M hS hl.1 (ci := 1) (r := (RX1, TX1, 11)) (As := [.int v25]) (m_X1_hasCall a13 v25 _ _ q31) mlX5_77 gm_278 gm_279 rfl (by decide) k34 rfl ⟨(Nat.le_of_ble_eq_true rfl), (Nat.le_of_ble_eq_true rfl)⟩ (rest := []) rfl (Nat.le_of_ble_eq_true rfl) (mc := 0) (ms := 0) (MC := 0) (MS := 0) rfl rfl rfl rfl (by omega) (by omega) dX5_takeAnswer_29 (st2 := [.int v29]) rfl (fun H locs M hS => ?_)
      refine lv_if_eq (tgt := 47) X.1 X.2.1 dX5_takeAnswer_32 (by decide) (fun c35 => ?_) (fun c35 => ?_)
      · rw [if_pos c35] at hf
        obtain rfl := Option.some.inj hf
        exact q_vret X M hS (by omega) (by omega) dX5_takeAnswer_47
      · rw [if_neg c35] at hf
        refine q_aload_n X dX5_takeAnswer_35 rfl (lv_at hl 0 rfl) ?_
        have ho := gR_e hf
        clear hf
        obtain ⟨a36, v37, e38, k39, q40, hf⟩ := ho
        cases e38
        refine q_get X M flX5_81 k39 (congrArg va_rf q40) dX5_takeAnswer_36 ?_
        refine q_aload_n X dX5_takeAnswer_39 rfl (lv_at hl 2 rfl) ?_
        have ho := gI_e hf
        clear hf
        obtain ⟨a41, v42, e43, k44, q45, hf⟩ := ho
        cases e43
        refine q_get X M flX5_240.g k44 (congrArg Value.int q45) dX5_takeAnswer_40 ?_
        have ho := aI_e hf
        clear hf
        obtain ⟨a46, v47, e48, k49, i50, q51, hf⟩ := ho
        cases e48
        refine q_iald X M k49 i50 dX5_takeAnswer_43 ?_
        rw [q51]
        refine lv_if_eq (tgt := 48) X.1 X.2.1 dX5_takeAnswer_44 (by decide) (fun c52 => ?_) (fun c52 => ?_)
        · rw [if_pos c52] at hf
          refine q_aload_n X dX5_takeAnswer_48 rfl (lv_at hl 2 rfl) ?_
          have ho := gI_e hf
          clear hf
          obtain ⟨a53, v54, e55, k56, q57, hf⟩ := ho
          cases e55
          refine q_get X M flX5_243.g k56 (congrArg Value.int q57) dX5_takeAnswer_49 ?_
          refine lv_if_ne (tgt := 91) X.1 X.2.1 dX5_takeAnswer_52 (by decide) (fun c58 => ?_) (fun c58 => ?_)
          · rw [if_neg c58] at hf
            refine q_aload_n X dX5_takeAnswer_91 rfl (lv_at hl 2 rfl) ?_
            have ho := gI_e hf
            clear hf
            obtain ⟨a59, v60, e61, k62, q63, hf⟩ := ho
            cases e61
            refine q_get X M flX5_243.g k62 (congrArg Value.int q63) dX5_takeAnswer_92 ?_
            refine lv_iconst (v := 1) X.1 X.2.1 dX5_takeAnswer_95 (by decide) ?_
            refine lv_icmp_ne (tgt := 124) X.1 X.2.1 dX5_takeAnswer_96 (by decide) (fun c64 => ?_) (fun c64 => ?_)
            · rw [if_neg c64] at hf
              refine q_aload_n X dX5_takeAnswer_124 rfl (lv_at hl 2 rfl) ?_
              have ho := gI_e hf
              clear hf
              obtain ⟨a65, v66, e67, k68, q69, hf⟩ := ho
              cases e67
              refine q_get X M flX5_243.g k68 (congrArg Value.int q69) dX5_takeAnswer_125 ?_
              refine lv_iconst (v := 3) X.1 X.2.1 dX5_takeAnswer_128 (by decide) ?_
              refine lv_icmp_ne (tgt := 136) X.1 X.2.1 dX5_takeAnswer_129 (by decide) (fun c70 => ?_) (fun c70 => ?_)
              · rw [if_neg c70] at hf
                obtain rfl := Option.some.inj hf
                exact q_vret X M hS (by omega) (by omega) dX5_takeAnswer_136
              · rw [if_pos c70] at hf
                refine q_aload_n X dX5_takeAnswer_132 rfl (lv_at hl 0 rfl) ?_
                have ho := chk_e hf
                clear hf
                obtain ⟨a74, e75, k76, hf⟩ := ho
                cases e75
                have ho := bnd_e hf
                clear hf
                obtain ⟨v71, w72, q73, hf⟩ := ho
                refine q_cV X M hS hl.1 (ci := 1) (r := (RX1, TX1, 11)) (As := []) (m_X1_refuseWaiting a13 _ _ q73) mlX5_253 gm_329 gm_330 rfl (by decide) k76 rfl ⟨(Nat.le_of_ble_eq_true rfl), (Nat.le_of_ble_eq_true rfl)⟩ (rest := []) rfl (Nat.le_of_ble_eq_true rfl) (mc := 0) (ms := 0) (MC := 0) (MS := 0) rfl rfl rfl rfl (by omega) (by omega) dX5_takeAnswer_133 (st2 := []) rfl (fun H locs M hS => ?_)
                obtain rfl := Option.some.inj hf
                exact q_vret X M hS (by omega) (by omega) dX5_takeAnswer_136
            · rw [if_pos c64] at hf
              refine q_aload_n X dX5_takeAnswer_99 rfl (lv_at hl 0 rfl) ?_
              have ho := gR_e hf
              clear hf
              obtain ⟨a77, v78, e79, k80, q81, hf⟩ := ho
              cases e79
              refine q_get X M flX5_225 k80 (congrArg va_rf q81) dX5_takeAnswer_100 ?_
              refine q_aload_n X dX5_takeAnswer_103 rfl (lv_at hl 0 rfl) ?_
              have ho := gR_e hf
              clear hf
              obtain ⟨a82, v83, e84, k85, q86, hf⟩ := ho
              cases e84
              refine q_get X M flX5_250 k85 (congrArg va_rf q86) dX5_takeAnswer_104 ?_
              refine q_aload_n X dX5_takeAnswer_107 rfl (lv_at hl 2 rfl) ?_
              have ho := gI_e hf
              clear hf
              obtain ⟨a87, v88, e89, k90, q91, hf⟩ := ho
              cases e89
              refine q_get X M flX5_240.g k90 (congrArg Value.int q91) dX5_takeAnswer_108 ?_
              have ho := aI_e hf
              clear hf
              obtain ⟨a92, v93, e94, k95, i96, q97, hf⟩ := ho
              cases e94
              refine q_iald X M k95 i96 dX5_takeAnswer_111 ?_
              rw [q97]
              have ho := bnd_e hf
              clear hf
              obtain ⟨v98, w99, q100, hf⟩ := ho
              refine q_cS X M hS hl.1 (As := [.int v93]) (m_X5_bucketOf v93 _ _ q100) mlX5_205 gm_222 rfl ⟨(Nat.le_of_ble_eq_true rfl), (Nat.le_of_ble_eq_true rfl)⟩ (rest := [va_rf v78]) rfl (by simp [cat1, cati, catl]) (mc := 0) (ms := 0) (MC := 0) (MS := 0) rfl rfl rfl rfl (by omega) (by omega) dX5_takeAnswer_112 (st2 := [.int v98, va_rf v78]) rfl (fun H locs M hS => ?_)
              refine q_aload_n X dX5_takeAnswer_115 rfl (lv_at hl 2 rfl) ?_
              have ho := gL_e hf
              clear hf
              obtain ⟨a101, v102, e103, k104, q105, hf⟩ := ho
              cases e103
              refine q_get X M flX5_246.g k104 (congrArg Value.long q105) dX5_takeAnswer_116 ?_
              refine lv_l2i (v := v102.toInt32) X.1 X.2.1 dX5_takeAnswer_119 rfl ?_
              have ho := tI_e hf
              clear hf
              obtain ⟨a106, w107, e108, k109, i110, q111, hf⟩ := ho
              cases e108
              refine q_iast X M hS k109 i110 dX5_takeAnswer_120 (fun H locs M hS => ?_)
              rw [q111] at M
              refine lv_goto (tgt := 136) X.1 X.2.1 dX5_takeAnswer_121 (by decide) ?_
              obtain rfl := Option.some.inj hf
              exact q_vret X M hS (by omega) (by omega) dX5_takeAnswer_136
          · rw [if_pos c58] at hf
            refine q_aload_n X dX5_takeAnswer_55 rfl (lv_at hl 0 rfl) ?_
            have ho := gR_e hf
            clear hf
            obtain ⟨a112, v113, e114, k115, q116, hf⟩ := ho
            cases e114
            refine q_get X M flX5_81 k115 (congrArg va_rf q116) dX5_takeAnswer_56 ?_
            refine q_aload_n X dX5_takeAnswer_59 rfl (lv_at hl 2 rfl) ?_
            have ho := gI_e hf
            clear hf
            obtain ⟨a117, v118, e119, k120, q121, hf⟩ := ho
            cases e119
            refine q_get X M flX5_240.g k120 (congrArg Value.int q121) dX5_takeAnswer_60 ?_
            refine lv_iconst (v := 1) X.1 X.2.1 dX5_takeAnswer_63 (by decide) ?_
            have ho := tI_e hf
            clear hf
            obtain ⟨a122, w123, e124, k125, i126, q127, hf⟩ := ho
            cases e124
            refine q_iast X M hS k125 i126 dX5_takeAnswer_64 (fun H locs M hS => ?_)
            rw [q127] at M
            refine q_aload_n X dX5_takeAnswer_65 rfl (lv_at hl 0 rfl) ?_
            have ho := gR_e hf
            clear hf
            obtain ⟨a128, v129, e130, k131, q132, hf⟩ := ho
            cases e130
            refine q_get X M flX5_228 k131 (congrArg va_rf q132) dX5_takeAnswer_66 ?_
            refine q_aload_n X dX5_takeAnswer_69 rfl (lv_at hl 2 rfl) ?_
            have ho := gI_e hf
            clear hf
            obtain ⟨a133, v134, e135, k136, q137, hf⟩ := ho
            cases e135
            refine q_get X M flX5_240.g k136 (congrArg Value.int q137) dX5_takeAnswer_70 ?_
            refine q_aload_n X dX5_takeAnswer_73 rfl (lv_at hl 2 rfl) ?_
            have ho := gL_e hf
            clear hf
            obtain ⟨a138, v139, e140, k141, q142, hf⟩ := ho
            cases e140
            refine q_get X M flX5_246.g k141 (congrArg Value.long q142) dX5_takeAnswer_74 ?_
            have ho := tL_e hf
            clear hf
            obtain ⟨a143, w144, e145, k146, i147, q148, hf⟩ := ho
            cases e145
            refine q_last X M hS k146 i147 dX5_takeAnswer_77 (fun H locs M hS => ?_)
            rw [q148] at M
            refine q_aload_n X dX5_takeAnswer_78 rfl (lv_at hl 1 rfl) ?_
            refine lv_dup X.1 X.2.1 dX5_takeAnswer_79 rfl ?_
            have ho := gI_e hf
            clear hf
            obtain ⟨a149, v150, e151, k152, q153, hf⟩ := ho
            cases e151
            refine q_get X M flX5_237.g k152 (congrArg Value.int q153) dX5_takeAnswer_80 ?_
            refine lv_iconst (v := 1) X.1 X.2.1 dX5_takeAnswer_83 (by decide) ?_
            refine lv_iadd X.1 X.2.1 dX5_takeAnswer_84 ?_
            have ho := pI_e hf
            clear hf
            obtain ⟨a154, w155, e156, k157, q158, hf⟩ := ho
            cases e156
            refine q_putI X M hS flX5_237 (Or.inl rfl) k157 dX5_takeAnswer_85 (fun H locs M hS => ?_)
            rw [q158] at M
            refine lv_goto (tgt := 136) X.1 X.2.1 dX5_takeAnswer_88 (by decide) ?_
            obtain rfl := Option.some.inj hf
            exact q_vret X M hS (by omega) (by omega) dX5_takeAnswer_136
        · rw [if_neg c52] at hf
          obtain rfl := Option.some.inj hf
          exact q_vret X M hS (by omega) (by omega) dX5_takeAnswer_47
theorem m_X5_takeAnswer {l : Launch} {D : va_G} {aC : Nat → ClassId} {b0 : Nat} {w : Wd} (o : Nat) (x1 : Option Nat) (v : Unit) (w' : Wd) (hf : f_X5_takeAnswer o x1 w = some (v, w')) : Ct l D aC b0 yX5_takeAnswer (Cond.code yX5_takeAnswer cX5_takeAnswer 3 none :: Gw) rX5_takeAnswer [va_rf (some o), va_rf x1] w none w' :=
  q_met (by decide) (by simp [lg_sl, cat1, cati, catl]) (fun p e s m below meth c X M ls hl => e_X5_takeAnswer X (res := (v, w')) o x1 w s.heap [] 0 0 ls hf M va_S.rf (by decide) (by decide) (by simpa [lv_args, cat1, cati, catl] using hl))
abbrev rX5_sendFrom : Room := { frames := 1, cells := 0, slots := 0, locals := 21 }
def f_X5_sendFrom_18 (o : Nat) (x2 : Option Nat) (y0 : Option Nat) (w : Wd) : Option (Unit × Wd) := chk w y0 4 (fun a15 => bnd (f_X3_append a15 x2 w) (fun v12 w13 => if v12 = 0 then (gI w13 (some o) 6 6 (fun v20 => pI w13 (some o) 6 6 (v20 + 1) (fun w25 => some ((), w25)))) else (some ((), w13))))
set_option maxHeartbeats 4000000 in
set_option maxRecDepth 100000 in
theorem b_X5_sendFrom_18 {l : Launch} {D : va_G} {aC : Nat → ClassId} {b0 : Nat} {p : Program} {e : Env} {s : State} {m : MethodId} {args : Array Value} {below : List Frame} {meth : Method} {c : Code} (X : Cx D aC p s m args meth c cX5_sendFrom RX5 4 "sendFrom" none) {res : (Unit × Wd)} : ∀ (o : Nat) (x2 : Option Nat) (y0 : Option Nat) (w : Wd), BW l D aC b0 p e rX5_sendFrom s m args below meth c (Qe D aC b0 below args s 0 0 none res.2) res 0 0 0 0 (f_X5_sendFrom_18 o x2 y0 w) w 18 4 [(0, va_rf (some o)), (2, va_rf x2)] [va_rf y0] := by
  intro o x2 y0 w H locs cells slots ls hf M hS hc hs hl
  unfold f_X5_sendFrom_18 at hf
  refine q_astore_n (i := 3) (lv' := [(3, va_rf y0), (0, va_rf (some o)), (2, va_rf x2)]) X dX5_sendFrom_18 rfl hl (by decide) (by simp [cat1, cati, catl]) (fun ls hl => ?_)
  refine q_aload_n X dX5_sendFrom_19 rfl (lv_at hl 0 rfl) ?_
  refine q_aload_n X dX5_sendFrom_20 rfl (lv_at hl 2 rfl) ?_
  have ho := chk_e hf
  clear hf
  obtain ⟨a15, e16, k17, hf⟩ := ho
  cases e16
  have ho := bnd_e hf
  clear hf
  obtain ⟨v12, w13, q14, hf⟩ := ho
  refine q_cV X M hS hl.1 (ci := 3) (r := (RX3, TX3, 2)) (As := [va_rf x2]) (m_X3_append a15 x2 _ _ q14) mlX5_127 gm_241 gm_242 rfl (by decide) k17 rfl ⟨(Nat.le_of_ble_eq_true rfl), (Nat.le_of_ble_eq_true rfl)⟩ (rest := []) rfl (Nat.le_of_ble_eq_true rfl) (mc := 0) (ms := 0) (MC := 0) (MS := 0) rfl rfl rfl rfl (by omega) (by omega) dX5_sendFrom_21 (st2 := [.int v12]) rfl (fun H locs M hS => ?_)
  refine lv_if_ne (tgt := 37) X.1 X.2.1 dX5_sendFrom_24 (by decide) (fun c18 => ?_) (fun c18 => ?_)
  · rw [if_neg c18] at hf
    obtain rfl := Option.some.inj hf
    exact q_vret X M hS (by omega) (by omega) dX5_sendFrom_37
  · rw [if_pos c18] at hf
    refine q_aload_n X dX5_sendFrom_27 rfl (lv_at hl 1 rfl) ?_
    refine lv_dup X.1 X.2.1 dX5_sendFrom_28 rfl ?_
    have ho := gI_e hf
    clear hf
    obtain ⟨a19, v20, e21, k22, q23, hf⟩ := ho
    cases e21
    refine q_get X M flX5_120.g k22 (congrArg Value.int q23) dX5_sendFrom_29 ?_
    refine lv_iconst (v := 1) X.1 X.2.1 dX5_sendFrom_32 (by decide) ?_
    refine lv_iadd X.1 X.2.1 dX5_sendFrom_33 ?_
    have ho := pI_e hf
    clear hf
    obtain ⟨a24, w25, e26, k27, q28, hf⟩ := ho
    cases e26
    refine q_putI X M hS flX5_120 (Or.inl rfl) k27 dX5_sendFrom_34 (fun H locs M hS => ?_)
    rw [q28] at M
    obtain rfl := Option.some.inj hf
    exact q_vret X M hS (by omega) (by omega) dX5_sendFrom_37
def f_X5_sendFrom (o : Nat) (x1 : Option Nat) (x2 : Option Nat) (w : Wd) : Option (Unit × Wd) := gI w x1 5 5 (fun v2 => if v2 = 0 then (gR w x1 5 1 (fun v8 => (f_X5_sendFrom_18) o x2 v8 w)) else (gR w (some o) 6 2 (fun v30 => (f_X5_sendFrom_18) o x2 v30 w)))
set_option maxHeartbeats 4000000 in
set_option maxRecDepth 100000 in
theorem e_X5_sendFrom {l : Launch} {D : va_G} {aC : Nat → ClassId} {b0 : Nat} {p : Program} {e : Env} {s : State} {m : MethodId} {args : Array Value} {below : List Frame} {meth : Method} {c : Code} (X : Cx D aC p s m args meth c cX5_sendFrom RX5 4 "sendFrom" none) {res : (Unit × Wd)} (o : Nat) (x1 : Option Nat) (x2 : Option Nat) (w : Wd) : BW l D aC b0 p e rX5_sendFrom s m args below meth c (Qe D aC b0 below args s 0 0 none res.2) res 0 0 0 0 (f_X5_sendFrom o x1 x2 w) w 0 4 [(0, va_rf (some o)), (1, va_rf x1), (2, va_rf x2)] [] := by
  intro H locs cells slots ls hf M hS hc hs hl
  unfold f_X5_sendFrom at hf
  refine q_aload_n X dX5_sendFrom_0 rfl (lv_at hl 1 rfl) ?_
  have ho := gI_e hf
  clear hf
  obtain ⟨a1, v2, e3, k4, q5, hf⟩ := ho
  cases e3
  refine q_get X M flX5_161.g k4 (congrArg Value.int q5) dX5_sendFrom_1 ?_
  refine lv_if_eq (tgt := 14) X.1 X.2.1 dX5_sendFrom_4 (by decide) (fun c6 => ?_) (fun c6 => ?_)
  · rw [if_pos c6] at hf
    refine q_aload_n X dX5_sendFrom_14 rfl (lv_at hl 1 rfl) ?_
    have ho := gR_e hf
    clear hf
    obtain ⟨a7, v8, e9, k10, q11, hf⟩ := ho
    cases e9
    refine q_get X M flX5_134 k10 (congrArg va_rf q11) dX5_sendFrom_15 ?_
    exact (b_X5_sendFrom_18 X) o x2 v8 w _ _ _ _ _ hf M hS (by omega) (by omega) (lv_sub hl [0, 2] rfl)
  · rw [if_neg c6] at hf
    refine q_aload_n X dX5_sendFrom_7 rfl (lv_at hl 0 rfl) ?_
    have ho := gR_e hf
    clear hf
    obtain ⟨a29, v30, e31, k32, q33, hf⟩ := ho
    cases e31
    refine q_get X M flX5_34.g k32 (congrArg va_rf q33) dX5_sendFrom_8 ?_
    refine lv_goto (tgt := 18) X.1 X.2.1 dX5_sendFrom_11 (by decide) ?_
    exact (b_X5_sendFrom_18 X) o x2 v30 w _ _ _ _ _ hf M hS (by omega) (by omega) (lv_sub hl [0, 2] rfl)
theorem m_X5_sendFrom {l : Launch} {D : va_G} {aC : Nat → ClassId} {b0 : Nat} {w : Wd} (o : Nat) (x1 : Option Nat) (x2 : Option Nat) (v : Unit) (w' : Wd) (hf : f_X5_sendFrom o x1 x2 w = some (v, w')) : Ct l D aC b0 yX5_sendFrom (Cond.code yX5_sendFrom cX5_sendFrom 4 none :: Gw) rX5_sendFrom [va_rf (some o), va_rf x1, va_rf x2] w none w' :=
  q_met (by decide) (by simp [lg_sl, cat1, cati, catl]) (fun p e s m below meth c X M ls hl => e_X5_sendFrom X (res := (v, w')) o x1 x2 w s.heap [] 0 0 ls hf M va_S.rf (by decide) (by decide) (by simpa [lv_args, cat1, cati, catl] using hl))
abbrev rX5_answer : Room := { frames := 2, cells := 1, slots := 15, locals := 44 }
def f_X5_answer (o : Nat) (x1 : Option Nat) (x2 : Option Nat) (x3 : Int32) (x4 : Int64) (w : Wd) : Option (Unit × Wd) := nwO w 3 (fun w1 => gI w1 x2 3 2 (fun v4 => gI w1 x1 5 0 (fun v9 => bnd (f_X2_init (wn w) 2 v4 v9 w1) (fun v13 w14 => gI w14 x2 3 3 (fun v17 => pI w14 (some (wn w)) 3 3 v17 (fun w22 => gI w22 x2 3 5 (fun v27 => pI w22 (some (wn w)) 3 5 v27 (fun w32 => pI w32 (some (wn w)) 3 8 x3 (fun w37 => pL w37 (some (wn w)) 3 13 x4 (fun w42 => chk w42 (some o) 6 (fun a49 => bnd (f_X5_sendFrom a49 x1 (some (wn w)) w42) (fun v46 w47 => some ((), w47)))))))))))))
set_option maxHeartbeats 4000000 in
set_option maxRecDepth 100000 in
theorem e_X5_answer {l : Launch} {D : va_G} {aC : Nat → ClassId} {b0 : Nat} {p : Program} {e : Env} {s : State} {m : MethodId} {args : Array Value} {below : List Frame} {meth : Method} {c : Code} (X : Cx D aC p s m args meth c cX5_answer RX5 7 "answer" none) {res : (Unit × Wd)} (o : Nat) (x1 : Option Nat) (x2 : Option Nat) (x3 : Int32) (x4 : Int64) (w : Wd) : BW l D aC b0 p e rX5_answer s m args below meth c (Qe D aC b0 below args s 1 15 none res.2) res 1 15 1 15 (f_X5_answer o x1 x2 x3 x4 w) w 0 7 [(0, va_rf (some o)), (1, va_rf x1), (2, va_rf x2), (3, .int x3), (4, .long x4)] [] := by
  intro H locs cells slots ls hf M hS hc hs hl
  unfold f_X5_answer at hf
  have ho := nwO_e hf
  clear hf
  obtain ⟨w1, q2, hf⟩ := ho
  refine q_new X M hS clX5_89 (MC := 1) (MS := 15) rfl rfl (by omega) (by omega) dX5_answer_0 (fun H M hS => ?_)
  rw [q2] at M
  refine lv_dup X.1 X.2.1 dX5_answer_3 rfl ?_
  refine lv_iconst (v := 2) X.1 X.2.1 dX5_answer_4 (by decide) ?_
  refine q_aload_n X dX5_answer_5 rfl (lv_at hl 2 rfl) ?_
  have ho := gI_e hf
  clear hf
  obtain ⟨a3, v4, e5, k6, q7, hf⟩ := ho
  cases e5
  refine q_get X M flX5_271 k6 (congrArg Value.int q7) dX5_answer_6 ?_
  refine q_aload_n X dX5_answer_9 rfl (lv_at hl 1 rfl) ?_
  have ho := gI_e hf
  clear hf
  obtain ⟨a8, v9, e10, k11, q12, hf⟩ := ho
  cases e10
  refine q_get X M flX5_303 k11 (congrArg Value.int q12) dX5_answer_10 ?_
  have ho := bnd_e hf
  clear hf
  obtain ⟨v13, w14, q15, hf⟩ := ho
  refine q_cI X M hS hl.1 (As := [.int 2, .int v4, .int v9]) (m_X2_init (wn w) 2 v4 v9 _ _ q15) mlX5_91 gm_225 rfl rfl ⟨(Nat.le_of_ble_eq_true rfl), (Nat.le_of_ble_eq_true rfl)⟩ (rest := [va_rf (some (wn w))]) rfl (Nat.le_of_ble_eq_true rfl) (mc := 0) (ms := 0) (MC := 1) (MS := 15) rfl rfl rfl rfl (by omega) (by omega) dX5_answer_13 (fun H locs M hS => ?_)
  refine q_astore (i := 6) (lv' := [(6, va_rf (some (wn w))), (0, va_rf (some o)), (1, va_rf (some a8)), (2, va_rf (some a3)), (3, .int x3), (4, .long x4)]) X dX5_answer_16 hl (by decide) rfl (fun ls hl => ?_)
  refine q_aload X dX5_answer_18 (lv_at hl 0 rfl) ?_
  refine q_aload_n X dX5_answer_20 rfl (lv_at hl 3 rfl) ?_
  have ho := gI_e hf
  clear hf
  obtain ⟨a16, v17, e18, k19, q20, hf⟩ := ho
  cases e18
  refine q_get X M flX5_94.g k19 (congrArg Value.int q20) dX5_answer_21 ?_
  have ho := pI_e hf
  clear hf
  obtain ⟨a21, w22, e23, k24, q25, hf⟩ := ho
  cases e23
  refine q_putI X M hS flX5_94 (Or.inl rfl) k24 dX5_answer_24 (fun H locs M hS => ?_)
  rw [q25] at M
  refine q_aload X dX5_answer_27 (lv_at hl 0 rfl) ?_
  refine q_aload_n X dX5_answer_29 rfl (lv_at hl 3 rfl) ?_
  have ho := gI_e hf
  clear hf
  obtain ⟨a26, v27, e28, k29, q30, hf⟩ := ho
  cases e28
  refine q_get X M flX5_240.g k29 (congrArg Value.int q30) dX5_answer_30 ?_
  have ho := pI_e hf
  clear hf
  obtain ⟨a31, w32, e33, k34, q35, hf⟩ := ho
  cases e33
  refine q_putI X M hS flX5_240 (Or.inl rfl) k34 dX5_answer_33 (fun H locs M hS => ?_)
  rw [q35] at M
  refine q_aload X dX5_answer_36 (lv_at hl 0 rfl) ?_
  refine lv_iload_n X.1 X.2.1 dX5_answer_38 rfl (lv_at hl 4 rfl) ?_
  have ho := pI_e hf
  clear hf
  obtain ⟨a36, w37, e38, k39, q40, hf⟩ := ho
  cases e38
  refine q_putI X M hS flX5_243 (Or.inl rfl) k39 dX5_answer_39 (fun H locs M hS => ?_)
  rw [q40] at M
  refine q_aload X dX5_answer_42 (lv_at hl 0 rfl) ?_
  refine lv_lload X.1 X.2.1 dX5_answer_44 (lv_at hl 5 rfl) ?_
  have ho := pL_e hf
  clear hf
  obtain ⟨a41, w42, e43, k44, q45, hf⟩ := ho
  cases e43
  refine q_putL X M hS flX5_246 (Or.inl rfl) k44 dX5_answer_46 (fun H locs M hS => ?_)
  rw [q45] at M
  refine q_aload_n X dX5_answer_49 rfl (lv_at hl 1 rfl) ?_
  refine q_aload_n X dX5_answer_50 rfl (lv_at hl 2 rfl) ?_
  refine q_aload X dX5_answer_51 (lv_at hl 0 rfl) ?_
  have ho := chk_e hf
  clear hf
  obtain ⟨a49, e50, k51, hf⟩ := ho
  cases e50
  have ho := bnd_e hf
  clear hf
  obtain ⟨v46, w47, q48, hf⟩ := ho
  refine q_cV X M hS hl.1 (ci := 5) (r := (RX5, TX5, 9)) (As := [va_rf (some a8), va_rf (some (wn w))]) (m_X5_sendFrom o (some a8) (some (wn w)) _ _ q48) mlX5_180 gm_353 gm_354 rfl (by decide) k51 rfl ⟨(Nat.le_of_ble_eq_true rfl), (Nat.le_of_ble_eq_true rfl)⟩ (rest := []) rfl (Nat.le_of_ble_eq_true rfl) (mc := 0) (ms := 0) (MC := 1) (MS := 15) rfl rfl rfl rfl (by omega) (by omega) dX5_answer_53 (st2 := []) rfl (fun H locs M hS => ?_)
  obtain rfl := Option.some.inj hf
  exact q_vret X M hS (by omega) (by omega) dX5_answer_56
theorem m_X5_answer {l : Launch} {D : va_G} {aC : Nat → ClassId} {b0 : Nat} {w : Wd} (o : Nat) (x1 : Option Nat) (x2 : Option Nat) (x3 : Int32) (x4 : Int64) (v : Unit) (w' : Wd) (hf : f_X5_answer o x1 x2 x3 x4 w = some (v, w')) : Ct l D aC b0 yX5_answer (Cond.code yX5_answer cX5_answer 7 none :: Gw) rX5_answer [va_rf (some o), va_rf x1, va_rf x2, .int x3, .long x4] w none w' :=
  q_met (by decide) (by simp [lg_sl, cat1, cati, catl]) (fun p e s m below meth c X M ls hl => e_X5_answer X (res := (v, w')) o x1 x2 x3 x4 w s.heap [] 0 0 ls hf M va_S.rf (by decide) (by decide) (by simpa [lv_args, cat1, cati, catl] using hl))
abbrev rX5_takeOwnRequest : Room := { frames := 3, cells := 1, slots := 15, locals := 70 }
def f_X5_takeOwnRequest_13 (o : Nat) (x1 : Option Nat) (x2 : Option Nat) (x3 : Option Nat) (w : Wd) : Option (Unit × Wd) := chk w x2 1 (fun a11 => bnd (f_X0_find a11 x3 w) (fun v8 w9 => gI w9 x3 3 5 (fun v15 => gI w9 x3 3 2 (fun v20 => chk w9 x2 1 (fun a27 => bnd (f_X0_firstOf a27 v20 w9) (fun v24 w25 => if v24 ≤ v15 then (if v8 < 0 then (gI w25 x2 1 3 (fun v33 => if v33 < 12 then (chk w25 x2 1 (fun a41 => bnd (f_X0_doAct a41 x3 w25) (fun v38 w39 => chk w39 x2 1 (fun a47 => bnd (f_X0_addRecord a47 x3 v38 w39) (fun v44 w45 => pZ w45 x1 5 5 0 (fun w51 => gI w51 (some o) 6 7 (fun v57 => pI w51 (some o) 6 7 (v57 + 1) (fun w62 => chk w62 (some o) 6 (fun a69 => bnd (f_X5_answer a69 x1 x3 0 v38 w62) (fun v66 w67 => some ((), w67))))))))))) else (chk w25 (some o) 6 (fun a75 => bnd (f_X5_answer a75 x1 x3 2 0 w25) (fun v72 w73 => some ((), w73)))))) else (gR w25 x2 1 8 (fun v79 => aL w25 v79 101 v8 (fun v84 => chk w25 (some o) 6 (fun a92 => bnd (f_X5_answer a92 x1 x3 0 v84 w25) (fun v89 w90 => some ((), w90))))))) else (chk w25 (some o) 6 (fun a98 => bnd (f_X5_answer a98 x1 x3 4 0 w25) (fun v95 w96 => some ((), w96))))))))))
set_option maxHeartbeats 4000000 in
set_option maxRecDepth 100000 in
theorem b_X5_takeOwnRequest_13 {l : Launch} {D : va_G} {aC : Nat → ClassId} {b0 : Nat} {p : Program} {e : Env} {s : State} {m : MethodId} {args : Array Value} {below : List Frame} {meth : Method} {c : Code} (X : Cx D aC p s m args meth c cX5_takeOwnRequest RX5 7 "takeOwnRequest" none) {res : (Unit × Wd)} : ∀ (o : Nat) (x1 : Option Nat) (x2 : Option Nat) (x3 : Option Nat) (w : Wd), BW l D aC b0 p e rX5_takeOwnRequest s m args below meth c (Qe D aC b0 below args s 1 15 none res.2) res 1 15 1 15 (f_X5_takeOwnRequest_13 o x1 x2 x3 w) w 13 7 [(0, va_rf (some o)), (1, va_rf x1), (2, va_rf x2), (3, va_rf x3)] [] := by
  intro o x1 x2 x3 w H locs cells slots ls hf M hS hc hs hl
  unfold f_X5_takeOwnRequest_13 at hf
  refine q_aload_n X dX5_takeOwnRequest_13 rfl (lv_at hl 2 rfl) ?_
  refine q_aload_n X dX5_takeOwnRequest_14 rfl (lv_at hl 3 rfl) ?_
  have ho := chk_e hf
  clear hf
  obtain ⟨a11, e12, k13, hf⟩ := ho
  cases e12
  have ho := bnd_e hf
  clear hf
  obtain ⟨v8, w9, q10, hf⟩ := ho
  refine q_cV X M hS hl.1 (ci := 0) (r := (RX0, TX0, 11)) (As := [va_rf x3]) (m_X0_find a11 x3 _ _ q10) mlX5_285 gm_382 gm_383 rfl (by decide) k13 rfl ⟨(Nat.le_of_ble_eq_true rfl), (Nat.le_of_ble_eq_true rfl)⟩ (rest := []) rfl (Nat.le_of_ble_eq_true rfl) (mc := 0) (ms := 0) (MC := 1) (MS := 15) rfl rfl rfl rfl (by omega) (by omega) dX5_takeOwnRequest_15 (st2 := [.int v8]) rfl (fun H locs M hS => ?_)
  refine lv_istore (i := 4) (lv' := [(4, .int v8), (0, va_rf (some o)), (1, va_rf x1), (2, va_rf (some a11)), (3, va_rf x3)]) X.1 X.2.1 dX5_takeOwnRequest_18 hl (by decide) (by simp [cat1, cati, catl]) (fun ls hl => ?_)
  refine q_aload_n X dX5_takeOwnRequest_20 rfl (lv_at hl 4 rfl) ?_
  have ho := gI_e hf
  clear hf
  obtain ⟨a14, v15, e16, k17, q18, hf⟩ := ho
  cases e16
  refine q_get X M flX5_240.g k17 (congrArg Value.int q18) dX5_takeOwnRequest_21 ?_
  refine q_aload_n X dX5_takeOwnRequest_24 rfl (lv_at hl 3 rfl) ?_
  refine q_aload_n X dX5_takeOwnRequest_25 rfl (lv_at hl 4 rfl) ?_
  have ho := gI_e hf
  clear hf
  obtain ⟨a19, v20, e21, k22, q23, hf⟩ := ho
  cases e21
  refine q_get X M flX5_271 k22 (congrArg Value.int q23) dX5_takeOwnRequest_26 ?_
  have ho := chk_e hf
  clear hf
  obtain ⟨a27, e28, k29, hf⟩ := ho
  cases e28
  have ho := bnd_e hf
  clear hf
  obtain ⟨v24, w25, q26, hf⟩ := ho
  refine q_cV X M hS hl.1 (ci := 0) (r := (RX0, TX0, 11)) (As := [.int v20]) (m_X0_firstOf a11 v20 _ _ q26) mlX5_289 gm_387 gm_388 rfl (by decide) k29 rfl ⟨(Nat.le_of_ble_eq_true rfl), (Nat.le_of_ble_eq_true rfl)⟩ (rest := [.int v15]) rfl (Nat.le_of_ble_eq_true rfl) (mc := 0) (ms := 0) (MC := 1) (MS := 15) rfl rfl rfl rfl (by omega) (by omega) dX5_takeOwnRequest_29 (st2 := [.int v24, .int v15]) rfl (fun H locs M hS => ?_)
  refine lv_icmp_ge (tgt := 46) X.1 X.2.1 dX5_takeOwnRequest_32 (by decide) (fun c30 => ?_) (fun c30 => ?_)
  · rw [if_pos c30] at hf
    refine lv_iload X.1 X.2.1 dX5_takeOwnRequest_46 (lv_at hl 0 rfl) ?_
    refine lv_if_lt (tgt := 68) X.1 X.2.1 dX5_takeOwnRequest_48 (by decide) (fun c31 => ?_) (fun c31 => ?_)
    · rw [if_pos c31] at hf
      refine q_aload_n X dX5_takeOwnRequest_68 rfl (lv_at hl 3 rfl) ?_
      have ho := gI_e hf
      clear hf
      obtain ⟨a32, v33, e34, k35, q36, hf⟩ := ho
      cases e34
      refine q_get X M flX5_202.g k35 (congrArg Value.int q36) dX5_takeOwnRequest_69 ?_
      refine lv_bipush (v := 12) X.1 X.2.1 dX5_takeOwnRequest_72 (by decide) ?_
      refine lv_icmp_lt (tgt := 88) X.1 X.2.1 dX5_takeOwnRequest_74 (by decide) (fun c37 => ?_) (fun c37 => ?_)
      · rw [if_pos c37] at hf
        refine q_aload_n X dX5_takeOwnRequest_88 rfl (lv_at hl 3 rfl) ?_
        refine q_aload_n X dX5_takeOwnRequest_89 rfl (lv_at hl 4 rfl) ?_
        have ho := chk_e hf
        clear hf
        obtain ⟨a41, e42, k43, hf⟩ := ho
        cases e42
        have ho := bnd_e hf
        clear hf
        obtain ⟨v38, w39, q40, hf⟩ := ho
        refine q_cV X M hS hl.1 (ci := 0) (r := (RX0, TX0, 11)) (As := [va_rf (some a14)]) (m_X0_doAct a11 (some a14) _ _ q40) mlX5_295 gm_391 gm_392 rfl (by decide) k43 rfl ⟨(Nat.le_of_ble_eq_true rfl), (Nat.le_of_ble_eq_true rfl)⟩ (rest := []) rfl (Nat.le_of_ble_eq_true rfl) (mc := 0) (ms := 0) (MC := 1) (MS := 15) rfl rfl rfl rfl (by omega) (by omega) dX5_takeOwnRequest_90 (st2 := [.long v38]) rfl (fun H locs M hS => ?_)
        refine lv_lstore (i := 5) (lv' := [(5, .long v38), (4, .int v8), (0, va_rf (some o)), (1, va_rf x1), (2, va_rf (some a11)), (3, va_rf (some a14))]) X.1 X.2.1 dX5_takeOwnRequest_93 hl (by decide) rfl (fun ls hl => ?_)
        refine q_aload_n X dX5_takeOwnRequest_95 rfl (lv_at hl 4 rfl) ?_
        refine q_aload_n X dX5_takeOwnRequest_96 rfl (lv_at hl 5 rfl) ?_
        refine lv_lload X.1 X.2.1 dX5_takeOwnRequest_97 (lv_at hl 0 rfl) ?_
        have ho := chk_e hf
        clear hf
        obtain ⟨a47, e48, k49, hf⟩ := ho
        cases e48
        have ho := bnd_e hf
        clear hf
        obtain ⟨v44, w45, q46, hf⟩ := ho
        refine q_cV X M hS hl.1 (ci := 0) (r := (RX0, TX0, 11)) (As := [va_rf (some a14), .long v38]) (m_X0_addRecord a11 (some a14) v38 _ _ q46) mlX5_299 gm_401 gm_402 rfl (by decide) k49 rfl ⟨(Nat.le_of_ble_eq_true rfl), (Nat.le_of_ble_eq_true rfl)⟩ (rest := []) rfl (Nat.le_of_ble_eq_true rfl) (mc := 0) (ms := 0) (MC := 1) (MS := 15) rfl rfl rfl rfl (by omega) (by omega) dX5_takeOwnRequest_99 (st2 := []) rfl (fun H locs M hS => ?_)
        refine q_aload_n X dX5_takeOwnRequest_102 rfl (lv_at hl 3 rfl) ?_
        refine lv_iconst (v := 0) X.1 X.2.1 dX5_takeOwnRequest_103 (by decide) ?_
        have ho := pZ_e hf
        clear hf
        obtain ⟨a50, w51, e52, k53, z55, q54, hf⟩ := ho
        cases e52
        refine q_putZ X M hS flX5_161 (Or.inl rfl) k53 z55 dX5_takeOwnRequest_104 (fun H locs M hS => ?_)
        rw [q54] at M
        refine q_aload_n X dX5_takeOwnRequest_107 rfl (lv_at hl 2 rfl) ?_
        refine lv_dup X.1 X.2.1 dX5_takeOwnRequest_108 rfl ?_
        have ho := gI_e hf
        clear hf
        obtain ⟨a56, v57, e58, k59, q60, hf⟩ := ho
        cases e58
        refine q_get X M flX5_234.g k59 (congrArg Value.int q60) dX5_takeOwnRequest_109 ?_
        refine lv_iconst (v := 1) X.1 X.2.1 dX5_takeOwnRequest_112 (by decide) ?_
        refine lv_iadd X.1 X.2.1 dX5_takeOwnRequest_113 ?_
        have ho := pI_e hf
        clear hf
        obtain ⟨a61, w62, e63, k64, q65, hf⟩ := ho
        cases e63
        refine q_putI X M hS flX5_234 (Or.inl rfl) k64 dX5_takeOwnRequest_114 (fun H locs M hS => ?_)
        rw [q65] at M
        refine q_aload_n X dX5_takeOwnRequest_117 rfl (lv_at hl 2 rfl) ?_
        refine q_aload_n X dX5_takeOwnRequest_118 rfl (lv_at hl 3 rfl) ?_
        refine q_aload_n X dX5_takeOwnRequest_119 rfl (lv_at hl 5 rfl) ?_
        refine lv_iconst (v := 0) X.1 X.2.1 dX5_takeOwnRequest_120 (by decide) ?_
        refine lv_lload X.1 X.2.1 dX5_takeOwnRequest_121 (lv_at hl 0 rfl) ?_
        have ho := chk_e hf
        clear hf
        obtain ⟨a69, e70, k71, hf⟩ := ho
        cases e70
        have ho := bnd_e hf
        clear hf
        obtain ⟨v66, w67, q68, hf⟩ := ho
        refine q_cV X M hS hl.1 (ci := 5) (r := (RX5, TX5, 9)) (As := [va_rf (some a50), va_rf (some a14), .int 0, .long v38]) (m_X5_answer o (some a50) (some a14) 0 v38 _ _ q68) mlX5_274 gm_348 gm_349 rfl (by decide) k71 rfl ⟨(Nat.le_of_ble_eq_true rfl), (Nat.le_of_ble_eq_true rfl)⟩ (rest := []) rfl (Nat.le_of_ble_eq_true rfl) (mc := 1) (ms := 15) (MC := 1) (MS := 15) rfl rfl rfl rfl (by omega) (by omega) dX5_takeOwnRequest_123 (st2 := []) rfl (fun H locs M hS => ?_)
        obtain rfl := Option.some.inj hf
        exact q_vret X M hS (by omega) (by omega) dX5_takeOwnRequest_126
      · rw [if_neg c37] at hf
        refine q_aload_n X dX5_takeOwnRequest_77 rfl (lv_at hl 1 rfl) ?_
        refine q_aload_n X dX5_takeOwnRequest_78 rfl (lv_at hl 2 rfl) ?_
        refine q_aload_n X dX5_takeOwnRequest_79 rfl (lv_at hl 4 rfl) ?_
        refine lv_iconst (v := 2) X.1 X.2.1 dX5_takeOwnRequest_80 (by decide) ?_
        refine lv_lconst (v := 0) X.1 X.2.1 dX5_takeOwnRequest_81 (by decide) ?_
        have ho := chk_e hf
        clear hf
        obtain ⟨a75, e76, k77, hf⟩ := ho
        cases e76
        have ho := bnd_e hf
        clear hf
        obtain ⟨v72, w73, q74, hf⟩ := ho
        refine q_cV X M hS hl.1 (ci := 5) (r := (RX5, TX5, 9)) (As := [va_rf x1, va_rf (some a14), .int 2, .long 0]) (m_X5_answer o x1 (some a14) 2 0 _ _ q74) mlX5_274 gm_348 gm_349 rfl (by decide) k77 rfl ⟨(Nat.le_of_ble_eq_true rfl), (Nat.le_of_ble_eq_true rfl)⟩ (rest := []) rfl (Nat.le_of_ble_eq_true rfl) (mc := 1) (ms := 15) (MC := 1) (MS := 15) rfl rfl rfl rfl (by omega) (by omega) dX5_takeOwnRequest_82 (st2 := []) rfl (fun H locs M hS => ?_)
        refine lv_goto (tgt := 126) X.1 X.2.1 dX5_takeOwnRequest_85 (by decide) ?_
        obtain rfl := Option.some.inj hf
        exact q_vret X M hS (by omega) (by omega) dX5_takeOwnRequest_126
    · rw [if_neg c31] at hf
      refine q_aload_n X dX5_takeOwnRequest_51 rfl (lv_at hl 1 rfl) ?_
      refine q_aload_n X dX5_takeOwnRequest_52 rfl (lv_at hl 2 rfl) ?_
      refine q_aload_n X dX5_takeOwnRequest_53 rfl (lv_at hl 4 rfl) ?_
      refine lv_iconst (v := 0) X.1 X.2.1 dX5_takeOwnRequest_54 (by decide) ?_
      refine q_aload_n X dX5_takeOwnRequest_55 rfl (lv_at hl 3 rfl) ?_
      have ho := gR_e hf
      clear hf
      obtain ⟨a78, v79, e80, k81, q82, hf⟩ := ho
      cases e80
      refine q_get X M flX5_292 k81 (congrArg va_rf q82) dX5_takeOwnRequest_56 ?_
      refine lv_iload X.1 X.2.1 dX5_takeOwnRequest_59 (lv_at hl 0 rfl) ?_
      have ho := aL_e hf
      clear hf
      obtain ⟨a83, v84, e85, k86, i87, q88, hf⟩ := ho
      cases e85
      refine q_lald X M k86 i87 dX5_takeOwnRequest_61 ?_
      rw [q88]
      have ho := chk_e hf
      clear hf
      obtain ⟨a92, e93, k94, hf⟩ := ho
      cases e93
      have ho := bnd_e hf
      clear hf
      obtain ⟨v89, w90, q91, hf⟩ := ho
      refine q_cV X M hS hl.1 (ci := 5) (r := (RX5, TX5, 9)) (As := [va_rf x1, va_rf (some a14), .int 0, .long v84]) (m_X5_answer o x1 (some a14) 0 v84 _ _ q91) mlX5_274 gm_348 gm_349 rfl (by decide) k94 rfl ⟨(Nat.le_of_ble_eq_true rfl), (Nat.le_of_ble_eq_true rfl)⟩ (rest := []) rfl (Nat.le_of_ble_eq_true rfl) (mc := 1) (ms := 15) (MC := 1) (MS := 15) rfl rfl rfl rfl (by omega) (by omega) dX5_takeOwnRequest_62 (st2 := []) rfl (fun H locs M hS => ?_)
      refine lv_goto (tgt := 126) X.1 X.2.1 dX5_takeOwnRequest_65 (by decide) ?_
      obtain rfl := Option.some.inj hf
      exact q_vret X M hS (by omega) (by omega) dX5_takeOwnRequest_126
  · rw [if_neg c30] at hf
    refine q_aload_n X dX5_takeOwnRequest_35 rfl (lv_at hl 1 rfl) ?_
    refine q_aload_n X dX5_takeOwnRequest_36 rfl (lv_at hl 2 rfl) ?_
    refine q_aload_n X dX5_takeOwnRequest_37 rfl (lv_at hl 4 rfl) ?_
    refine lv_iconst (v := 4) X.1 X.2.1 dX5_takeOwnRequest_38 (by decide) ?_
    refine lv_lconst (v := 0) X.1 X.2.1 dX5_takeOwnRequest_39 (by decide) ?_
    have ho := chk_e hf
    clear hf
    obtain ⟨a98, e99, k100, hf⟩ := ho
    cases e99
    have ho := bnd_e hf
    clear hf
    obtain ⟨v95, w96, q97, hf⟩ := ho
    refine q_cV X M hS hl.1 (ci := 5) (r := (RX5, TX5, 9)) (As := [va_rf x1, va_rf (some a14), .int 4, .long 0]) (m_X5_answer o x1 (some a14) 4 0 _ _ q97) mlX5_274 gm_348 gm_349 rfl (by decide) k100 rfl ⟨(Nat.le_of_ble_eq_true rfl), (Nat.le_of_ble_eq_true rfl)⟩ (rest := []) rfl (Nat.le_of_ble_eq_true rfl) (mc := 1) (ms := 15) (MC := 1) (MS := 15) rfl rfl rfl rfl (by omega) (by omega) dX5_takeOwnRequest_40 (st2 := []) rfl (fun H locs M hS => ?_)
    refine lv_goto (tgt := 126) X.1 X.2.1 dX5_takeOwnRequest_43 (by decide) ?_
    obtain rfl := Option.some.inj hf
    exact q_vret X M hS (by omega) (by omega) dX5_takeOwnRequest_126
def f_X5_takeOwnRequest (o : Nat) (x1 : Option Nat) (x2 : Option Nat) (x3 : Option Nat) (w : Wd) : Option (Unit × Wd) := chk w x2 1 (fun a4 => bnd (f_X0_know a4 x3 w) (fun v1 w2 => if v1 = 0 then ((f_X5_takeOwnRequest_13) o x1 x2 x3 w2) else (pZ w2 x1 5 5 0 (fun w102 => (f_X5_takeOwnRequest_13) o x1 x2 x3 w102))))
set_option maxHeartbeats 4000000 in
set_option maxRecDepth 100000 in
theorem e_X5_takeOwnRequest {l : Launch} {D : va_G} {aC : Nat → ClassId} {b0 : Nat} {p : Program} {e : Env} {s : State} {m : MethodId} {args : Array Value} {below : List Frame} {meth : Method} {c : Code} (X : Cx D aC p s m args meth c cX5_takeOwnRequest RX5 7 "takeOwnRequest" none) {res : (Unit × Wd)} (o : Nat) (x1 : Option Nat) (x2 : Option Nat) (x3 : Option Nat) (w : Wd) : BW l D aC b0 p e rX5_takeOwnRequest s m args below meth c (Qe D aC b0 below args s 1 15 none res.2) res 1 15 1 15 (f_X5_takeOwnRequest o x1 x2 x3 w) w 0 7 [(0, va_rf (some o)), (1, va_rf x1), (2, va_rf x2), (3, va_rf x3)] [] := by
  intro H locs cells slots ls hf M hS hc hs hl
  unfold f_X5_takeOwnRequest at hf
  refine q_aload_n X dX5_takeOwnRequest_0 rfl (lv_at hl 2 rfl) ?_
  refine q_aload_n X dX5_takeOwnRequest_1 rfl (lv_at hl 3 rfl) ?_
  have ho := chk_e hf
  clear hf
  obtain ⟨a4, e5, k6, hf⟩ := ho
  cases e5
  have ho := bnd_e hf
  clear hf
  obtain ⟨v1, w2, q3, hf⟩ := ho
  refine q_cV X M hS hl.1 (ci := 0) (r := (RX0, TX0, 11)) (As := [va_rf x3]) (m_X0_know a4 x3 _ _ q3) mlX5_282 gm_366 gm_367 rfl (by decide) k6 rfl ⟨(Nat.le_of_ble_eq_true rfl), (Nat.le_of_ble_eq_true rfl)⟩ (rest := []) rfl (Nat.le_of_ble_eq_true rfl) (mc := 0) (ms := 0) (MC := 1) (MS := 15) rfl rfl rfl rfl (by omega) (by omega) dX5_takeOwnRequest_2 (st2 := [.int v1]) rfl (fun H locs M hS => ?_)
  refine lv_if_eq (tgt := 13) X.1 X.2.1 dX5_takeOwnRequest_5 (by decide) (fun c7 => ?_) (fun c7 => ?_)
  · rw [if_pos c7] at hf
    exact (b_X5_takeOwnRequest_13 X) o x1 (some a4) x3 w2 _ _ _ _ _ hf M hS (by omega) (by omega) (lv_sub hl [0, 1, 2, 3] rfl)
  · rw [if_neg c7] at hf
    refine q_aload_n X dX5_takeOwnRequest_8 rfl (lv_at hl 1 rfl) ?_
    refine lv_iconst (v := 0) X.1 X.2.1 dX5_takeOwnRequest_9 (by decide) ?_
    have ho := pZ_e hf
    clear hf
    obtain ⟨a101, w102, e103, k104, z106, q105, hf⟩ := ho
    cases e103
    refine q_putZ X M hS flX5_161 (Or.inl rfl) k104 z106 dX5_takeOwnRequest_10 (fun H locs M hS => ?_)
    rw [q105] at M
    exact (b_X5_takeOwnRequest_13 X) o (some a101) (some a4) x3 w102 _ _ _ _ _ hf M hS (by omega) (by omega) (lv_sub hl [0, 1, 2, 3] rfl)
theorem m_X5_takeOwnRequest {l : Launch} {D : va_G} {aC : Nat → ClassId} {b0 : Nat} {w : Wd} (o : Nat) (x1 : Option Nat) (x2 : Option Nat) (x3 : Option Nat) (v : Unit) (w' : Wd) (hf : f_X5_takeOwnRequest o x1 x2 x3 w = some (v, w')) : Ct l D aC b0 yX5_takeOwnRequest (Cond.code yX5_takeOwnRequest cX5_takeOwnRequest 7 none :: Gw) rX5_takeOwnRequest [va_rf (some o), va_rf x1, va_rf x2, va_rf x3] w none w' :=
  q_met (by decide) (by simp [lg_sl, cat1, cati, catl]) (fun p e s m below meth c X M ls hl => e_X5_takeOwnRequest X (res := (v, w')) o x1 x2 x3 w s.heap [] 0 0 ls hf M va_S.rf (by decide) (by decide) (by simpa [lv_args, cat1, cati, catl] using hl))
