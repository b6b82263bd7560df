abbrev rX5_init : Room := { frames := 3, cells := 805, slots := 12649, locals := 72 }
def f_X5_init_53 (K82 : Nat → Int32 → Wd → Option (Unit × Wd)) : Nat → Nat → Int32 → Int32 → Wd → Option (Unit × Wd)
  | 0, _, _, _, _ => none
  | n + 1, o, x3, x4, w => if x3 ≤ x4 then (K82 o x3 w) else (gR w (some o) 6 0 (fun v19 => nwO w 5 (fun w23 => bnd (f_X4_init (wn w) x4 x3 w23) (fun v25 w26 => tR w26 v19 106 x4 (some (wn w)) 5 (fun w29 => (f_X5_init_53 K82 n) o x3 (x4 + 1) w29)))))
set_option maxHeartbeats 4000000 in
set_option maxRecDepth 100000 in
theorem b_X5_init_53 {l : Launch} {D : va_G} {aC : Nat → ClassId} {b0 : Nat} {p : Program} {e : Env} {s : State} {m : MethodId} {args : Array Value} {below : List Frame} {meth : Method} {c : Code} (X : Cx D aC p s m args meth c cX5_init RX5 5 "<init>" none) {res : (Unit × Wd)} {K82 : Nat → Int32 → Wd → Option (Unit × Wd)} (hK82 : ∀ (o : Nat) (x3 : Int32) (w : Wd), BW l D aC b0 p e rX5_init s m args below meth c (Qe D aC b0 below args s 805 12649 none res.2) res 805 12649 59 3215 (K82 o x3 w) w 82 5 [(0, va_rf (some o)), (3, .int x3)] []) : ∀ (n : Nat) (o : Nat) (x3 : Int32) (x4 : Int32) (w : Wd), BW l D aC b0 p e rX5_init s m args below meth c (Qe D aC b0 below args s 805 12649 none res.2) res 805 12649 (n * 149 + 59) (n * 1886 + 3215) (f_X5_init_53 K82 n o x3 x4 w) w 53 5 [(0, va_rf (some o)), (3, .int x3), (4, .int x4)] [] := by
  intro n
  induction n with
  | zero =>
    intro o x3 x4 w H locs cells slots ls hf
    rw [f_X5_init_53.eq_1] at hf
    cases hf
  | succ n ih =>
    intro o x3 x4 w H locs cells slots ls hf M hS hc hs hl
    rw [f_X5_init_53.eq_2] at hf
    refine lv_iload X.1 X.2.1 dX5_init_53 (lv_at hl 2 rfl) ?_
    refine lv_iload_n X.1 X.2.1 dX5_init_55 rfl (lv_at hl 1 rfl) ?_
    refine lv_icmp_ge (tgt := 82) X.1 X.2.1 dX5_init_56 (by decide) (fun c17 => ?_) (fun c17 => ?_)
    · rw [if_pos c17] at hf
      exact hK82 o x3 w _ _ _ _ _ hf M hS (by omega) (by omega) (lv_sub hl [0, 1] rfl)
    · rw [if_neg c17] at hf
      refine q_aload_n X dX5_init_59 rfl (lv_at hl 0 rfl) ?_
      have ho := gR_e hf
      clear hf
      obtain ⟨a18, v19, e20, k21, q22, hf⟩ := ho
      cases e20
      refine q_get X M flX5_15 k21 (congrArg va_rf q22) dX5_init_60 ?_
      refine lv_iload X.1 X.2.1 dX5_init_63 (lv_at hl 2 rfl) ?_
      have ho := nwO_e hf
      clear hf
      obtain ⟨w23, q24, hf⟩ := ho
      refine q_new X M hS clX5_13 (MC := 805) (MS := 12649) rfl rfl (by omega) (by omega) dX5_init_65 (fun H M hS => ?_)
      rw [q24] at M
      refine lv_dup X.1 X.2.1 dX5_init_68 rfl ?_
      refine lv_iload X.1 X.2.1 dX5_init_69 (lv_at hl 2 rfl) ?_
      refine lv_iload_n X.1 X.2.1 dX5_init_71 rfl (lv_at hl 1 rfl) ?_
      have ho := bnd_e hf
      clear hf
      obtain ⟨v25, w26, q27, hf⟩ := ho
      refine q_cI X M hS hl.1 (As := [.int x4, .int x3]) (m_X4_init (wn w) x4 x3 _ _ q27) mlX5_19 gm_31 rfl rfl ⟨(Nat.le_of_ble_eq_true rfl), (Nat.le_of_ble_eq_true rfl)⟩ (rest := [va_rf (some (wn w)), .int x4, va_rf v19]) rfl (by simp [cat1]) (mc := 148) (ms := 1880) (MC := 805) (MS := 12649) rfl rfl rfl rfl (by omega) (by omega) dX5_init_72 (fun H locs M hS => ?_)
      have ho := tR_e hf
      clear hf
      obtain ⟨a28, w29, e30, k31, i32, z34, q33, hf⟩ := ho
      cases e30
      refine q_aast X M hS (Or.inr (Or.inr (Or.inr ⟨rfl, rfl, rfl⟩))) k31 z34 i32 dX5_init_75 (fun H locs M hS => ?_)
      rw [q33] at M
      refine lv_iinc (v := (x4 + 1)) (lv' := [(4, .int (x4 + 1)), (0, va_rf (some o)), (3, .int x3)]) X.1 X.2.1 dX5_init_76 hl (k := 2) rfl rfl (by decide) rfl (fun ls hl => ?_)
      refine lv_goto (tgt := 53) X.1 X.2.1 dX5_init_79 (by decide) ?_
      exact ih o x3 (x4 + 1) w29 _ _ _ _ _ hf M hS (by omega) (by omega) (lv_sub hl [1, 2, 0] rfl)
def f_X5_init_94 (K124 : Nat → Wd → Option (Unit × Wd)) : Nat → Nat → Int32 → Int32 → Wd → Option (Unit × Wd)
  | 0, _, _, _, _ => none
  | n + 1, o, x3, x4, w => if 6 ≤ x4 then (K124 o w) else (gR w (some o) 6 1 (fun v46 => nwO w 2 (fun w50 => bnd (f_X1_init (wn w) x4 x3 w50) (fun v52 w53 => tR w53 v46 104 x4 (some (wn w)) 2 (fun w56 => (f_X5_init_94 K124 n) o x3 (x4 + 1) w56)))))
set_option maxHeartbeats 4000000 in
set_option maxRecDepth 100000 in
theorem b_X5_init_94 {l : Launch} {D : va_G} {aC : Nat → ClassId} {b0 : Nat} {p : Program} {e : Env} {s : State} {m : MethodId} {args : Array Value} {below : List Frame} {meth : Method} {c : Code} (X : Cx D aC p s m args meth c cX5_init RX5 5 "<init>" none) {res : (Unit × Wd)} {K124 : Nat → Wd → Option (Unit × Wd)} (hK124 : ∀ (o : Nat) (w : Wd), BW l D aC b0 p e rX5_init s m args below meth c (Qe D aC b0 below args s 805 12649 none res.2) res 805 12649 2 514 (K124 o w) w 124 5 [(0, va_rf (some o))] []) : ∀ (n : Nat) (o : Nat) (x3 : Int32) (x4 : Int32) (w : Wd), BW l D aC b0 p e rX5_init s m args below meth c (Qe D aC b0 below args s 805 12649 none res.2) res 805 12649 (n * 8 + 2) (n * 385 + 514) (f_X5_init_94 K124 n o x3 x4 w) w 94 5 [(0, va_rf (some o)), (3, .int x3), (4, .int x4)] [] := by
  intro n
  induction n with
  | zero =>
    intro o x3 x4 w H locs cells slots ls hf
    rw [f_X5_init_94.eq_1] at hf
    cases hf
  | succ n ih =>
    intro o x3 x4 w H locs cells slots ls hf M hS hc hs hl
    rw [f_X5_init_94.eq_2] at hf
    refine lv_iload X.1 X.2.1 dX5_init_94 (lv_at hl 2 rfl) ?_
    refine lv_bipush (v := 6) X.1 X.2.1 dX5_init_96 (by decide) ?_
    refine lv_icmp_ge (tgt := 124) X.1 X.2.1 dX5_init_98 (by decide) (fun c44 => ?_) (fun c44 => ?_)
    · rw [if_pos c44] at hf
      exact hK124 o w _ _ _ _ _ hf M hS (by omega) (by omega) (lv_sub hl [0] rfl)
    · rw [if_neg c44] at hf
      refine q_aload_n X dX5_init_101 rfl (lv_at hl 0 rfl) ?_
      have ho := gR_e hf
      clear hf
      obtain ⟨a45, v46, e47, k48, q49, hf⟩ := ho
      cases e47
      refine q_get X M flX5_24 k48 (congrArg va_rf q49) dX5_init_102 ?_
      refine lv_iload X.1 X.2.1 dX5_init_105 (lv_at hl 2 rfl) ?_
      have ho := nwO_e hf
      clear hf
      obtain ⟨w50, q51, hf⟩ := ho
      refine q_new X M hS clX5_22 (MC := 805) (MS := 12649) rfl rfl (by omega) (by omega) dX5_init_107 (fun H M hS => ?_)
      rw [q51] at M
      refine lv_dup X.1 X.2.1 dX5_init_110 rfl ?_
      refine lv_iload X.1 X.2.1 dX5_init_111 (lv_at hl 2 rfl) ?_
      refine lv_iload_n X.1 X.2.1 dX5_init_113 rfl (lv_at hl 1 rfl) ?_
      have ho := bnd_e hf
      clear hf
      obtain ⟨v52, w53, q54, hf⟩ := ho
      refine q_cI X M hS hl.1 (As := [.int x4, .int x3]) (m_X1_init (wn w) x4 x3 _ _ q54) mlX5_28 gm_83 rfl rfl ⟨(Nat.le_of_ble_eq_true rfl), (Nat.le_of_ble_eq_true rfl)⟩ (rest := [va_rf (some (wn w)), .int x4, va_rf v46]) rfl (by simp [cat1]) (mc := 7) (ms := 374) (MC := 805) (MS := 12649) rfl rfl rfl rfl (by omega) (by omega) dX5_init_114 (fun H locs M hS => ?_)
      have ho := tR_e hf
      clear hf
      obtain ⟨a55, w56, e57, k58, i59, z61, q60, hf⟩ := ho
      cases e57
      refine q_aast X M hS (Or.inr (Or.inl ⟨rfl, rfl, rfl⟩)) k58 z61 i59 dX5_init_117 (fun H locs M hS => ?_)
      rw [q60] at M
      refine lv_iinc (v := (x4 + 1)) (lv' := [(4, .int (x4 + 1)), (0, va_rf (some o)), (3, .int x3)]) X.1 X.2.1 dX5_init_118 hl (k := 2) rfl rfl (by decide) rfl (fun ls hl => ?_)
      refine lv_goto (tgt := 94) X.1 X.2.1 dX5_init_121 (by decide) ?_
      exact ih o x3 (x4 + 1) w56 _ _ _ _ _ hf M hS (by omega) (by omega) (lv_sub hl [1, 2, 0] rfl)
def f_X5_init_124 (o : Nat) (w : Wd) : Option (Unit × Wd) := nwO w 4 (fun w62 => bnd (f_X3_init (wn w) 400 w62) (fun v64 w65 => pR w65 (some o) 6 2 (some (wn w)) (fun w68 => some ((), w68))))
set_option maxHeartbeats 4000000 in
set_option maxRecDepth 100000 in
theorem b_X5_init_124 {l : Launch} {D : va_G} {aC : Nat → ClassId} {b0 : Nat} {p : Program} {e : Env} {s : State} {m : MethodId} {args : Array Value} {below : List Frame} {meth : Method} {c : Code} (X : Cx D aC p s m args meth c cX5_init RX5 5 "<init>" none) {res : (Unit × Wd)} : ∀ (o : Nat) (w : Wd), BW l D aC b0 p e rX5_init s m args below meth c (Qe D aC b0 below args s 805 12649 none res.2) res 805 12649 2 514 (f_X5_init_124 o w) w 124 5 [(0, va_rf (some o))] [] := by
  intro o w H locs cells slots ls hf M hS hc hs hl
  unfold f_X5_init_124 at hf
  refine q_aload_n X dX5_init_124 rfl (lv_at hl 0 rfl) ?_
  have ho := nwO_e hf
  clear hf
  obtain ⟨w62, q63, hf⟩ := ho
  refine q_new X M hS clX5_29 (MC := 805) (MS := 12649) rfl rfl (by omega) (by omega) dX5_init_125 (fun H M hS => ?_)
  rw [q63] at M
  refine lv_dup X.1 X.2.1 dX5_init_128 rfl ?_
  refine lv_sipush (v := 400) X.1 X.2.1 dX5_init_129 (by decide) ?_
  have ho := bnd_e hf
  clear hf
  obtain ⟨v64, w65, q66, hf⟩ := ho
  refine q_cI X M hS hl.1 (As := [.int 400]) (m_X3_init (wn w) 400 _ _ q66) mlX5_31 gm_52 rfl rfl ⟨(Nat.le_of_ble_eq_true rfl), (Nat.le_of_ble_eq_true rfl)⟩ (rest := [va_rf (some (wn w)), va_rf (some o)]) rfl (Nat.le_of_ble_eq_true rfl) (mc := 1) (ms := 512) (MC := 805) (MS := 12649) rfl rfl rfl rfl (by omega) (by omega) dX5_init_132 (fun H locs M hS => ?_)
  have ho := pR_e hf
  clear hf
  obtain ⟨a67, w68, e69, k70, q71, hf⟩ := ho
  cases e69
  refine q_putR X M hS flX5_34 (Or.inr rfl) k70 dX5_init_135 (fun H locs M hS => ?_)
  rw [q71] at M
  obtain rfl := Option.some.inj hf
  exact q_vret X M hS (by omega) (by omega) dX5_init_138
def f_X5_init_82 (o : Nat) (x3 : Int32) (w : Wd) : Option (Unit × Wd) := nwA w 104 6 6 (fun w35 => pR w35 (some o) 6 1 (some (wn w)) (fun w40 => (f_X5_init_94 (f_X5_init_124) 7) o x3 0 w40))
set_option maxHeartbeats 4000000 in
set_option maxRecDepth 100000 in
theorem b_X5_init_82 {l : Launch} {D : va_G} {aC : Nat → ClassId} {b0 : Nat} {p : Program} {e : Env} {s : State} {m : MethodId} {args : Array Value} {below : List Frame} {meth : Method} {c : Code} (X : Cx D aC p s m args meth c cX5_init RX5 5 "<init>" none) {res : (Unit × Wd)} : ∀ (o : Nat) (x3 : Int32) (w : Wd), BW l D aC b0 p e rX5_init s m args below meth c (Qe D aC b0 below args s 805 12649 none res.2) res 805 12649 59 3215 (f_X5_init_82 o x3 w) w 82 5 [(0, va_rf (some o)), (3, .int x3)] [] := by
  intro o x3 w H locs cells slots ls hf M hS hc hs hl
  unfold f_X5_init_82 at hf
  refine q_aload_n X dX5_init_82 rfl (lv_at hl 0 rfl) ?_
  refine lv_bipush (v := 6) X.1 X.2.1 dX5_init_83 (by decide) ?_
  have ho := nwA_e hf
  clear hf
  obtain ⟨w35, z36, z37, q38, hf⟩ := ho
  refine q_newq X M hS (t := 4) (Or.inr (Or.inl ⟨rfl, rfl, rfl⟩))  gm_22 z36 (bd := 6) z37 (by decide) (MC := 805) (MS := 12649) rfl rfl (by omega) (by omega) dX5_init_85 (fun H M hS => ?_)
  rw [q38] at M
  have ho := pR_e hf
  clear hf
  obtain ⟨a39, w40, e41, k42, q43, hf⟩ := ho
  cases e41
  refine q_putR X M hS flX5_24 (Or.inr rfl) k42 dX5_init_88 (fun H locs M hS => ?_)
  rw [q43] at M
  refine lv_iconst (v := 0) X.1 X.2.1 dX5_init_91 (by decide) ?_
  refine lv_istore (lv' := [(4, .int 0), (0, va_rf (some o)), (3, .int x3)]) X.1 X.2.1 dX5_init_92 hl (by decide) rfl (fun ls hl => ?_)
  exact (b_X5_init_94 X (b_X5_init_124 X) 7) o x3 0 w40 _ _ _ _ _ hf M hS (by omega) (by omega) (lv_sub hl [1, 2, 0] rfl)
def f_X5_init_39 (o : Nat) (x3 : Int32) (y0 : Option Nat) (y1 : Int32) (w : Wd) : Option (Unit × Wd) := pI w y0 6 3 y1 (fun w4 => nwA w4 106 x3 4 (fun w8 => pR w8 (some o) 6 0 (some (wn w4)) (fun w13 => (f_X5_init_53 (f_X5_init_82) 5) o x3 0 w13)))
set_option maxHeartbeats 4000000 in
set_option maxRecDepth 100000 in
theorem b_X5_init_39 {l : Launch} {D : va_G} {aC : Nat → ClassId} {b0 : Nat} {p : Program} {e : Env} {s : State} {m : MethodId} {args : Array Value} {below : List Frame} {meth : Method} {c : Code} (X : Cx D aC p s m args meth c cX5_init RX5 5 "<init>" none) {res : (Unit × Wd)} : ∀ (o : Nat) (x3 : Int32) (y0 : Option Nat) (y1 : Int32) (w : Wd), BW l D aC b0 p e rX5_init s m args below meth c (Qe D aC b0 below args s 805 12649 none res.2) res 805 12649 805 12649 (f_X5_init_39 o x3 y0 y1 w) w 39 5 [(0, va_rf (some o)), (3, .int x3)] [.int y1, va_rf y0] := by
  intro o x3 y0 y1 w H locs cells slots ls hf M hS hc hs hl
  unfold f_X5_init_39 at hf
  have ho := pI_e hf
  clear hf
  obtain ⟨a3, w4, e5, k6, q7, hf⟩ := ho
  cases e5
  refine q_putI X M hS flX5_9 (Or.inr rfl) k6 dX5_init_39 (fun H locs M hS => ?_)
  rw [q7] at M
  refine q_aload_n X dX5_init_42 rfl (lv_at hl 0 rfl) ?_
  refine lv_iload_n X.1 X.2.1 dX5_init_43 rfl (lv_at hl 1 rfl) ?_
  have ho := nwA_e hf
  clear hf
  obtain ⟨w8, z9, z10, q11, hf⟩ := ho
  refine q_newq X M hS (t := 6) (Or.inr (Or.inr (Or.inr ⟨rfl, rfl, rfl⟩)))  gm_18 z9 (bd := 4) z10 (by decide) (MC := 805) (MS := 12649) rfl rfl (by omega) (by omega) dX5_init_44 (fun H M hS => ?_)
  rw [q11] at M
  have ho := pR_e hf
  clear hf
  obtain ⟨a12, w13, e14, k15, q16, hf⟩ := ho
  cases e14
  refine q_putR X M hS flX5_15 (Or.inr rfl) k15 dX5_init_47 (fun H locs M hS => ?_)
  rw [q16] at M
  refine lv_iconst (v := 0) X.1 X.2.1 dX5_init_50 (by decide) ?_
  refine lv_istore (lv' := [(4, .int 0), (0, va_rf (some o)), (3, .int x3)]) X.1 X.2.1 dX5_init_51 hl (by decide) rfl (fun ls hl => ?_)
  exact (b_X5_init_53 X (b_X5_init_82 X) 5) o x3 0 w13 _ _ _ _ _ hf M hS (by omega) (by omega) (lv_sub hl [1, 2, 0] rfl)
def f_X5_init_37 (o : Nat) (x3 : Int32) (y0 : Option Nat) (w : Wd) : Option (Unit × Wd) := (f_X5_init_39) o x3 y0 50 w
set_option maxHeartbeats 4000000 in
set_option maxRecDepth 100000 in
theorem b_X5_init_37 {l : Launch} {D : va_G} {aC : Nat → ClassId} {b0 : Nat} {p : Program} {e : Env} {s : State} {m : MethodId} {args : Array Value} {below : List Frame} {meth : Method} {c : Code} (X : Cx D aC p s m args meth c cX5_init RX5 5 "<init>" none) {res : (Unit × Wd)} : ∀ (o : Nat) (x3 : Int32) (y0 : Option Nat) (w : Wd), BW l D aC b0 p e rX5_init s m args below meth c (Qe D aC b0 below args s 805 12649 none res.2) res 805 12649 805 12649 (f_X5_init_37 o x3 y0 w) w 37 5 [(0, va_rf (some o)), (3, .int x3)] [va_rf y0] := by
  intro o x3 y0 w H locs cells slots ls hf M hS hc hs hl
  unfold f_X5_init_37 at hf
  refine lv_bipush (v := 50) X.1 X.2.1 dX5_init_37 (by decide) ?_
  exact (b_X5_init_39 X) o x3 y0 50 w _ _ _ _ _ hf M hS (by omega) (by omega) (lv_sub hl [0, 1] rfl)
def f_X5_init_19 (o : Nat) (x2 : Int32) (y0 : Int32) (w : Wd) : Option (Unit × Wd) := if x2 < 1 then ((f_X5_init_37) o y0 (some o) w) else (if 1000 < x2 then ((f_X5_init_37) o y0 (some o) w) else ((f_X5_init_39) o y0 (some o) x2 w))
set_option maxHeartbeats 4000000 in
set_option maxRecDepth 100000 in
theorem b_X5_init_19 {l : Launch} {D : va_G} {aC : Nat → ClassId} {b0 : Nat} {p : Program} {e : Env} {s : State} {m : MethodId} {args : Array Value} {below : List Frame} {meth : Method} {c : Code} (X : Cx D aC p s m args meth c cX5_init RX5 5 "<init>" none) {res : (Unit × Wd)} : ∀ (o : Nat) (x2 : Int32) (y0 : Int32) (w : Wd), BW l D aC b0 p e rX5_init s m args below meth c (Qe D aC b0 below args s 805 12649 none res.2) res 805 12649 805 12649 (f_X5_init_19 o x2 y0 w) w 19 5 [(0, va_rf (some o)), (2, .int x2)] [.int y0] := by
  intro o x2 y0 w H locs cells slots ls hf M hS hc hs hl
  unfold f_X5_init_19 at hf
  refine lv_istore_n (lv' := [(3, .int y0), (0, va_rf (some o)), (2, .int x2)]) X.1 X.2.1 dX5_init_19 rfl hl (by decide) rfl (fun ls hl => ?_)
  refine q_aload_n X dX5_init_20 rfl (lv_at hl 1 rfl) ?_
  refine lv_iload_n X.1 X.2.1 dX5_init_21 rfl (lv_at hl 2 rfl) ?_
  refine lv_iconst (v := 1) X.1 X.2.1 dX5_init_22 (by decide) ?_
  refine lv_icmp_lt (tgt := 37) X.1 X.2.1 dX5_init_23 (by decide) (fun c2 => ?_) (fun c2 => ?_)
  · rw [if_pos c2] at hf
    exact (b_X5_init_37 X) o y0 (some o) w _ _ _ _ _ hf M hS (by omega) (by omega) (lv_sub hl [1, 0] rfl)
  · rw [if_neg c2] at hf
    refine lv_iload_n X.1 X.2.1 dX5_init_26 rfl (lv_at hl 2 rfl) ?_
    refine lv_sipush (v := 1000) X.1 X.2.1 dX5_init_27 (by decide) ?_
    refine lv_icmp_gt (tgt := 37) X.1 X.2.1 dX5_init_30 (by decide) (fun c72 => ?_) (fun c72 => ?_)
    · rw [if_pos c72] at hf
      exact (b_X5_init_37 X) o y0 (some o) w _ _ _ _ _ hf M hS (by omega) (by omega) (lv_sub hl [1, 0] rfl)
    · rw [if_neg c72] at hf
      refine lv_iload_n X.1 X.2.1 dX5_init_33 rfl (lv_at hl 2 rfl) ?_
      refine lv_goto (tgt := 39) X.1 X.2.1 dX5_init_34 (by decide) ?_
      exact (b_X5_init_39 X) o y0 (some o) x2 w _ _ _ _ _ hf M hS (by omega) (by omega) (lv_sub hl [1, 0] rfl)
def f_X5_init_18 (o : Nat) (x2 : Int32) (w : Wd) : Option (Unit × Wd) := (f_X5_init_19) o x2 3 w
set_option maxHeartbeats 4000000 in
set_option maxRecDepth 100000 in
theorem b_X5_init_18 {l : Launch} {D : va_G} {aC : Nat → ClassId} {b0 : Nat} {p : Program} {e : Env} {s : State} {m : MethodId} {args : Array Value} {below : List Frame} {meth : Method} {c : Code} (X : Cx D aC p s m args meth c cX5_init RX5 5 "<init>" none) {res : (Unit × Wd)} : ∀ (o : Nat) (x2 : Int32) (w : Wd), BW l D aC b0 p e rX5_init s m args below meth c (Qe D aC b0 below args s 805 12649 none res.2) res 805 12649 805 12649 (f_X5_init_18 o x2 w) w 18 5 [(0, va_rf (some o)), (2, .int x2)] [] := by
  intro o x2 w H locs cells slots ls hf M hS hc hs hl
  unfold f_X5_init_18 at hf
  refine lv_iconst (v := 3) X.1 X.2.1 dX5_init_18 (by decide) ?_
  exact (b_X5_init_19 X) o x2 3 w _ _ _ _ _ hf M hS (by omega) (by omega) (lv_sub hl [0, 1] rfl)
def f_X5_init (o : Nat) (x1 : Int32) (x2 : Int32) (w : Wd) : Option (Unit × Wd) := if x1 < 2 then ((f_X5_init_18) o x2 w) else (if 4 < x1 then ((f_X5_init_18) o x2 w) else ((f_X5_init_19) o x2 x1 w))
set_option maxHeartbeats 4000000 in
set_option maxRecDepth 100000 in
theorem e_X5_init {l : Launch} {D : va_G} {aC : Nat → ClassId} {b0 : Nat} {p : Program} {e : Env} {s : State} {m : MethodId} {args : Array Value} {below : List Frame} {meth : Method} {c : Code} (X : Cx D aC p s m args meth c cX5_init RX5 5 "<init>" none) {res : (Unit × Wd)} (o : Nat) (x1 : Int32) (x2 : Int32) (w : Wd) : BW l D aC b0 p e rX5_init s m args below meth c (Qe D aC b0 below args s 805 12649 none res.2) res 805 12649 805 12649 (f_X5_init o x1 x2 w) w 0 5 [(0, va_rf (some o)), (1, .int x1), (2, .int x2)] [] := by
  intro H locs cells slots ls hf M hS hc hs hl
  unfold f_X5_init at hf
  refine q_aload_n X dX5_init_0 rfl (lv_at hl 0 rfl) ?_
  refine q_obj X hl.1 gm_14 (Nat.le_of_ble_eq_true rfl) (Nat.le_of_ble_eq_true rfl) dX5_init_1 ?_
  refine lv_iload_n X.1 X.2.1 dX5_init_4 rfl (lv_at hl 1 rfl) ?_
  refine lv_iconst (v := 2) X.1 X.2.1 dX5_init_5 (by decide) ?_
  refine lv_icmp_lt (tgt := 18) X.1 X.2.1 dX5_init_6 (by decide) (fun c1 => ?_) (fun c1 => ?_)
  · rw [if_pos c1] at hf
    exact (b_X5_init_18 X) o x2 w _ _ _ _ _ hf M hS (by omega) (by omega) (lv_sub hl [0, 2] rfl)
  · rw [if_neg c1] at hf
    refine lv_iload_n X.1 X.2.1 dX5_init_9 rfl (lv_at hl 1 rfl) ?_
    refine lv_iconst (v := 4) X.1 X.2.1 dX5_init_10 (by decide) ?_
    refine lv_icmp_gt (tgt := 18) X.1 X.2.1 dX5_init_11 (by decide) (fun c73 => ?_) (fun c73 => ?_)
    · rw [if_pos c73] at hf
      exact (b_X5_init_18 X) o x2 w _ _ _ _ _ hf M hS (by omega) (by omega) (lv_sub hl [0, 2] rfl)
    · rw [if_neg c73] at hf
      refine lv_iload_n X.1 X.2.1 dX5_init_14 rfl (lv_at hl 1 rfl) ?_
      refine lv_goto (tgt := 19) X.1 X.2.1 dX5_init_15 (by decide) ?_
      exact (b_X5_init_19 X) o x2 x1 w _ _ _ _ _ hf M hS (by omega) (by omega) (lv_sub hl [0, 2] rfl)
theorem m_X5_init {l : Launch} {D : va_G} {aC : Nat → ClassId} {b0 : Nat} {w : Wd} (o : Nat) (x1 : Int32) (x2 : Int32) (v : Unit) (w' : Wd) (hf : f_X5_init o x1 x2 w = some (v, w')) : Ct l D aC b0 yX5_init (Cond.code yX5_init cX5_init 5 none :: Gw) rX5_init [va_rf (some o), .int x1, .int x2] w none w' :=
  q_met (by decide) (Nat.le_of_ble_eq_true rfl) (fun p e s m below meth c X M ls hl => e_X5_init X (res := (v, w')) o x1 x2 w s.heap [] 0 0 ls hf M va_S.rf (by decide) (by decide) hl)
abbrev rX5_clientAt : Room := { frames := 0, cells := 0, slots := 0, locals := 0 }
def f_X5_clientAt (o : Nat) (x1 : Int32) (w : Wd) : Option ((Option Nat) × Wd) := if x1 < 0 then (some (none, w)) else (gR w (some o) 6 1 (fun v3 => gN w v3 104 (fun v8 => if v8 ≤ x1 then (some (none, w)) else (gR w (some o) 6 1 (fun v14 => aR w v14 104 x1 (fun v19 => some (v19, w)))))))
set_option maxHeartbeats 4000000 in
set_option maxRecDepth 100000 in
theorem e_X5_clientAt {l : Launch} {D : va_G} {aC : Nat → ClassId} {b0 : Nat} {p : Program} {e : Env} {s : State} {m : MethodId} {args : Array Value} {below : List Frame} {meth : Method} {c : Code} (X : Cx D aC p s m args meth c cX5_clientAt RX5 2 "clientAt" (some (.object "OnceCalls$Client"))) {res : ((Option Nat) × Wd)} (o : Nat) (x1 : Int32) (w : Wd) : BW l D aC b0 p e rX5_clientAt s m args below meth c (Qe D aC b0 below args s 0 0 (some (va_rf res.1)) res.2) res 0 0 0 0 (f_X5_clientAt o x1 w) w 0 2 [(0, va_rf (some o)), (1, .int x1)] [] := by
  intro H locs cells slots ls hf M hS hc hs hl
  unfold f_X5_clientAt at hf
  refine lv_iload_n X.1 X.2.1 dX5_clientAt_0 rfl (lv_at hl 1 rfl) ?_
  refine lv_if_lt (tgt := 22) X.1 X.2.1 dX5_clientAt_1 (by decide) (fun c1 => ?_) (fun c1 => ?_)
  · rw [if_pos c1] at hf
    refine q_null X dX5_clientAt_22 ?_
    obtain rfl := Option.some.inj hf
    exact q_aret X M hS (by omega) (by omega) dX5_clientAt_23
  · rw [if_neg c1] at hf
    refine lv_iload_n X.1 X.2.1 dX5_clientAt_4 rfl (lv_at hl 1 rfl) ?_
    refine q_aload_n X dX5_clientAt_5 rfl (lv_at hl 0 rfl) ?_
    have ho := gR_e hf
    clear hf
    obtain ⟨a2, v3, e4, k5, q6, hf⟩ := ho
    cases e4
    refine q_get X M flX5_24 k5 (congrArg va_rf q6) dX5_clientAt_6 ?_
    have ho := gN_e hf
    clear hf
    obtain ⟨a7, v8, e9, k10, q11, hf⟩ := ho
    cases e9
    refine q_alen X M (t := 4) (by decide) k10 dX5_clientAt_9 ?_
    rw [q11]
    refine lv_icmp_ge (tgt := 22) X.1 X.2.1 dX5_clientAt_10 (by decide) (fun c12 => ?_) (fun c12 => ?_)
    · rw [if_pos c12] at hf
      refine q_null X dX5_clientAt_22 ?_
      obtain rfl := Option.some.inj hf
      exact q_aret X M hS (by omega) (by omega) dX5_clientAt_23
    · rw [if_neg c12] at hf
      refine q_aload_n X dX5_clientAt_13 rfl (lv_at hl 0 rfl) ?_
      have ho := gR_e hf
      clear hf
      obtain ⟨a13, v14, e15, k16, q17, hf⟩ := ho
      cases e15
      refine q_get X M flX5_24 k16 (congrArg va_rf q17) dX5_clientAt_14 ?_
      refine lv_iload_n X.1 X.2.1 dX5_clientAt_17 rfl (lv_at hl 1 rfl) ?_
      have ho := aR_e hf
      clear hf
      obtain ⟨a18, v19, e20, k21, i22, q23, hf⟩ := ho
      cases e20
      refine q_aald X M (Or.inr (Or.inl ⟨rfl, rfl, rfl⟩)) k21 i22 dX5_clientAt_18 ?_
      rw [q23]
      refine lv_goto (tgt := 23) X.1 X.2.1 dX5_clientAt_19 (by decide) ?_
      obtain rfl := Option.some.inj hf
      exact q_aret X M hS (by omega) (by omega) dX5_clientAt_23
theorem m_X5_clientAt {l : Launch} {D : va_G} {aC : Nat → ClassId} {b0 : Nat} {w : Wd} (o : Nat) (x1 : Int32) (v : (Option Nat)) (w' : Wd) (hf : f_X5_clientAt o x1 w = some (v, w')) : Ct l D aC b0 yX5_clientAt (Cond.code yX5_clientAt cX5_clientAt 2 (some (.object "OnceCalls$Client")) :: Gw) rX5_clientAt [va_rf (some o), .int x1] w (some (va_rf v)) w' :=
  q_met (by decide) (Nat.le_of_ble_eq_true rfl) (fun p e s m below meth c X M ls hl => e_X5_clientAt X (res := (v, w')) o x1 w s.heap [] 0 0 ls hf M va_S.rf (by decide) (by decide) hl)
abbrev rX5_open : Room := { frames := 1, cells := 0, slots := 0, locals := 21 }
def f_X5_open (o : Nat) (x1 : Int32) (w : Wd) : Option (Int32 × Wd) := chk w (some o) 6 (fun a4 => bnd (f_X5_clientAt a4 x1 w) (fun v1 w2 => if v1 = none then (some ((-1), w2)) else (gI w2 (some o) 6 5 (fun v9 => pI w2 (some o) 6 5 (v9 + 1) (fun w14 => gI w14 (some o) 6 5 (fun v19 => pI w14 v1 2 1 v19 (fun w24 => pI w24 v1 2 3 0 (fun w29 => gI w29 (some o) 6 4 (fun v34 => gI w29 (some o) 6 3 (fun v39 => pI w29 v1 2 2 (v34 + v39) (fun w44 => gI w44 v1 2 1 (fun v49 => some (v49, w44)))))))))))))
set_option maxHeartbeats 4000000 in
set_option maxRecDepth 100000 in
theorem e_X5_open {l : Launch} {D : va_G} {aC : Nat → ClassId} {b0 : Nat} {p : Program} {e : Env} {s : State} {m : MethodId} {args : Array Value} {below : List Frame} {meth : Method} {c : Code} (X : Cx D aC p s m args meth c cX5_open RX5 3 "open" (some .int)) {res : (Int32 × Wd)} (o : Nat) (x1 : Int32) (w : Wd) : BW l D aC b0 p e rX5_open s m args below meth c (Qe D aC b0 below args s 0 0 (some (.int res.1)) res.2) res 0 0 0 0 (f_X5_open o x1 w) w 0 3 [(0, va_rf (some o)), (1, .int x1)] [] := by
  intro H locs cells slots ls hf M hS hc hs hl
  unfold f_X5_open at hf
  refine q_aload_n X dX5_open_0 rfl (lv_at hl 0 rfl) ?_
  refine lv_iload_n X.1 X.2.1 dX5_open_1 rfl (lv_at hl 1 rfl) ?_
  have ho := chk_e hf
  clear hf
  obtain ⟨a4, e5, k6, hf⟩ := ho
  cases e5
  have ho := bnd_e hf
  clear hf
  obtain ⟨v1, w2, q3, hf⟩ := ho
  refine q_cV X M hS hl.1 (ci := 5) (r := (RX5, TX5, 9)) (As := [.int x1]) (m_X5_clientAt o x1 _ _ q3) mlX5_38 gm_158 gm_159 rfl (by decide) k6 rfl ⟨(Nat.le_of_ble_eq_true rfl), (Nat.le_of_ble_eq_true rfl)⟩ (rest := []) rfl (Nat.le_of_ble_eq_true rfl) (mc := 0) (ms := 0) (MC := 0) (MS := 0) rfl rfl rfl rfl (by omega) (by omega) dX5_open_2 (st2 := [va_rf v1]) rfl (fun H locs M hS => ?_)
  refine q_astore_n (lv' := [(2, va_rf v1), (0, va_rf (some o)), (1, .int x1)]) X dX5_open_5 rfl hl (by decide) rfl (fun ls hl => ?_)
  refine q_aload_n X dX5_open_6 rfl (lv_at hl 0 rfl) ?_
  refine q_ifnonnull (tgt := 12) X dX5_open_7 (by decide) (fun c7 => ?_) (fun c7 => ?_)
  · rw [if_neg c7] at hf
    refine q_aload_n X dX5_open_12 rfl (lv_at hl 1 rfl) ?_
    refine lv_dup X.1 X.2.1 dX5_open_13 rfl ?_
    have ho := gI_e hf
    clear hf
    obtain ⟨a8, v9, e10, k11, q12, hf⟩ := ho
    cases e10
    refine q_get X M flX5_42 k11 (congrArg Value.int q12) dX5_open_14 ?_
    refine lv_iconst (v := 1) X.1 X.2.1 dX5_open_17 (by decide) ?_
    refine lv_iadd X.1 X.2.1 dX5_open_18 ?_
    have ho := pI_e hf
    clear hf
    obtain ⟨a13, w14, e15, k16, q17, hf⟩ := ho
    cases e15
    refine q_putI X M hS flX5_42 (Or.inl rfl) k16 dX5_open_19 (fun H locs M hS => ?_)
    rw [q17] at M
    refine q_aload_n X dX5_open_22 rfl (lv_at hl 0 rfl) ?_
    refine q_aload_n X dX5_open_23 rfl (lv_at hl 1 rfl) ?_
    have ho := gI_e hf
    clear hf
    obtain ⟨a18, v19, e20, k21, q22, hf⟩ := ho
    cases e20
    refine q_get X M flX5_42 k21 (congrArg Value.int q22) dX5_open_24 ?_
    have ho := pI_e hf
    clear hf
    obtain ⟨a23, w24, e25, k26, q27, hf⟩ := ho
    cases e25
    refine q_putI X M hS flX5_45 (Or.inl rfl) k26 dX5_open_27 (fun H locs M hS => ?_)
    rw [q27] at M
    refine q_aload_n X dX5_open_30 rfl (lv_at hl 0 rfl) ?_
    refine lv_iconst (v := 0) X.1 X.2.1 dX5_open_31 (by decide) ?_
    have ho := pI_e hf
    clear hf
    obtain ⟨a28, w29, e30, k31, q32, hf⟩ := ho
    cases e30
    refine q_putI X M hS flX5_48 (Or.inl rfl) k31 dX5_open_32 (fun H locs M hS => ?_)
    rw [q32] at M
    refine q_aload_n X dX5_open_35 rfl (lv_at hl 0 rfl) ?_
    refine q_aload_n X dX5_open_36 rfl (lv_at hl 1 rfl) ?_
    have ho := gI_e hf
    clear hf
    obtain ⟨a33, v34, e35, k36, q37, hf⟩ := ho
    cases e35
    refine q_get X M flX5_51 k36 (congrArg Value.int q37) dX5_open_37 ?_
    refine q_aload_n X dX5_open_40 rfl (lv_at hl 1 rfl) ?_
    have ho := gI_e hf
    clear hf
    obtain ⟨a38, v39, e40, k41, q42, hf⟩ := ho
    cases e40
    refine q_get X M flX5_9 k41 (congrArg Value.int q42) dX5_open_41 ?_
    refine lv_iadd X.1 X.2.1 dX5_open_44 ?_
    have ho := pI_e hf
    clear hf
    obtain ⟨a43, w44, e45, k46, q47, hf⟩ := ho
    cases e45
    refine q_putI X M hS flX5_54 (Or.inl rfl) k46 dX5_open_45 (fun H locs M hS => ?_)
    rw [q47] at M
    refine q_aload_n X dX5_open_48 rfl (lv_at hl 0 rfl) ?_
    have ho := gI_e hf
    clear hf
    obtain ⟨a48, v49, e50, k51, q52, hf⟩ := ho
    cases e50
    refine q_get X M flX5_45 k51 (congrArg Value.int q52) dX5_open_49 ?_
    obtain rfl := Option.some.inj hf
    exact q_iret X M hS (by omega) (by omega) dX5_open_52
  · rw [if_pos c7] at hf
    refine lv_iconst (v := (-1)) X.1 X.2.1 dX5_open_10 (by decide) ?_
    obtain rfl := Option.some.inj hf
    exact q_iret X M hS (by omega) (by omega) dX5_open_11
theorem m_X5_open {l : Launch} {D : va_G} {aC : Nat → ClassId} {b0 : Nat} {w : Wd} (o : Nat) (x1 : Int32) (v : Int32) (w' : Wd) (hf : f_X5_open o x1 w = some (v, w')) : Ct l D aC b0 yX5_open (Cond.code yX5_open cX5_open 3 (some .int) :: Gw) rX5_open [va_rf (some o), .int x1] w (some (.int v)) w' :=
  q_met (by decide) (Nat.le_of_ble_eq_true rfl) (fun p e s m below meth c X M ls hl => e_X5_open X (res := (v, w')) o x1 w s.heap [] 0 0 ls hf M va_S.rf (by decide) (by decide) hl)
abbrev rX5_isLive : Room := { frames := 1, cells := 0, slots := 0, locals := 21 }
def f_X5_isLive (o : Nat) (x1 : Int32) (x2 : Int32) (w : Wd) : Option (Int32 × Wd) := chk w (some o) 6 (fun a4 => bnd (f_X5_clientAt a4 x1 w) (fun v1 w2 => if v1 = none then (retZ 0 w2) else (gI w2 v1 2 1 (fun v10 => if v10 = 0 then (retZ 0 w2) else (gI w2 v1 2 1 (fun v17 => if v17 = x2 then (gI w2 (some o) 6 4 (fun v24 => gI w2 v1 2 2 (fun v29 => if v29 < v24 then (retZ 0 w2) else (retZ 1 w2)))) else (retZ 0 w2)))))))
set_option maxHeartbeats 4000000 in
set_option maxRecDepth 100000 in
theorem e_X5_isLive {l : Launch} {D : va_G} {aC : Nat → ClassId} {b0 : Nat} {p : Program} {e : Env} {s : State} {m : MethodId} {args : Array Value} {below : List Frame} {meth : Method} {c : Code} (X : Cx D aC p s m args meth c cX5_isLive RX5 4 "isLive" (some .boolean)) {res : (Int32 × Wd)} (o : Nat) (x1 : Int32) (x2 : Int32) (w : Wd) : BW l D aC b0 p e rX5_isLive s m args below meth c (Qe D aC b0 below args s 0 0 (some (.int res.1)) res.2) res 0 0 0 0 (f_X5_isLive o x1 x2 w) w 0 4 [(0, va_rf (some o)), (1, .int x1), (2, .int x2)] [] := by
  intro H locs cells slots ls hf M hS hc hs hl
  unfold f_X5_isLive at hf
  refine q_aload_n X dX5_isLive_0 rfl (lv_at hl 0 rfl) ?_
  refine lv_iload_n X.1 X.2.1 dX5_isLive_1 rfl (lv_at hl 1 rfl) ?_
  have ho := chk_e hf
  clear hf
  obtain ⟨a4, e5, k6, hf⟩ := ho
  cases e5
  have ho := bnd_e hf
  clear hf
  obtain ⟨v1, w2, q3, hf⟩ := ho
  refine q_cV X M hS hl.1 (ci := 5) (r := (RX5, TX5, 9)) (As := [.int x1]) (m_X5_clientAt o x1 _ _ q3) mlX5_38 gm_158 gm_159 rfl (by decide) k6 rfl ⟨(Nat.le_of_ble_eq_true rfl), (Nat.le_of_ble_eq_true rfl)⟩ (rest := []) rfl (Nat.le_of_ble_eq_true rfl) (mc := 0) (ms := 0) (MC := 0) (MS := 0) rfl rfl rfl rfl (by omega) (by omega) dX5_isLive_2 (st2 := [va_rf v1]) rfl (fun H locs M hS => ?_)
  refine q_astore_n (lv' := [(3, va_rf v1), (0, va_rf (some o)), (1, .int x1), (2, .int x2)]) X dX5_isLive_5 rfl hl (by decide) rfl (fun ls hl => ?_)
  refine q_aload_n X dX5_isLive_6 rfl (lv_at hl 0 rfl) ?_
  refine q_ifnull (tgt := 40) X dX5_isLive_7 (by decide) (fun c7 => ?_) (fun c7 => ?_)
  · rw [if_pos c7] at hf
    refine lv_iconst (v := 0) X.1 X.2.1 dX5_isLive_40 (by decide) ?_
    have ho := retZ_e hf
    clear hf
    obtain ⟨z8, rfl⟩ := ho
    exact q_zret X M hS (by omega) (by omega) z8 dX5_isLive_41
  · rw [if_neg c7] at hf
    refine q_aload_n X dX5_isLive_10 rfl (lv_at hl 0 rfl) ?_
    have ho := gI_e hf
    clear hf
    obtain ⟨a9, v10, e11, k12, q13, hf⟩ := ho
    cases e11
    refine q_get X M flX5_45 k12 (congrArg Value.int q13) dX5_isLive_11 ?_
    refine lv_if_eq (tgt := 40) X.1 X.2.1 dX5_isLive_14 (by decide) (fun c14 => ?_) (fun c14 => ?_)
    · rw [if_pos c14] at hf
      refine lv_iconst (v := 0) X.1 X.2.1 dX5_isLive_40 (by decide) ?_
      have ho := retZ_e hf
      clear hf
      obtain ⟨z15, rfl⟩ := ho
      exact q_zret X M hS (by omega) (by omega) z15 dX5_isLive_41
    · rw [if_neg c14] at hf
      refine q_aload_n X dX5_isLive_17 rfl (lv_at hl 0 rfl) ?_
      have ho := gI_e hf
      clear hf
      obtain ⟨a16, v17, e18, k19, q20, hf⟩ := ho
      cases e18
      refine q_get X M flX5_45 k19 (congrArg Value.int q20) dX5_isLive_18 ?_
      refine lv_iload_n X.1 X.2.1 dX5_isLive_21 rfl (lv_at hl 3 rfl) ?_
      refine lv_icmp_ne (tgt := 40) X.1 X.2.1 dX5_isLive_22 (by decide) (fun c21 => ?_) (fun c21 => ?_)
      · rw [if_neg c21] at hf
        refine lv_iconst (v := 0) X.1 X.2.1 dX5_isLive_40 (by decide) ?_
        have ho := retZ_e hf
        clear hf
        obtain ⟨z22, rfl⟩ := ho
        exact q_zret X M hS (by omega) (by omega) z22 dX5_isLive_41
      · rw [if_pos c21] at hf
        refine q_aload_n X dX5_isLive_25 rfl (lv_at hl 1 rfl) ?_
        have ho := gI_e hf
        clear hf
        obtain ⟨a23, v24, e25, k26, q27, hf⟩ := ho
        cases e25
        refine q_get X M flX5_51 k26 (congrArg Value.int q27) dX5_isLive_26 ?_
        refine q_aload_n X dX5_isLive_29 rfl (lv_at hl 0 rfl) ?_
        have ho := gI_e hf
        clear hf
        obtain ⟨a28, v29, e30, k31, q32, hf⟩ := ho
        cases e30
        refine q_get X M flX5_54 k31 (congrArg Value.int q32) dX5_isLive_30 ?_
        refine lv_icmp_gt (tgt := 40) X.1 X.2.1 dX5_isLive_33 (by decide) (fun c33 => ?_) (fun c33 => ?_)
        · rw [if_pos c33] at hf
          refine lv_iconst (v := 0) X.1 X.2.1 dX5_isLive_40 (by decide) ?_
          have ho := retZ_e hf
          clear hf
          obtain ⟨z34, rfl⟩ := ho
          exact q_zret X M hS (by omega) (by omega) z34 dX5_isLive_41
        · rw [if_neg c33] at hf
          refine lv_iconst (v := 1) X.1 X.2.1 dX5_isLive_36 (by decide) ?_
          refine lv_goto (tgt := 41) X.1 X.2.1 dX5_isLive_37 (by decide) ?_
          have ho := retZ_e hf
          clear hf
          obtain ⟨z35, rfl⟩ := ho
          exact q_zret X M hS (by omega) (by omega) z35 dX5_isLive_41
theorem m_X5_isLive {l : Launch} {D : va_G} {aC : Nat → ClassId} {b0 : Nat} {w : Wd} (o : Nat) (x1 : Int32) (x2 : Int32) (v : Int32) (w' : Wd) (hf : f_X5_isLive o x1 x2 w = some (v, w')) : Ct l D aC b0 yX5_isLive (Cond.code yX5_isLive cX5_isLive 4 (some .boolean) :: Gw) rX5_isLive [va_rf (some o), .int x1, .int x2] w (some (.int v)) w' :=
  q_met (by decide) (Nat.le_of_ble_eq_true rfl) (fun p e s m below meth c X M ls hl => e_X5_isLive X (res := (v, w')) o x1 x2 w s.heap [] 0 0 ls hf M va_S.rf (by decide) (by decide) hl)
abbrev rX5_renew : Room := { frames := 2, cells := 0, slots := 0, locals := 44 }
def f_X5_renew (o : Nat) (x1 : Int32) (w : Wd) : Option (Int32 × Wd) := chk w (some o) 6 (fun a4 => bnd (f_X5_clientAt a4 x1 w) (fun v1 w2 => if v1 = none then (some ((-1), w2)) else (gI w2 v1 2 1 (fun v9 => chk w2 (some o) 6 (fun a16 => bnd (f_X5_isLive a16 x1 v9 w2) (fun v13 w14 => if v13 = 0 then (some ((-3), w14)) else (gI w14 (some o) 6 4 (fun v21 => gI w14 (some o) 6 3 (fun v26 => pI w14 v1 2 2 (v21 + v26) (fun w31 => gI w31 v1 2 2 (fun v36 => some (v36, w31))))))))))))
set_option maxHeartbeats 4000000 in
set_option maxRecDepth 100000 in
theorem e_X5_renew {l : Launch} {D : va_G} {aC : Nat → ClassId} {b0 : Nat} {p : Program} {e : Env} {s : State} {m : MethodId} {args : Array Value} {below : List Frame} {meth : Method} {c : Code} (X : Cx D aC p s m args meth c cX5_renew RX5 3 "renew" (some .int)) {res : (Int32 × Wd)} (o : Nat) (x1 : Int32) (w : Wd) : BW l D aC b0 p e rX5_renew s m args below meth c (Qe D aC b0 below args s 0 0 (some (.int res.1)) res.2) res 0 0 0 0 (f_X5_renew o x1 w) w 0 3 [(0, va_rf (some o)), (1, .int x1)] [] := by
  intro H locs cells slots ls hf M hS hc hs hl
  unfold f_X5_renew at hf
  refine q_aload_n X dX5_renew_0 rfl (lv_at hl 0 rfl) ?_
  refine lv_iload_n X.1 X.2.1 dX5_renew_1 rfl (lv_at hl 1 rfl) ?_
  have ho := chk_e hf
  clear hf
  obtain ⟨a4, e5, k6, hf⟩ := ho
  cases e5
  have ho := bnd_e hf
  clear hf
  obtain ⟨v1, w2, q3, hf⟩ := ho
  refine q_cV X M hS hl.1 (ci := 5) (r := (RX5, TX5, 9)) (As := [.int x1]) (m_X5_clientAt o x1 _ _ q3) mlX5_38 gm_158 gm_159 rfl (by decide) k6 rfl ⟨(Nat.le_of_ble_eq_true rfl), (Nat.le_of_ble_eq_true rfl)⟩ (rest := []) rfl (Nat.le_of_ble_eq_true rfl) (mc := 0) (ms := 0) (MC := 0) (MS := 0) rfl rfl rfl rfl (by omega) (by omega) dX5_renew_2 (st2 := [va_rf v1]) rfl (fun H locs M hS => ?_)
  refine q_astore_n (lv' := [(2, va_rf v1), (0, va_rf (some o)), (1, .int x1)]) X dX5_renew_5 rfl hl (by decide) rfl (fun ls hl => ?_)
  refine q_aload_n X dX5_renew_6 rfl (lv_at hl 0 rfl) ?_
  refine q_ifnonnull (tgt := 12) X dX5_renew_7 (by decide) (fun c7 => ?_) (fun c7 => ?_)
  · rw [if_neg c7] at hf
    refine q_aload_n X dX5_renew_12 rfl (lv_at hl 1 rfl) ?_
    refine lv_iload_n X.1 X.2.1 dX5_renew_13 rfl (lv_at hl 2 rfl) ?_
    refine q_aload_n X dX5_renew_14 rfl (lv_at hl 0 rfl) ?_
    have ho := gI_e hf
    clear hf
    obtain ⟨a8, v9, e10, k11, q12, hf⟩ := ho
    cases e10
    refine q_get X M flX5_45 k11 (congrArg Value.int q12) dX5_renew_15 ?_
    have ho := chk_e hf
    clear hf
    obtain ⟨a16, e17, k18, hf⟩ := ho
    cases e17
    have ho := bnd_e hf
    clear hf
    obtain ⟨v13, w14, q15, hf⟩ := ho
    refine q_cV X M hS hl.1 (ci := 5) (r := (RX5, TX5, 9)) (As := [.int x1, .int v9]) (m_X5_isLive o x1 v9 _ _ q15) mlX5_57 gm_178 gm_179 rfl (by decide) k18 rfl ⟨(Nat.le_of_ble_eq_true rfl), (Nat.le_of_ble_eq_true rfl)⟩ (rest := []) rfl (Nat.le_of_ble_eq_true rfl) (mc := 0) (ms := 0) (MC := 0) (MS := 0) rfl rfl rfl rfl (by omega) (by omega) dX5_renew_18 (st2 := [.int v13]) rfl (fun H locs M hS => ?_)
    refine lv_if_ne (tgt := 27) X.1 X.2.1 dX5_renew_21 (by decide) (fun c19 => ?_) (fun c19 => ?_)
    · rw [if_neg c19] at hf
      refine q_aload_n X dX5_renew_27 rfl (lv_at hl 0 rfl) ?_
      refine q_aload_n X dX5_renew_28 rfl (lv_at hl 1 rfl) ?_
      have ho := gI_e hf
      clear hf
      obtain ⟨a20, v21, e22, k23, q24, hf⟩ := ho
      cases e22
      refine q_get X M flX5_51 k23 (congrArg Value.int q24) dX5_renew_29 ?_
      refine q_aload_n X dX5_renew_32 rfl (lv_at hl 1 rfl) ?_
      have ho := gI_e hf
      clear hf
      obtain ⟨a25, v26, e27, k28, q29, hf⟩ := ho
      cases e27
      refine q_get X M flX5_9 k28 (congrArg Value.int q29) dX5_renew_33 ?_
      refine lv_iadd X.1 X.2.1 dX5_renew_36 ?_
      have ho := pI_e hf
      clear hf
      obtain ⟨a30, w31, e32, k33, q34, hf⟩ := ho
      cases e32
      refine q_putI X M hS flX5_54 (Or.inl rfl) k33 dX5_renew_37 (fun H locs M hS => ?_)
      rw [q34] at M
      refine q_aload_n X dX5_renew_40 rfl (lv_at hl 0 rfl) ?_
      have ho := gI_e hf
      clear hf
      obtain ⟨a35, v36, e37, k38, q39, hf⟩ := ho
      cases e37
      refine q_get X M flX5_54 k38 (congrArg Value.int q39) dX5_renew_41 ?_
      obtain rfl := Option.some.inj hf
      exact q_iret X M hS (by omega) (by omega) dX5_renew_44
    · rw [if_pos c19] at hf
      refine lv_bipush (v := (-3)) X.1 X.2.1 dX5_renew_24 (by decide) ?_
      obtain rfl := Option.some.inj hf
      exact q_iret X M hS (by omega) (by omega) dX5_renew_26
  · rw [if_pos c7] at hf
    refine lv_iconst (v := (-1)) X.1 X.2.1 dX5_renew_10 (by decide) ?_
    obtain rfl := Option.some.inj hf
    exact q_iret X M hS (by omega) (by omega) dX5_renew_11
theorem m_X5_renew {l : Launch} {D : va_G} {aC : Nat → ClassId} {b0 : Nat} {w : Wd} (o : Nat) (x1 : Int32) (v : Int32) (w' : Wd) (hf : f_X5_renew o x1 w = some (v, w')) : Ct l D aC b0 yX5_renew (Cond.code yX5_renew cX5_renew 3 (some .int) :: Gw) rX5_renew [va_rf (some o), .int x1] w (some (.int v)) w' :=
  q_met (by decide) (Nat.le_of_ble_eq_true rfl) (fun p e s m below meth c X M ls hl => e_X5_renew X (res := (v, w')) o x1 w s.heap [] 0 0 ls hf M va_S.rf (by decide) (by decide) hl)
abbrev rX5_bucketOf : Room := { frames := 0, cells := 0, slots := 0, locals := 0 }
def f_X5_bucketOf (x0 : Int32) (w : Wd) : Option (Int32 × Wd) := some ((x0 - x0 / 8 * 8), w)
set_option maxHeartbeats 4000000 in
set_option maxRecDepth 100000 in
theorem e_X5_bucketOf {l : Launch} {D : va_G} {aC : Nat → ClassId} {b0 : Nat} {p : Program} {e : Env} {s : State} {m : MethodId} {args : Array Value} {below : List Frame} {meth : Method} {c : Code} (X : Cx D aC p s m args meth c cX5_bucketOf RX5 1 "bucketOf" (some .int)) {res : (Int32 × Wd)} (x0 : Int32) (w : Wd) : BW l D aC b0 p e rX5_bucketOf s m args below meth c (Qe D aC b0 below args s 0 0 (some (.int res.1)) res.2) res 0 0 0 0 (f_X5_bucketOf x0 w) w 0 1 [(0, .int x0)] [] := by
  intro H locs cells slots ls hf M hS hc hs hl
  unfold f_X5_bucketOf at hf
  refine lv_iload_n X.1 X.2.1 dX5_bucketOf_0 rfl (lv_at hl 0 rfl) ?_
  refine lv_bipush (v := 8) X.1 X.2.1 dX5_bucketOf_1 (by decide) ?_
  refine lv_irem X.1 X.2.1 dX5_bucketOf_3 (by decide) ?_
  obtain rfl := Option.some.inj hf
  exact q_iret X M hS (by omega) (by omega) dX5_bucketOf_4
theorem m_X5_bucketOf {l : Launch} {D : va_G} {aC : Nat → ClassId} {b0 : Nat} {w : Wd} (x0 : Int32) (v : Int32) (w' : Wd) (hf : f_X5_bucketOf x0 w = some (v, w')) : Ct l D aC b0 yX5_bucketOf (Cond.code yX5_bucketOf cX5_bucketOf 1 (some .int) :: Gw) rX5_bucketOf [.int x0] w (some (.int v)) w' :=
  q_met (by decide) (Nat.le_of_ble_eq_true rfl) (fun p e s m below meth c X M ls hl => e_X5_bucketOf X (res := (v, w')) x0 w s.heap [] 0 0 ls hf M va_S.rf (by decide) (by decide) hl)
abbrev rX5_send : Room := { frames := 1, cells := 0, slots := 0, locals := 21 }
def f_X5_send (o : Nat) (x1 : Option Nat) (w : Wd) : Option (Unit × Wd) := if x1 = none then (some ((), w)) else (gR w (some o) 6 2 (fun v3 => chk w v3 4 (fun a10 => bnd (f_X3_append a10 x1 w) (fun v7 w8 => if v7 = 0 then (gI w8 (some o) 6 6 (fun v15 => pI w8 (some o) 6 6 (v15 + 1) (fun w20 => some ((), w20)))) else (some ((), w8))))))
set_option maxHeartbeats 4000000 in
set_option maxRecDepth 100000 in
theorem e_X5_send {l : Launch} {D : va_G} {aC : Nat → ClassId} {b0 : Nat} {p : Program} {e : Env} {s : State} {m : MethodId} {args : Array Value} {below : List Frame} {meth : Method} {c : Code} (X : Cx D aC p s m args meth c cX5_send RX5 2 "send" none) {res : (Unit × Wd)} (o : Nat) (x1 : Option Nat) (w : Wd) : BW l D aC b0 p e rX5_send s m args below meth c (Qe D aC b0 below args s 0 0 none res.2) res 0 0 0 0 (f_X5_send o x1 w) w 0 2 [(0, va_rf (some o)), (1, va_rf x1)] [] := by
  intro H locs cells slots ls hf M hS hc hs hl
  unfold f_X5_send at hf
  refine q_aload_n X dX5_send_0 rfl (lv_at hl 1 rfl) ?_
  refine q_ifnull (tgt := 25) X dX5_send_1 (by decide) (fun c1 => ?_) (fun c1 => ?_)
  · rw [if_pos c1] at hf
    obtain rfl := Option.some.inj hf
    exact q_vret X M hS (by omega) (by omega) dX5_send_25
  · rw [if_neg c1] at hf
    refine q_aload_n X dX5_send_4 rfl (lv_at hl 0 rfl) ?_
    have ho := gR_e hf
    clear hf
    obtain ⟨a2, v3, e4, k5, q6, hf⟩ := ho
    cases e4
    refine q_get X M flX5_34 k5 (congrArg va_rf q6) dX5_send_5 ?_
    refine q_aload_n X dX5_send_8 rfl (lv_at hl 1 rfl) ?_
    have ho := chk_e hf
    clear hf
    obtain ⟨a10, e11, k12, hf⟩ := ho
    cases e11
    have ho := bnd_e hf
    clear hf
    obtain ⟨v7, w8, q9, hf⟩ := ho
    refine q_cV X M hS hl.1 (ci := 3) (r := (RX3, TX3, 2)) (As := [va_rf x1]) (m_X3_append a10 x1 _ _ q9) mlX5_127 gm_241 gm_242 rfl (by decide) k12 rfl ⟨(Nat.le_of_ble_eq_true rfl), (Nat.le_of_ble_eq_true rfl)⟩ (rest := []) rfl (Nat.le_of_ble_eq_true rfl) (mc := 0) (ms := 0) (MC := 0) (MS := 0) rfl rfl rfl rfl (by omega) (by omega) dX5_send_9 (st2 := [.int v7]) rfl (fun H locs M hS => ?_)
    refine lv_if_ne (tgt := 25) X.1 X.2.1 dX5_send_12 (by decide) (fun c13 => ?_) (fun c13 => ?_)
    · rw [if_neg c13] at hf
      obtain rfl := Option.some.inj hf
      exact q_vret X M hS (by omega) (by omega) dX5_send_25
    · rw [if_pos c13] at hf
      refine q_aload_n X dX5_send_15 rfl (lv_at hl 0 rfl) ?_
      refine lv_dup X.1 X.2.1 dX5_send_16 rfl ?_
      have ho := gI_e hf
      clear hf
      obtain ⟨a14, v15, e16, k17, q18, hf⟩ := ho
      cases e16
      refine q_get X M flX5_120 k17 (congrArg Value.int q18) dX5_send_17 ?_
      refine lv_iconst (v := 1) X.1 X.2.1 dX5_send_20 (by decide) ?_
      refine lv_iadd X.1 X.2.1 dX5_send_21 ?_
      have ho := pI_e hf
      clear hf
      obtain ⟨a19, w20, e21, k22, q23, hf⟩ := ho
      cases e21
      refine q_putI X M hS flX5_120 (Or.inl rfl) k22 dX5_send_22 (fun H locs M hS => ?_)
      rw [q23] at M
      obtain rfl := Option.some.inj hf
      exact q_vret X M hS (by omega) (by omega) dX5_send_25
theorem m_X5_send {l : Launch} {D : va_G} {aC : Nat → ClassId} {b0 : Nat} {w : Wd} (o : Nat) (x1 : Option Nat) (v : Unit) (w' : Wd) (hf : f_X5_send o x1 w = some (v, w')) : Ct l D aC b0 yX5_send (Cond.code yX5_send cX5_send 2 none :: Gw) rX5_send [va_rf (some o), va_rf x1] w none w' :=
  q_met (by decide) (by simp [lg_sl, cat1]) (fun p e s m below meth c X M ls hl => e_X5_send X (res := (v, w')) o x1 w s.heap [] 0 0 ls hf M va_S.rf (by decide) (by decide) (by simpa [lv_args, cat1] using hl))
abbrev rX5_call : Room := { frames := 3, cells := 1, slots := 15, locals := 66 }
def f_X5_call (o : Nat) (x1 : Int32) (x2 : Int32) (x3 : Int32) (x4 : Int64) (x6 : Int64) (w : Wd) : Option (Int32 × Wd) := chk w (some o) 6 (fun a4 => bnd (f_X5_clientAt a4 x1 w) (fun v1 w2 => if v1 = none then (some ((-1), w2)) else (if x2 < 0 then (some ((-1), w2)) else (if 32 ≤ x2 then (some ((-1), w2)) else (if x3 < 0 then (some ((-1), w2)) else (if x3 ≤ 3 then (gI w2 v1 2 1 (fun v13 => if v13 = 0 then (some ((-3), w2)) else (gI w2 v1 2 3 (fun v19 => if 60 ≤ v19 then (some ((-2), w2)) else (chk w2 v1 2 (fun a27 => bnd (f_X1_waiting a27 w2) (fun v24 w25 => if v24 < 4 then (chk w25 v1 2 (fun a34 => bnd (f_X1_newCall a34 x2 x3 x4 x6 w25) (fun v31 w32 => bnd (f_X5_requestOf v1 v31 w32) (fun v37 w38 => chk w38 (some o) 6 (fun a43 => bnd (f_X5_send a43 v37 w38) (fun v40 w41 => some (v31, w41))))))) else (some ((-2), w25))))))))) else (some ((-1), w2))))))))
set_option maxHeartbeats 4000000 in
set_option maxRecDepth 100000 in
theorem e_X5_call {l : Launch} {D : va_G} {aC : Nat → ClassId} {b0 : Nat} {p : Program} {e : Env} {s : State} {m : MethodId} {args : Array Value} {below : List Frame} {meth : Method} {c : Code} (X : Cx D aC p s m args meth c cX5_call RX5 10 "call" (some .int)) {res : (Int32 × Wd)} (o : Nat) (x1 : Int32) (x2 : Int32) (x3 : Int32) (x4 : Int64) (x6 : Int64) (w : Wd) : BW l D aC b0 p e rX5_call s m args below meth c (Qe D aC b0 below args s 1 15 (some (.int res.1)) res.2) res 1 15 1 15 (f_X5_call o x1 x2 x3 x4 x6 w) w 0 10 [(0, va_rf (some o)), (1, .int x1), (2, .int x2), (3, .int x3), (4, .long x4), (6, .long x6)] [] := by
  intro H locs cells slots ls hf M hS hc hs hl
  unfold f_X5_call at hf
  refine q_aload_n X dX5_call_0 rfl (lv_at hl 0 rfl) ?_
  refine lv_iload_n X.1 X.2.1 dX5_call_1 rfl (lv_at hl 1 rfl) ?_
  have ho := chk_e hf
  clear hf
  obtain ⟨a4, e5, k6, hf⟩ := ho
  cases e5
  have ho := bnd_e hf
  clear hf
  obtain ⟨v1, w2, q3, hf⟩ := ho
  refine q_cV X M hS hl.1 (ci := 5) (r := (RX5, TX5, 9)) (As := [.int x1]) (m_X5_clientAt o x1 _ _ q3) mlX5_38 gm_158 gm_159 rfl (by decide) k6 rfl ⟨(Nat.le_of_ble_eq_true rfl), (Nat.le_of_ble_eq_true rfl)⟩ (rest := []) rfl (Nat.le_of_ble_eq_true rfl) (mc := 0) (ms := 0) (MC := 1) (MS := 15) rfl rfl rfl rfl (by omega) (by omega) dX5_call_2 (st2 := [va_rf v1]) rfl (fun H locs M hS => ?_)
  refine q_astore (lv' := [(8, va_rf v1), (0, va_rf (some o)), (1, .int x1), (2, .int x2), (3, .int x3), (4, .long x4), (6, .long x6)]) X dX5_call_5 hl (by decide) rfl (fun ls hl => ?_)
  refine q_aload X dX5_call_7 (lv_at hl 0 rfl) ?_
  refine q_ifnull (tgt := 31) X dX5_call_9 (by decide) (fun c7 => ?_) (fun c7 => ?_)
  · rw [if_pos c7] at hf
    refine lv_iconst (v := (-1)) X.1 X.2.1 dX5_call_31 (by decide) ?_
    obtain rfl := Option.some.inj hf
    exact q_iret X M hS (by omega) (by omega) dX5_call_32
  · rw [if_neg c7] at hf
    refine lv_iload_n X.1 X.2.1 dX5_call_12 rfl (lv_at hl 3 rfl) ?_
    refine lv_if_lt (tgt := 31) X.1 X.2.1 dX5_call_13 (by decide) (fun c8 => ?_) (fun c8 => ?_)
    · rw [if_pos c8] at hf
      refine lv_iconst (v := (-1)) X.1 X.2.1 dX5_call_31 (by decide) ?_
      obtain rfl := Option.some.inj hf
      exact q_iret X M hS (by omega) (by omega) dX5_call_32
    · rw [if_neg c8] at hf
      refine lv_iload_n X.1 X.2.1 dX5_call_16 rfl (lv_at hl 3 rfl) ?_
      refine lv_bipush (v := 32) X.1 X.2.1 dX5_call_17 (by decide) ?_
      refine lv_icmp_ge (tgt := 31) X.1 X.2.1 dX5_call_19 (by decide) (fun c9 => ?_) (fun c9 => ?_)
      · rw [if_pos c9] at hf
        refine lv_iconst (v := (-1)) X.1 X.2.1 dX5_call_31 (by decide) ?_
        obtain rfl := Option.some.inj hf
        exact q_iret X M hS (by omega) (by omega) dX5_call_32
      · rw [if_neg c9] at hf
        refine lv_iload_n X.1 X.2.1 dX5_call_22 rfl (lv_at hl 4 rfl) ?_
        refine lv_if_lt (tgt := 31) X.1 X.2.1 dX5_call_23 (by decide) (fun c10 => ?_) (fun c10 => ?_)
        · rw [if_pos c10] at hf
          refine lv_iconst (v := (-1)) X.1 X.2.1 dX5_call_31 (by decide) ?_
          obtain rfl := Option.some.inj hf
          exact q_iret X M hS (by omega) (by omega) dX5_call_32
        · rw [if_neg c10] at hf
          refine lv_iload_n X.1 X.2.1 dX5_call_26 rfl (lv_at hl 4 rfl) ?_
          refine lv_iconst (v := 3) X.1 X.2.1 dX5_call_27 (by decide) ?_
          refine lv_icmp_le (tgt := 33) X.1 X.2.1 dX5_call_28 (by decide) (fun c11 => ?_) (fun c11 => ?_)
          · rw [if_pos c11] at hf
            refine q_aload X dX5_call_33 (lv_at hl 0 rfl) ?_
            have ho := gI_e hf
            clear hf
            obtain ⟨a12, v13, e14, k15, q16, hf⟩ := ho
            cases e14
            refine q_get X M flX5_45 k15 (congrArg Value.int q16) dX5_call_35 ?_
            refine lv_if_ne (tgt := 44) X.1 X.2.1 dX5_call_38 (by decide) (fun c17 => ?_) (fun c17 => ?_)
            · rw [if_neg c17] at hf
              refine q_aload X dX5_call_44 (lv_at hl 0 rfl) ?_
              have ho := gI_e hf
              clear hf
              obtain ⟨a18, v19, e20, k21, q22, hf⟩ := ho
              cases e20
              refine q_get X M flX5_48 k21 (congrArg Value.int q22) dX5_call_46 ?_
              refine lv_bipush (v := 60) X.1 X.2.1 dX5_call_49 (by decide) ?_
              refine lv_icmp_ge (tgt := 63) X.1 X.2.1 dX5_call_51 (by decide) (fun c23 => ?_) (fun c23 => ?_)
              · rw [if_pos c23] at hf
                refine lv_bipush (v := (-2)) X.1 X.2.1 dX5_call_63 (by decide) ?_
                obtain rfl := Option.some.inj hf
                exact q_iret X M hS (by omega) (by omega) dX5_call_65
              · rw [if_neg c23] at hf
                refine q_aload X dX5_call_54 (lv_at hl 0 rfl) ?_
                have ho := chk_e hf
                clear hf
                obtain ⟨a27, e28, k29, hf⟩ := ho
                cases e28
                have ho := bnd_e hf
                clear hf
                obtain ⟨v24, w25, q26, hf⟩ := ho
                refine q_cV X M hS hl.1 (ci := 1) (r := (RX1, TX1, 11)) (As := []) (m_X1_waiting a12 _ _ q26) mlX5_61 gm_194 gm_195 rfl (by decide) k29 rfl ⟨(Nat.le_of_ble_eq_true rfl), (Nat.le_of_ble_eq_true rfl)⟩ (rest := []) rfl (Nat.le_of_ble_eq_true rfl) (mc := 0) (ms := 0) (MC := 1) (MS := 15) rfl rfl rfl rfl (by omega) (by omega) dX5_call_56 (st2 := [.int v24]) rfl (fun H locs M hS => ?_)
                refine lv_iconst (v := 4) X.1 X.2.1 dX5_call_59 (by decide) ?_
                refine lv_icmp_lt (tgt := 66) X.1 X.2.1 dX5_call_60 (by decide) (fun c30 => ?_) (fun c30 => ?_)
                · rw [if_pos c30] at hf
                  refine q_aload X dX5_call_66 (lv_at hl 0 rfl) ?_
                  refine lv_iload_n X.1 X.2.1 dX5_call_68 rfl (lv_at hl 3 rfl) ?_
                  refine lv_iload_n X.1 X.2.1 dX5_call_69 rfl (lv_at hl 4 rfl) ?_
                  refine lv_lload X.1 X.2.1 dX5_call_70 (lv_at hl 5 rfl) ?_
                  refine lv_lload X.1 X.2.1 dX5_call_72 (lv_at hl 6 rfl) ?_
                  have ho := chk_e hf
                  clear hf
                  obtain ⟨a34, e35, k36, hf⟩ := ho
                  cases e35
                  have ho := bnd_e hf
                  clear hf
                  obtain ⟨v31, w32, q33, hf⟩ := ho
                  refine q_cV X M hS hl.1 (ci := 1) (r := (RX1, TX1, 11)) (As := [.int x2, .int x3, .long x4, .long x6]) (m_X1_newCall a12 x2 x3 x4 x6 _ _ q33) mlX5_65 gm_199 gm_200 rfl (by decide) k36 rfl ⟨(Nat.le_of_ble_eq_true rfl), (Nat.le_of_ble_eq_true rfl)⟩ (rest := []) rfl (Nat.le_of_ble_eq_true rfl) (mc := 0) (ms := 0) (MC := 1) (MS := 15) rfl rfl rfl rfl (by omega) (by omega) dX5_call_74 (st2 := [.int v31]) rfl (fun H locs M hS => ?_)
                  refine lv_istore (lv' := [(9, .int v31), (8, va_rf (some a12)), (0, va_rf (some o)), (1, .int x1), (2, .int x2), (3, .int x3), (4, .long x4), (6, .long x6)]) X.1 X.2.1 dX5_call_77 hl (by decide) rfl (fun ls hl => ?_)
                  refine q_aload_n X dX5_call_79 rfl (lv_at hl 2 rfl) ?_
                  refine q_aload X dX5_call_80 (lv_at hl 1 rfl) ?_
                  refine lv_iload X.1 X.2.1 dX5_call_82 (lv_at hl 0 rfl) ?_
                  have ho := bnd_e hf
                  clear hf
                  obtain ⟨v37, w38, q39, hf⟩ := ho
                  refine q_cS X M hS hl.1 (As := [va_rf (some a12), .int v31]) (m_X5_requestOf (some a12) v31 _ _ q39) mlX5_69 gm_203 rfl ⟨(Nat.le_of_ble_eq_true rfl), (Nat.le_of_ble_eq_true rfl)⟩ (rest := [va_rf (some o)]) rfl (Nat.le_of_ble_eq_true rfl) (mc := 1) (ms := 15) (MC := 1) (MS := 15) rfl rfl rfl rfl (by omega) (by omega) dX5_call_84 (st2 := [va_rf v37, va_rf (some o)]) rfl (fun H locs M hS => ?_)
                  have ho := chk_e hf
                  clear hf
                  obtain ⟨a43, e44, k45, hf⟩ := ho
                  cases e44
                  have ho := bnd_e hf
                  clear hf
                  obtain ⟨v40, w41, q42, hf⟩ := ho
                  refine q_cV X M hS hl.1 (ci := 5) (r := (RX5, TX5, 9)) (As := [va_rf v37]) (m_X5_send o v37 _ _ q42) mlX5_73 gm_236 gm_237 rfl (by decide) k45 rfl ⟨(Nat.le_of_ble_eq_true rfl), (Nat.le_of_ble_eq_true rfl)⟩ (rest := []) rfl (Nat.le_of_ble_eq_true rfl) (mc := 0) (ms := 0) (MC := 1) (MS := 15) rfl rfl rfl rfl (by omega) (by omega) dX5_call_87 (st2 := []) rfl (fun H locs M hS => ?_)
                  refine lv_iload X.1 X.2.1 dX5_call_90 (lv_at hl 0 rfl) ?_
                  obtain rfl := Option.some.inj hf
                  exact q_iret X M hS (by omega) (by omega) dX5_call_92
                · rw [if_neg c30] at hf
                  refine lv_bipush (v := (-2)) X.1 X.2.1 dX5_call_63 (by decide) ?_
                  obtain rfl := Option.some.inj hf
                  exact q_iret X M hS (by omega) (by omega) dX5_call_65
            · rw [if_pos c17] at hf
              refine lv_bipush (v := (-3)) X.1 X.2.1 dX5_call_41 (by decide) ?_
              obtain rfl := Option.some.inj hf
              exact q_iret X M hS (by omega) (by omega) dX5_call_43
          · rw [if_neg c11] at hf
            refine lv_iconst (v := (-1)) X.1 X.2.1 dX5_call_31 (by decide) ?_
            obtain rfl := Option.some.inj hf
            exact q_iret X M hS (by omega) (by omega) dX5_call_32
theorem m_X5_call {l : Launch} {D : va_G} {aC : Nat → ClassId} {b0 : Nat} {w : Wd} (o : Nat) (x1 : Int32) (x2 : Int32) (x3 : Int32) (x4 : Int64) (x6 : Int64) (v : Int32) (w' : Wd) (hf : f_X5_call o x1 x2 x3 x4 x6 w = some (v, w')) : Ct l D aC b0 yX5_call (Cond.code yX5_call cX5_call 10 (some .int) :: Gw) rX5_call [va_rf (some o), .int x1, .int x2, .int x3, .long x4, .long x6] w (some (.int v)) w' :=
  q_met (by decide) (Nat.le_of_ble_eq_true rfl) (fun p e s m below meth c X M ls hl => e_X5_call X (res := (v, w')) o x1 x2 x3 x4 x6 w s.heap [] 0 0 ls hf M va_S.rf (by decide) (by decide) hl)
abbrev rX5_serverAt : Room := { frames := 0, cells := 0, slots := 0, locals := 0 }
def f_X5_serverAt (o : Nat) (x1 : Int32) (w : Wd) : Option ((Option Nat) × Wd) := if x1 < 0 then (some (none, w)) else (gR w (some o) 6 0 (fun v3 => gN w v3 106 (fun v8 => if v8 ≤ x1 then (some (none, w)) else (gR w (some o) 6 0 (fun v14 => aR w v14 106 x1 (fun v19 => some (v19, w)))))))
set_option maxHeartbeats 4000000 in
set_option maxRecDepth 100000 in
theorem e_X5_serverAt {l : Launch} {D : va_G} {aC : Nat → ClassId} {b0 : Nat} {p : Program} {e : Env} {s : State} {m : MethodId} {args : Array Value} {below : List Frame} {meth : Method} {c : Code} (X : Cx D aC p s m args meth c cX5_serverAt RX5 2 "serverAt" (some (.object "OnceCalls$Server"))) {res : ((Option Nat) × Wd)} (o : Nat) (x1 : Int32) (w : Wd) : BW l D aC b0 p e rX5_serverAt s m args below meth c (Qe D aC b0 below args s 0 0 (some (va_rf res.1)) res.2) res 0 0 0 0 (f_X5_serverAt o x1 w) w 0 2 [(0, va_rf (some o)), (1, .int x1)] [] := by
  intro H locs cells slots ls hf M hS hc hs hl
  unfold f_X5_serverAt at hf
  refine lv_iload_n X.1 X.2.1 dX5_serverAt_0 rfl (lv_at hl 1 rfl) ?_
  refine lv_if_lt (tgt := 22) X.1 X.2.1 dX5_serverAt_1 (by decide) (fun c1 => ?_) (fun c1 => ?_)
  · rw [if_pos c1] at hf
    refine q_null X dX5_serverAt_22 ?_
    obtain rfl := Option.some.inj hf
    exact q_aret X M hS (by omega) (by omega) dX5_serverAt_23
  · rw [if_neg c1] at hf
    refine lv_iload_n X.1 X.2.1 dX5_serverAt_4 rfl (lv_at hl 1 rfl) ?_
    refine q_aload_n X dX5_serverAt_5 rfl (lv_at hl 0 rfl) ?_
    have ho := gR_e hf
    clear hf
    obtain ⟨a2, v3, e4, k5, q6, hf⟩ := ho
    cases e4
    refine q_get X M flX5_15 k5 (congrArg va_rf q6) dX5_serverAt_6 ?_
    have ho := gN_e hf
    clear hf
    obtain ⟨a7, v8, e9, k10, q11, hf⟩ := ho
    cases e9
    refine q_alen X M (t := 6) (by decide) k10 dX5_serverAt_9 ?_
    rw [q11]
    refine lv_icmp_ge (tgt := 22) X.1 X.2.1 dX5_serverAt_10 (by decide) (fun c12 => ?_) (fun c12 => ?_)
    · rw [if_pos c12] at hf
      refine q_null X dX5_serverAt_22 ?_
      obtain rfl := Option.some.inj hf
      exact q_aret X M hS (by omega) (by omega) dX5_serverAt_23
    · rw [if_neg c12] at hf
      refine q_aload_n X dX5_serverAt_13 rfl (lv_at hl 0 rfl) ?_
      have ho := gR_e hf
      clear hf
      obtain ⟨a13, v14, e15, k16, q17, hf⟩ := ho
      cases e15
      refine q_get X M flX5_15 k16 (congrArg va_rf q17) dX5_serverAt_14 ?_
      refine lv_iload_n X.1 X.2.1 dX5_serverAt_17 rfl (lv_at hl 1 rfl) ?_
      have ho := aR_e hf
      clear hf
      obtain ⟨a18, v19, e20, k21, i22, q23, hf⟩ := ho
      cases e20
      refine q_aald X M (Or.inr (Or.inr (Or.inr ⟨rfl, rfl, rfl⟩))) k21 i22 dX5_serverAt_18 ?_
      rw [q23]
      refine lv_goto (tgt := 23) X.1 X.2.1 dX5_serverAt_19 (by decide) ?_
      obtain rfl := Option.some.inj hf
      exact q_aret X M hS (by omega) (by omega) dX5_serverAt_23
theorem m_X5_serverAt {l : Launch} {D : va_G} {aC : Nat → ClassId} {b0 : Nat} {w : Wd} (o : Nat) (x1 : Int32) (v : (Option Nat)) (w' : Wd) (hf : f_X5_serverAt o x1 w = some (v, w')) : Ct l D aC b0 yX5_serverAt (Cond.code yX5_serverAt cX5_serverAt 2 (some (.object "OnceCalls$Server")) :: Gw) rX5_serverAt [va_rf (some o), .int x1] w (some (va_rf v)) w' :=
  q_met (by decide) (Nat.le_of_ble_eq_true rfl) (fun p e s m below meth c X M ls hl => e_X5_serverAt X (res := (v, w')) o x1 w s.heap [] 0 0 ls hf M va_S.rf (by decide) (by decide) hl)
abbrev rX5_ack : Room := { frames := 2, cells := 1, slots := 15, locals := 43 }
def f_X5_ack (o : Nat) (x1 : Int32) (x2 : Int32) (w : Wd) : Option (Int32 × Wd) := chk w (some o) 6 (fun a4 => bnd (f_X5_clientAt a4 x1 w) (fun v1 w2 => if v1 = none then (some ((-1), w2)) else (chk w2 (some o) 6 (fun a11 => bnd (f_X5_serverAt a11 x2 w2) (fun v8 w9 => if v8 = none then (some ((-1), w9)) else (gI w9 v1 2 1 (fun v16 => if v16 = 0 then (some ((-3), w9)) else (nwO w9 3 (fun w21 => bnd (f_X2_init (wn w9) 5 x2 x1 w21) (fun v23 w24 => gI w24 v1 2 1 (fun v27 => pI w24 (some (wn w9)) 3 3 v27 (fun w32 => chk w32 v1 2 (fun a39 => bnd (f_X1_first a39 w32) (fun v36 w37 => pI w37 (some (wn w9)) 3 6 v36 (fun w43 => chk w43 (some o) 6 (fun a50 => bnd (f_X5_send a50 (some (wn w9)) w43) (fun v47 w48 => gI w48 (some (wn w9)) 3 6 (fun v54 => some (v54, w48)))))))))))))))))))
set_option maxHeartbeats 4000000 in
set_option maxRecDepth 100000 in
theorem e_X5_ack {l : Launch} {D : va_G} {aC : Nat → ClassId} {b0 : Nat} {p : Program} {e : Env} {s : State} {m : MethodId} {args : Array Value} {below : List Frame} {meth : Method} {c : Code} (X : Cx D aC p s m args meth c cX5_ack RX5 5 "ack" (some .int)) {res : (Int32 × Wd)} (o : Nat) (x1 : Int32) (x2 : Int32) (w : Wd) : BW l D aC b0 p e rX5_ack s m args below meth c (Qe D aC b0 below args s 1 15 (some (.int res.1)) res.2) res 1 15 1 15 (f_X5_ack o x1 x2 w) w 0 5 [(0, va_rf (some o)), (1, .int x1), (2, .int x2)] [] := by
  intro H locs cells slots ls hf M hS hc hs hl
  unfold f_X5_ack at hf
  refine q_aload_n X dX5_ack_0 rfl (lv_at hl 0 rfl) ?_
  refine lv_iload_n X.1 X.2.1 dX5_ack_1 rfl (lv_at hl 1 rfl) ?_
  have ho := chk_e hf
  clear hf
  obtain ⟨a4, e5, k6, hf⟩ := ho
  cases e5
  have ho := bnd_e hf
  clear hf
  obtain ⟨v1, w2, q3, hf⟩ := ho
  refine q_cV X M hS hl.1 (ci := 5) (r := (RX5, TX5, 9)) (As := [.int x1]) (m_X5_clientAt o x1 _ _ q3) mlX5_38 gm_158 gm_159 rfl (by decide) k6 rfl ⟨(Nat.le_of_ble_eq_true rfl), (Nat.le_of_ble_eq_true rfl)⟩ (rest := []) rfl (Nat.le_of_ble_eq_true rfl) (mc := 0) (ms := 0) (MC := 1) (MS := 15) rfl rfl rfl rfl (by omega) (by omega) dX5_ack_2 (st2 := [va_rf v1]) rfl (fun H locs M hS => ?_)
  refine q_astore_n (lv' := [(3, va_rf v1), (0, va_rf (some o)), (1, .int x1), (2, .int x2)]) X dX5_ack_5 rfl hl (by decide) rfl (fun ls hl => ?_)
  refine q_aload_n X dX5_ack_6 rfl (lv_at hl 0 rfl) ?_
  refine q_ifnull (tgt := 18) X dX5_ack_7 (by decide) (fun c7 => ?_) (fun c7 => ?_)
  · rw [if_pos c7] at hf
    refine lv_iconst (v := (-1)) X.1 X.2.1 dX5_ack_18 (by decide) ?_
    obtain rfl := Option.some.inj hf
    exact q_iret X M hS (by omega) (by omega) dX5_ack_19
  · rw [if_neg c7] at hf
    refine q_aload_n X dX5_ack_10 rfl (lv_at hl 1 rfl) ?_
    refine lv_iload_n X.1 X.2.1 dX5_ack_11 rfl (lv_at hl 3 rfl) ?_
    have ho := chk_e hf
    clear hf
    obtain ⟨a11, e12, k13, hf⟩ := ho
    cases e12
    have ho := bnd_e hf
    clear hf
    obtain ⟨v8, w9, q10, hf⟩ := ho
    refine q_cV X M hS hl.1 (ci := 5) (r := (RX5, TX5, 9)) (As := [.int x2]) (m_X5_serverAt o x2 _ _ q10) mlX5_85 gm_294 gm_295 rfl (by decide) k13 rfl ⟨(Nat.le_of_ble_eq_true rfl), (Nat.le_of_ble_eq_true rfl)⟩ (rest := []) rfl (Nat.le_of_ble_eq_true rfl) (mc := 0) (ms := 0) (MC := 1) (MS := 15) rfl rfl rfl rfl (by omega) (by omega) dX5_ack_12 (st2 := [va_rf v8]) rfl (fun H locs M hS => ?_)
    refine q_ifnonnull (tgt := 20) X dX5_ack_15 (by decide) (fun c14 => ?_) (fun c14 => ?_)
    · rw [if_neg c14] at hf
      refine q_aload_n X dX5_ack_20 rfl (lv_at hl 0 rfl) ?_
      have ho := gI_e hf
      clear hf
      obtain ⟨a15, v16, e17, k18, q19, hf⟩ := ho
      cases e17
      refine q_get X M flX5_45 k18 (congrArg Value.int q19) dX5_ack_21 ?_
      refine lv_if_ne (tgt := 30) X.1 X.2.1 dX5_ack_24 (by decide) (fun c20 => ?_) (fun c20 => ?_)
      · rw [if_neg c20] at hf
        have ho := nwO_e hf
        clear hf
        obtain ⟨w21, q22, hf⟩ := ho
        refine q_new X M hS clX5_89 (MC := 1) (MS := 15) rfl rfl (by omega) (by omega) dX5_ack_30 (fun H M hS => ?_)
        rw [q22] at M
        refine lv_dup X.1 X.2.1 dX5_ack_33 rfl ?_
        refine lv_iconst (v := 5) X.1 X.2.1 dX5_ack_34 (by decide) ?_
        refine lv_iload_n X.1 X.2.1 dX5_ack_35 rfl (lv_at hl 3 rfl) ?_
        refine lv_iload_n X.1 X.2.1 dX5_ack_36 rfl (lv_at hl 2 rfl) ?_
        have ho := bnd_e hf
        clear hf
        obtain ⟨v23, w24, q25, hf⟩ := ho
        refine q_cI X M hS hl.1 (As := [.int 5, .int x2, .int x1]) (m_X2_init (wn w9) 5 x2 x1 _ _ q25) mlX5_91 gm_225 rfl rfl ⟨(Nat.le_of_ble_eq_true rfl), (Nat.le_of_ble_eq_true rfl)⟩ (rest := [va_rf (some (wn w9))]) rfl (Nat.le_of_ble_eq_true rfl) (mc := 0) (ms := 0) (MC := 1) (MS := 15) rfl rfl rfl rfl (by omega) (by omega) dX5_ack_37 (fun H locs M hS => ?_)
        refine q_astore (lv' := [(4, va_rf (some (wn w9))), (3, va_rf (some a15)), (0, va_rf (some o)), (1, .int x1), (2, .int x2)]) X dX5_ack_40 hl (by decide) rfl (fun ls hl => ?_)
        refine q_aload X dX5_ack_42 (lv_at hl 0 rfl) ?_
        refine q_aload_n X dX5_ack_44 rfl (lv_at hl 1 rfl) ?_
        have ho := gI_e hf
        clear hf
        obtain ⟨a26, v27, e28, k29, q30, hf⟩ := ho
        cases e28
        refine q_get X M flX5_45 k29 (congrArg Value.int q30) dX5_ack_45 ?_
        have ho := pI_e hf
        clear hf
        obtain ⟨a31, w32, e33, k34, q35, hf⟩ := ho
        cases e33
        refine q_putI X M hS flX5_94 (Or.inl rfl) k34 dX5_ack_48 (fun H locs M hS => ?_)
        rw [q35] at M
        refine q_aload X dX5_ack_51 (lv_at hl 0 rfl) ?_
        refine q_aload_n X dX5_ack_53 rfl (lv_at hl 1 rfl) ?_
        have ho := chk_e hf
        clear hf
        obtain ⟨a39, e40, k41, hf⟩ := ho
        cases e40
        have ho := bnd_e hf
        clear hf
        obtain ⟨v36, w37, q38, hf⟩ := ho
        refine q_cV X M hS hl.1 (ci := 1) (r := (RX1, TX1, 11)) (As := []) (m_X1_first a15 _ _ q38) mlX5_95 gm_232 gm_233 rfl (by decide) k41 rfl ⟨(Nat.le_of_ble_eq_true rfl), (Nat.le_of_ble_eq_true rfl)⟩ (rest := [va_rf (some (wn w9))]) rfl (Nat.le_of_ble_eq_true rfl) (mc := 0) (ms := 0) (MC := 1) (MS := 15) rfl rfl rfl rfl (by omega) (by omega) dX5_ack_54 (st2 := [.int v36, va_rf (some (wn w9))]) rfl (fun H locs M hS => ?_)
        have ho := pI_e hf
        clear hf
        obtain ⟨a42, w43, e44, k45, q46, hf⟩ := ho
        cases e44
        refine q_putI X M hS flX5_98 (Or.inl rfl) k45 dX5_ack_57 (fun H locs M hS => ?_)
        rw [q46] at M
        refine q_aload_n X dX5_ack_60 rfl (lv_at hl 2 rfl) ?_
        refine q_aload X dX5_ack_61 (lv_at hl 0 rfl) ?_
        have ho := chk_e hf
        clear hf
        obtain ⟨a50, e51, k52, hf⟩ := ho
        cases e51
        have ho := bnd_e hf
        clear hf
        obtain ⟨v47, w48, q49, hf⟩ := ho
        refine q_cV X M hS hl.1 (ci := 5) (r := (RX5, TX5, 9)) (As := [va_rf (some (wn w9))]) (m_X5_send o (some (wn w9)) _ _ q49) mlX5_73 gm_236 gm_237 rfl (by decide) k52 rfl ⟨(Nat.le_of_ble_eq_true rfl), (Nat.le_of_ble_eq_true rfl)⟩ (rest := []) rfl (Nat.le_of_ble_eq_true rfl) (mc := 0) (ms := 0) (MC := 1) (MS := 15) rfl rfl rfl rfl (by omega) (by omega) dX5_ack_63 (st2 := []) rfl (fun H locs M hS => ?_)
        refine q_aload X dX5_ack_66 (lv_at hl 0 rfl) ?_
        have ho := gI_e hf
        clear hf
        obtain ⟨a53, v54, e55, k56, q57, hf⟩ := ho
        cases e55
        refine q_get X M flX5_98 k56 (congrArg Value.int q57) dX5_ack_68 ?_
        obtain rfl := Option.some.inj hf
        exact q_iret X M hS (by omega) (by omega) dX5_ack_71
      · rw [if_pos c20] at hf
        refine lv_bipush (v := (-3)) X.1 X.2.1 dX5_ack_27 (by decide) ?_
        obtain rfl := Option.some.inj hf
        exact q_iret X M hS (by omega) (by omega) dX5_ack_29
    · rw [if_pos c14] at hf
      refine lv_iconst (v := (-1)) X.1 X.2.1 dX5_ack_18 (by decide) ?_
      obtain rfl := Option.some.inj hf
      exact q_iret X M hS (by omega) (by omega) dX5_ack_19
theorem m_X5_ack {l : Launch} {D : va_G} {aC : Nat → ClassId} {b0 : Nat} {w : Wd} (o : Nat) (x1 : Int32) (x2 : Int32) (v : Int32) (w' : Wd) (hf : f_X5_ack o x1 x2 w = some (v, w')) : Ct l D aC b0 yX5_ack (Cond.code yX5_ack cX5_ack 5 (some .int) :: Gw) rX5_ack [va_rf (some o), .int x1, .int x2] w (some (.int v)) w' :=
  q_met (by decide) (Nat.le_of_ble_eq_true rfl) (fun p e s m below meth c X M ls hl => e_X5_ack X (res := (v, w')) o x1 x2 w s.heap [] 0 0 ls hf M va_S.rf (by decide) (by decide) hl)
abbrev rX5_takeTaken : Room := { frames := 2, cells := 0, slots := 0, locals := 44 }
def f_X5_takeTaken (o : Nat) (x1 : Option Nat) (x2 : Option Nat) (w : Wd) : Option (Unit × Wd) := gI w x2 3 7 (fun v2 => chk w x1 5 (fun a9 => bnd (f_X4_bucketAt a9 v2 w) (fun v6 w7 => if v6 = none then (some ((), w7)) else (gI w7 v6 1 0 (fun v14 => if v14 = 2 then (gI w7 v6 1 1 (fun v20 => gI w7 x2 3 4 (fun v25 => if v20 = (v25 - 1) then (chk w7 v6 1 (fun a33 => bnd (f_X0_empty a33 w7) (fun v30 w31 => pI w31 v6 1 0 0 (fun w37 => gI w37 x2 3 4 (fun v42 => pI w37 v6 1 1 v42 (fun w47 => pZ w47 x1 5 5 0 (fun w52 => some ((), w52)))))))) else (some ((), w7))))) else (some ((), w7)))))))
set_option maxHeartbeats 4000000 in
set_option maxRecDepth 100000 in
theorem e_X5_takeTaken {l : Launch} {D : va_G} {aC : Nat → ClassId} {b0 : Nat} {p : Program} {e : Env} {s : State} {m : MethodId} {args : Array Value} {below : List Frame} {meth : Method} {c : Code} (X : Cx D aC p s m args meth c cX5_takeTaken RX5 4 "takeTaken" none) {res : (Unit × Wd)} (o : Nat) (x1 : Option Nat) (x2 : Option Nat) (w : Wd) : BW l D aC b0 p e rX5_takeTaken s m args below meth c (Qe D aC b0 below args s 0 0 none res.2) res 0 0 0 0 (f_X5_takeTaken o x1 x2 w) w 0 4 [(0, va_rf (some o)), (1, va_rf x1), (2, va_rf x2)] [] := by
  intro H locs cells slots ls hf M hS hc hs hl
  unfold f_X5_takeTaken at hf
  refine q_aload_n X dX5_takeTaken_0 rfl (lv_at hl 1 rfl) ?_
  refine q_aload_n X dX5_takeTaken_1 rfl (lv_at hl 2 rfl) ?_
  have ho := gI_e hf
  clear hf
  obtain ⟨a1, v2, e3, k4, q5, hf⟩ := ho
  cases e3
  refine q_get X M flX5_164 k4 (congrArg Value.int q5) dX5_takeTaken_2 ?_
  have ho := chk_e hf
  clear hf
  obtain ⟨a9, e10, k11, hf⟩ := ho
  cases e10
  have ho := bnd_e hf
  clear hf
  obtain ⟨v6, w7, q8, hf⟩ := ho
  refine q_cV X M hS hl.1 (ci := 4) (r := (RX4, TX4, 6)) (As := [.int v2]) (m_X4_bucketAt a9 v2 _ _ q8) mlX5_146 gm_344 gm_345 rfl (by decide) k11 rfl ⟨(Nat.le_of_ble_eq_true rfl), (Nat.le_of_ble_eq_true rfl)⟩ (rest := []) rfl (Nat.le_of_ble_eq_true rfl) (mc := 0) (ms := 0) (MC := 0) (MS := 0) rfl rfl rfl rfl (by omega) (by omega) dX5_takeTaken_5 (st2 := [va_rf v6]) rfl (fun H locs M hS => ?_)
  refine q_astore_n (lv' := [(3, va_rf v6), (0, va_rf (some o)), (1, va_rf (some a9)), (2, va_rf (some a1))]) X dX5_takeTaken_8 rfl hl (by decide) rfl (fun ls hl => ?_)
  refine q_aload_n X dX5_takeTaken_9 rfl (lv_at hl 0 rfl) ?_
  refine q_ifnull (tgt := 56) X dX5_takeTaken_10 (by decide) (fun c12 => ?_) (fun c12 => ?_)
  · rw [if_pos c12] at hf
    obtain rfl := Option.some.inj hf
    exact q_vret X M hS (by omega) (by omega) dX5_takeTaken_56
  · rw [if_neg c12] at hf
    refine q_aload_n X dX5_takeTaken_13 rfl (lv_at hl 0 rfl) ?_
    have ho := gI_e hf
    clear hf
    obtain ⟨a13, v14, e15, k16, q17, hf⟩ := ho
    cases e15
    refine q_get X M flX5_155 k16 (congrArg Value.int q17) dX5_takeTaken_14 ?_
    refine lv_iconst (v := 2) X.1 X.2.1 dX5_takeTaken_17 (by decide) ?_
    refine lv_icmp_ne (tgt := 56) X.1 X.2.1 dX5_takeTaken_18 (by decide) (fun c18 => ?_) (fun c18 => ?_)
    · rw [if_neg c18] at hf
      obtain rfl := Option.some.inj hf
      exact q_vret X M hS (by omega) (by omega) dX5_takeTaken_56
    · rw [if_pos c18] at hf
      refine q_aload_n X dX5_takeTaken_21 rfl (lv_at hl 0 rfl) ?_
      have ho := gI_e hf
      clear hf
      obtain ⟨a19, v20, e21, k22, q23, hf⟩ := ho
      cases e21
      refine q_get X M flX5_167 k22 (congrArg Value.int q23) dX5_takeTaken_22 ?_
      refine q_aload_n X dX5_takeTaken_25 rfl (lv_at hl 3 rfl) ?_
      have ho := gI_e hf
      clear hf
      obtain ⟨a24, v25, e26, k27, q28, hf⟩ := ho
      cases e26
      refine q_get X M flX5_170 k27 (congrArg Value.int q28) dX5_takeTaken_26 ?_
      refine lv_iconst (v := 1) X.1 X.2.1 dX5_takeTaken_29 (by decide) ?_
      refine lv_isub X.1 X.2.1 dX5_takeTaken_30 ?_
      refine lv_icmp_ne (tgt := 56) X.1 X.2.1 dX5_takeTaken_31 (by decide) (fun c29 => ?_) (fun c29 => ?_)
      · rw [if_neg c29] at hf
        obtain rfl := Option.some.inj hf
        exact q_vret X M hS (by omega) (by omega) dX5_takeTaken_56
      · rw [if_pos c29] at hf
        refine q_aload_n X dX5_takeTaken_34 rfl (lv_at hl 0 rfl) ?_
        have ho := chk_e hf
        clear hf
        obtain ⟨a33, e34, k35, hf⟩ := ho
        cases e34
        have ho := bnd_e hf
        clear hf
        obtain ⟨v30, w31, q32, hf⟩ := ho
        refine q_cV X M hS hl.1 (ci := 0) (r := (RX0, TX0, 11)) (As := []) (m_X0_empty a13 _ _ q32) mlX5_306 gm_418 gm_419 rfl (by decide) k35 rfl ⟨(Nat.le_of_ble_eq_true rfl), (Nat.le_of_ble_eq_true rfl)⟩ (rest := []) rfl (Nat.le_of_ble_eq_true rfl) (mc := 0) (ms := 0) (MC := 0) (MS := 0) rfl rfl rfl rfl (by omega) (by omega) dX5_takeTaken_35 (st2 := []) rfl (fun H locs M hS => ?_)
        refine q_aload_n X dX5_takeTaken_38 rfl (lv_at hl 0 rfl) ?_
        refine lv_iconst (v := 0) X.1 X.2.1 dX5_takeTaken_39 (by decide) ?_
        have ho := pI_e hf
        clear hf
        obtain ⟨a36, w37, e38, k39, q40, hf⟩ := ho
        cases e38
        refine q_putI X M hS flX5_155 (Or.inl rfl) k39 dX5_takeTaken_40 (fun H locs M hS => ?_)
        rw [q40] at M
        refine q_aload_n X dX5_takeTaken_43 rfl (lv_at hl 0 rfl) ?_
        refine q_aload_n X dX5_takeTaken_44 rfl (lv_at hl 3 rfl) ?_
        have ho := gI_e hf
        clear hf
        obtain ⟨a41, v42, e43, k44, q45, hf⟩ := ho
        cases e43
        refine q_get X M flX5_170 k44 (congrArg Value.int q45) dX5_takeTaken_45 ?_
        have ho := pI_e hf
        clear hf
        obtain ⟨a46, w47, e48, k49, q50, hf⟩ := ho
        cases e48
        refine q_putI X M hS flX5_167 (Or.inl rfl) k49 dX5_takeTaken_48 (fun H locs M hS => ?_)
        rw [q50] at M
        refine q_aload_n X dX5_takeTaken_51 rfl (lv_at hl 2 rfl) ?_
        refine lv_iconst (v := 0) X.1 X.2.1 dX5_takeTaken_52 (by decide) ?_
        have ho := pZ_e hf
        clear hf
        obtain ⟨a51, w52, e53, k54, z56, q55, hf⟩ := ho
        cases e53
        refine q_putZ X M hS flX5_161 (Or.inl rfl) k54 z56 dX5_takeTaken_53 (fun H locs M hS => ?_)
        rw [q55] at M
        obtain rfl := Option.some.inj hf
        exact q_vret X M hS (by omega) (by omega) dX5_takeTaken_56
theorem m_X5_takeTaken {l : Launch} {D : va_G} {aC : Nat → ClassId} {b0 : Nat} {w : Wd} (o : Nat) (x1 : Option Nat) (x2 : Option Nat) (v : Unit) (w' : Wd) (hf : f_X5_takeTaken o x1 x2 w = some (v, w')) : Ct l D aC b0 yX5_takeTaken (Cond.code yX5_takeTaken cX5_takeTaken 4 none :: Gw) rX5_takeTaken [va_rf (some o), va_rf x1, va_rf x2] w none w' :=
  q_met (by decide) (by simp [lg_sl, cat1]) (fun p e s m below meth c X M ls hl => e_X5_takeTaken X (res := (v, w')) o x1 x2 w s.heap [] 0 0 ls hf M va_S.rf (by decide) (by decide) (by simpa [lv_args, cat1] using hl))
abbrev rX5_takeAck : Room := { frames := 3, cells := 0, slots := 0, locals := 67 }
def f_X5_takeAck_43 (K2 : Option Nat → Option Nat → Int32 → Wd → Option (Unit × Wd)) (x1 : Option Nat) (x2 : Option Nat) (x3 : Int32) (w : Wd) : Option (Unit × Wd) := K2 x1 x2 (x3 + 1) w
set_option maxHeartbeats 4000000 in
set_option maxRecDepth 100000 in
theorem b_X5_takeAck_43 {l : Launch} {D : va_G} {aC : Nat → ClassId} {b0 : Nat} {p : Program} {e : Env} {s : State} {m : MethodId} {args : Array Value} {below : List Frame} {meth : Method} {c : Code} (X : Cx D aC p s m args meth c cX5_takeAck RX5 5 "takeAck" none) {res : (Unit × Wd)} {K2 : Option Nat → Option Nat → Int32 → Wd → Option (Unit × Wd)} (hK2 : ∀ (x1 : Option Nat) (x2 : Option Nat) (x3 : Int32) (w : Wd), BW l D aC b0 p e rX5_takeAck s m args below meth c (Qe D aC b0 below args s 0 0 none res.2) res 0 0 0 0 (K2 x1 x2 x3 w) w 2 5 [(1, va_rf x1), (2, va_rf x2), (3, .int x3)] []) : ∀ (x1 : Option Nat) (x2 : Option Nat) (x3 : Int32) (w : Wd), BW l D aC b0 p e rX5_takeAck s m args below meth c (Qe D aC b0 below args s 0 0 none res.2) res 0 0 0 0 (f_X5_takeAck_43 K2 x1 x2 x3 w) w 43 5 [(1, va_rf x1), (2, va_rf x2), (3, .int x3)] [] := by
  intro x1 x2 x3 w H locs cells slots ls hf M hS hc hs hl
  unfold f_X5_takeAck_43 at hf
  refine lv_iinc (v := (x3 + 1)) (lv' := [(3, .int (x3 + 1)), (1, va_rf x1), (2, va_rf x2)]) X.1 X.2.1 dX5_takeAck_43 hl (k := 2) rfl rfl (by decide) (by simp [cat1]) (fun ls hl => ?_)
  refine lv_goto (tgt := 2) X.1 X.2.1 dX5_takeAck_46 (by decide) ?_
  exact hK2 x1 x2 (x3 + 1) w _ _ _ _ _ hf M hS (by omega) (by omega) (lv_sub hl [1, 2, 0] rfl)
def f_X5_takeAck_2 : Nat → Option Nat → Option Nat → Int32 → Wd → Option (Unit × Wd)
  | 0, _, _, _, _ => none
  | n + 1, x1, x2, x3, w => if 8 ≤ x3 then (some ((), w)) else (chk w x1 5 (fun a5 => bnd (f_X4_bucketAt a5 x3 w) (fun v2 w3 => if v2 = none then ((f_X5_takeAck_43 (f_X5_takeAck_2 n)) x1 x2 x3 w3) else (gI w3 v2 1 0 (fun v10 => if v10 = 1 then (chk w3 v2 1 (fun a18 => bnd (f_X0_know a18 x2 w3) (fun v15 w16 => if v15 = 0 then ((f_X5_takeAck_43 (f_X5_takeAck_2 n)) x1 x2 x3 w16) else (pZ w16 x1 5 5 0 (fun w23 => (f_X5_takeAck_43 (f_X5_takeAck_2 n)) x1 x2 x3 w23))))) else ((f_X5_takeAck_43 (f_X5_takeAck_2 n)) x1 x2 x3 w3))))))
set_option maxHeartbeats 4000000 in
set_option maxRecDepth 100000 in
theorem b_X5_takeAck_2 {l : Launch} {D : va_G} {aC : Nat → ClassId} {b0 : Nat} {p : Program} {e : Env} {s : State} {m : MethodId} {args : Array Value} {below : List Frame} {meth : Method} {c : Code} (X : Cx D aC p s m args meth c cX5_takeAck RX5 5 "takeAck" none) {res : (Unit × Wd)} : ∀ (n : Nat) (x1 : Option Nat) (x2 : Option Nat) (x3 : Int32) (w : Wd), BW l D aC b0 p e rX5_takeAck s m args below meth c (Qe D aC b0 below args s 0 0 none res.2) res 0 0 0 0 (f_X5_takeAck_2 n x1 x2 x3 w) w 2 5 [(1, va_rf x1), (2, va_rf x2), (3, .int x3)] [] := by
  intro n
  induction n with
  | zero =>
    intro x1 x2 x3 w H locs cells slots ls hf
    rw [f_X5_takeAck_2.eq_1] at hf
    cases hf
  | succ n ih =>
    intro x1 x2 x3 w H locs cells slots ls hf M hS hc hs hl
    rw [f_X5_takeAck_2.eq_2] at hf
    refine lv_iload_n X.1 X.2.1 dX5_takeAck_2 rfl (lv_at hl 2 rfl) ?_
    refine lv_bipush (v := 8) X.1 X.2.1 dX5_takeAck_3 (by decide) ?_
    refine lv_icmp_ge (tgt := 49) X.1 X.2.1 dX5_takeAck_5 (by decide) (fun c1 => ?_) (fun c1 => ?_)
    · rw [if_pos c1] at hf
      obtain rfl := Option.some.inj hf
      exact q_vret X M hS (by omega) (by omega) dX5_takeAck_49
    · rw [if_neg c1] at hf
      refine q_aload_n X dX5_takeAck_8 rfl (lv_at hl 0 rfl) ?_
      refine lv_iload_n X.1 X.2.1 dX5_takeAck_9 rfl (lv_at hl 2 rfl) ?_
      have ho := chk_e hf
      clear hf
      obtain ⟨a5, e6, k7, hf⟩ := ho
      cases e6
      have ho := bnd_e hf
      clear hf
      obtain ⟨v2, w3, q4, hf⟩ := ho
      refine q_cV X M hS hl.1 (ci := 4) (r := (RX4, TX4, 6)) (As := [.int x3]) (m_X4_bucketAt a5 x3 _ _ q4) mlX5_146 gm_344 gm_345 rfl (by decide) k7 rfl ⟨(Nat.le_of_ble_eq_true rfl), (Nat.le_of_ble_eq_true rfl)⟩ (rest := []) rfl (Nat.le_of_ble_eq_true rfl) (mc := 0) (ms := 0) (MC := 0) (MS := 0) rfl rfl rfl rfl (by omega) (by omega) dX5_takeAck_10 (st2 := [va_rf v2]) rfl (fun H locs M hS => ?_)
      refine q_astore (lv' := [(4, va_rf v2), (1, va_rf (some a5)), (2, va_rf x2), (3, .int x3)]) X dX5_takeAck_13 hl (by decide) rfl (fun ls hl => ?_)
      refine q_aload X dX5_takeAck_15 (lv_at hl 0 rfl) ?_
      refine q_ifnull (tgt := 43) X dX5_takeAck_17 (by decide) (fun c8 => ?_) (fun c8 => ?_)
      · rw [if_pos c8] at hf
        exact (b_X5_takeAck_43 X ih) (some a5) x2 x3 w3 _ _ _ _ _ hf M hS (by omega) (by omega) (lv_sub hl [1, 2, 3] rfl)
      · rw [if_neg c8] at hf
        refine q_aload X dX5_takeAck_20 (lv_at hl 0 rfl) ?_
        have ho := gI_e hf
        clear hf
        obtain ⟨a9, v10, e11, k12, q13, hf⟩ := ho
        cases e11
        refine q_get X M flX5_155 k12 (congrArg Value.int q13) dX5_takeAck_22 ?_
        refine lv_iconst (v := 1) X.1 X.2.1 dX5_takeAck_25 (by decide) ?_
        refine lv_icmp_ne (tgt := 43) X.1 X.2.1 dX5_takeAck_26 (by decide) (fun c14 => ?_) (fun c14 => ?_)
        · rw [if_neg c14] at hf
          exact (b_X5_takeAck_43 X ih) (some a5) x2 x3 w3 _ _ _ _ _ hf M hS (by omega) (by omega) (lv_sub hl [1, 2, 3] rfl)
        · rw [if_pos c14] at hf
          refine q_aload X dX5_takeAck_29 (lv_at hl 0 rfl) ?_
          refine q_aload_n X dX5_takeAck_31 rfl (lv_at hl 2 rfl) ?_
          have ho := chk_e hf
          clear hf
          obtain ⟨a18, e19, k20, hf⟩ := ho
          cases e19
          have ho := bnd_e hf
          clear hf
          obtain ⟨v15, w16, q17, hf⟩ := ho
          refine q_cV X M hS hl.1 (ci := 0) (r := (RX0, TX0, 11)) (As := [va_rf x2]) (m_X0_know a9 x2 _ _ q17) mlX5_282 gm_366 gm_367 rfl (by decide) k20 rfl ⟨(Nat.le_of_ble_eq_true rfl), (Nat.le_of_ble_eq_true rfl)⟩ (rest := []) rfl (Nat.le_of_ble_eq_true rfl) (mc := 0) (ms := 0) (MC := 0) (MS := 0) rfl rfl rfl rfl (by omega) (by omega) dX5_takeAck_32 (st2 := [.int v15]) rfl (fun H locs M hS => ?_)
          refine lv_if_eq (tgt := 43) X.1 X.2.1 dX5_takeAck_35 (by decide) (fun c21 => ?_) (fun c21 => ?_)
          · rw [if_pos c21] at hf
            exact (b_X5_takeAck_43 X ih) (some a5) x2 x3 w16 _ _ _ _ _ hf M hS (by omega) (by omega) (lv_sub hl [1, 2, 3] rfl)
          · rw [if_neg c21] at hf
            refine q_aload_n X dX5_takeAck_38 rfl (lv_at hl 1 rfl) ?_
            refine lv_iconst (v := 0) X.1 X.2.1 dX5_takeAck_39 (by decide) ?_
            have ho := pZ_e hf
            clear hf
            obtain ⟨a22, w23, e24, k25, z27, q26, hf⟩ := ho
            cases e24
            refine q_putZ X M hS flX5_161 (Or.inl rfl) k25 z27 dX5_takeAck_40 (fun H locs M hS => ?_)
            rw [q26] at M
            exact (b_X5_takeAck_43 X ih) (some a5) x2 x3 w23 _ _ _ _ _ hf M hS (by omega) (by omega) (lv_sub hl [1, 2, 3] rfl)
def f_X5_takeAck (o : Nat) (x1 : Option Nat) (x2 : Option Nat) (w : Wd) : Option (Unit × Wd) := (f_X5_takeAck_2 FU) x1 x2 0 w
set_option maxHeartbeats 4000000 in
set_option maxRecDepth 100000 in
theorem e_X5_takeAck {l : Launch} {D : va_G} {aC : Nat → ClassId} {b0 : Nat} {p : Program} {e : Env} {s : State} {m : MethodId} {args : Array Value} {below : List Frame} {meth : Method} {c : Code} (X : Cx D aC p s m args meth c cX5_takeAck RX5 5 "takeAck" none) {res : (Unit × Wd)} (o : Nat) (x1 : Option Nat) (x2 : Option Nat) (w : Wd) : BW l D aC b0 p e rX5_takeAck s m args below meth c (Qe D aC b0 below args s 0 0 none res.2) res 0 0 0 0 (f_X5_takeAck o x1 x2 w) w 0 5 [(0, va_rf (some o)), (1, va_rf x1), (2, va_rf x2)] [] := by
  intro H locs cells slots ls hf M hS hc hs hl
  unfold f_X5_takeAck at hf
  refine lv_iconst (v := 0) X.1 X.2.1 dX5_takeAck_0 (by decide) ?_
  refine lv_istore_n (lv' := [(3, .int 0), (0, va_rf (some o)), (1, va_rf x1), (2, va_rf x2)]) X.1 X.2.1 dX5_takeAck_1 rfl hl (by decide) (by simp [cat1]) (fun ls hl => ?_)
  exact (b_X5_takeAck_2 X FU) x1 x2 0 w _ _ _ _ _ hf M hS (by omega) (by omega) (lv_sub hl [2, 3, 0] rfl)
theorem m_X5_takeAck {l : Launch} {D : va_G} {aC : Nat → ClassId} {b0 : Nat} {w : Wd} (o : Nat) (x1 : Option Nat) (x2 : Option Nat) (v : Unit) (w' : Wd) (hf : f_X5_takeAck o x1 x2 w = some (v, w')) : Ct l D aC b0 yX5_takeAck (Cond.code yX5_takeAck cX5_takeAck 5 none :: Gw) rX5_takeAck [va_rf (some o), va_rf x1, va_rf x2] w none w' :=
  q_met (by decide) (by simp [lg_sl, cat1]) (fun p e s m below meth c X M ls hl => e_X5_takeAck X (res := (v, w')) o x1 x2 w s.heap [] 0 0 ls hf M va_S.rf (by decide) (by decide) (by simpa [lv_args, cat1] using hl))
abbrev rX5_start : Room := { frames := 1, cells := 0, slots := 0, locals := 21 }
def f_X5_start (o : Nat) (x1 : Int32) (w : Wd) : Option (Int32 × Wd) := chk w (some o) 6 (fun a4 => bnd (f_X5_serverAt a4 x1 w) (fun v1 w2 => if v1 = none then (some ((-1), w2)) else (gI w2 v1 5 4 (fun v9 => if v9 = 0 then (pZ w2 v1 5 4 1 (fun w15 => some (1, w15))) else (some ((-3), w2))))))
set_option maxHeartbeats 4000000 in
set_option maxRecDepth 100000 in
theorem e_X5_start {l : Launch} {D : va_G} {aC : Nat → ClassId} {b0 : Nat} {p : Program} {e : Env} {s : State} {m : MethodId} {args : Array Value} {below : List Frame} {meth : Method} {c : Code} (X : Cx D aC p s m args meth c cX5_start RX5 3 "start" (some .int)) {res : (Int32 × Wd)} (o : Nat) (x1 : Int32) (w : Wd) : BW l D aC b0 p e rX5_start s m args below meth c (Qe D aC b0 below args s 0 0 (some (.int res.1)) res.2) res 0 0 0 0 (f_X5_start o x1 w) w 0 3 [(0, va_rf (some o)), (1, .int x1)] [] := by
  intro H locs cells slots ls hf M hS hc hs hl
  unfold f_X5_start at hf
  refine q_aload_n X dX5_start_0 rfl (lv_at hl 0 rfl) ?_
  refine lv_iload_n X.1 X.2.1 dX5_start_1 rfl (lv_at hl 1 rfl) ?_
  have ho := chk_e hf
  clear hf
  obtain ⟨a4, e5, k6, hf⟩ := ho
  cases e5
  have ho := bnd_e hf
  clear hf
  obtain ⟨v1, w2, q3, hf⟩ := ho
  refine q_cV X M hS hl.1 (ci := 5) (r := (RX5, TX5, 9)) (As := [.int x1]) (m_X5_serverAt o x1 _ _ q3) mlX5_85 gm_294 gm_295 rfl (by decide) k6 rfl ⟨(Nat.le_of_ble_eq_true rfl), (Nat.le_of_ble_eq_true rfl)⟩ (rest := []) rfl (Nat.le_of_ble_eq_true rfl) (mc := 0) (ms := 0) (MC := 0) (MS := 0) rfl rfl rfl rfl (by omega) (by omega) dX5_start_2 (st2 := [va_rf v1]) rfl (fun H locs M hS => ?_)
  refine q_astore_n (lv' := [(2, va_rf v1), (0, va_rf (some o)), (1, .int x1)]) X dX5_start_5 rfl hl (by decide) rfl (fun ls hl => ?_)
  refine q_aload_n X dX5_start_6 rfl (lv_at hl 0 rfl) ?_
  refine q_ifnonnull (tgt := 12) X dX5_start_7 (by decide) (fun c7 => ?_) (fun c7 => ?_)
  · rw [if_neg c7] at hf
    refine q_aload_n X dX5_start_12 rfl (lv_at hl 0 rfl) ?_
    have ho := gI_e hf
    clear hf
    obtain ⟨a8, v9, e10, k11, q12, hf⟩ := ho
    cases e10
    refine q_get X M flX5_116 k11 (congrArg Value.int q12) dX5_start_13 ?_
    refine lv_if_eq (tgt := 22) X.1 X.2.1 dX5_start_16 (by decide) (fun c13 => ?_) (fun c13 => ?_)
    · rw [if_pos c13] at hf
      refine q_aload_n X dX5_start_22 rfl (lv_at hl 0 rfl) ?_
      refine lv_iconst (v := 1) X.1 X.2.1 dX5_start_23 (by decide) ?_
      have ho := pZ_e hf
      clear hf
      obtain ⟨a14, w15, e16, k17, z19, q18, hf⟩ := ho
      cases e16
      refine q_putZ X M hS flX5_116 (Or.inl rfl) k17 z19 dX5_start_24 (fun H locs M hS => ?_)
      rw [q18] at M
      refine lv_iconst (v := 1) X.1 X.2.1 dX5_start_27 (by decide) ?_
      obtain rfl := Option.some.inj hf
      exact q_iret X M hS (by omega) (by omega) dX5_start_28
    · rw [if_neg c13] at hf
      refine lv_bipush (v := (-3)) X.1 X.2.1 dX5_start_19 (by decide) ?_
      obtain rfl := Option.some.inj hf
      exact q_iret X M hS (by omega) (by omega) dX5_start_21
  · rw [if_pos c7] at hf
    refine lv_iconst (v := (-1)) X.1 X.2.1 dX5_start_10 (by decide) ?_
    obtain rfl := Option.some.inj hf
    exact q_iret X M hS (by omega) (by omega) dX5_start_11
theorem m_X5_start {l : Launch} {D : va_G} {aC : Nat → ClassId} {b0 : Nat} {w : Wd} (o : Nat) (x1 : Int32) (v : Int32) (w' : Wd) (hf : f_X5_start o x1 w = some (v, w')) : Ct l D aC b0 yX5_start (Cond.code yX5_start cX5_start 3 (some .int) :: Gw) rX5_start [va_rf (some o), .int x1] w (some (.int v)) w' :=
  q_met (by decide) (Nat.le_of_ble_eq_true rfl) (fun p e s m below meth c X M ls hl => e_X5_start X (res := (v, w')) o x1 w s.heap [] 0 0 ls hf M va_S.rf (by decide) (by decide) hl)
abbrev rX5_move : Room := { frames := 2, cells := 9, slots := 90, locals := 47 }
def f_X5_move_89 (o : Nat) (x1 : Int32) (x2 : Int32) (x3 : Int32) (x4 : Option Nat) (x5 : Option Nat) (w : Wd) : Option (Int32 × Wd) := nwO w 3 (fun w42 => bnd (f_X2_init (wn w) 3 x3 x1 w42) (fun v44 w45 => pI w45 (some (wn w)) 3 7 x2 (fun w48 => gI w48 x5 1 1 (fun v53 => pI w48 (some (wn w)) 3 4 (v53 + 1) (fun w58 => nwO w58 1 (fun w62 => bnd (f_X0_init (wn w58) w62) (fun v64 w65 => pR w65 (some (wn w)) 3 14 (some (wn w58)) (fun w68 => gR w68 (some (wn w)) 3 14 (fun v73 => chk w68 v73 1 (fun a80 => bnd (f_X0_copyFrom a80 x5 w68) (fun v77 w78 => chk w78 (some o) 6 (fun a86 => bnd (f_X5_sendFrom a86 x4 (some (wn w)) w78) (fun v83 w84 => gI w84 (some (wn w)) 3 4 (fun v90 => some (v90, w84)))))))))))))))
set_option maxHeartbeats 4000000 in
set_option maxRecDepth 100000 in
theorem b_X5_move_89 {l : Launch} {D : va_G} {aC : Nat → ClassId} {b0 : Nat} {p : Program} {e : Env} {s : State} {m : MethodId} {args : Array Value} {below : List Frame} {meth : Method} {c : Code} (X : Cx D aC p s m args meth c cX5_move RX5 7 "move" (some .int)) {res : (Int32 × Wd)} : ∀ (o : Nat) (x1 : Int32) (x2 : Int32) (x3 : Int32) (x4 : Option Nat) (x5 : Option Nat) (w : Wd), BW l D aC b0 p e rX5_move s m args below meth c (Qe D aC b0 below args s 9 90 (some (.int res.1)) res.2) res 9 90 9 90 (f_X5_move_89 o x1 x2 x3 x4 x5 w) w 89 7 [(0, va_rf (some o)), (1, .int x1), (2, .int x2), (3, .int x3), (4, va_rf x4), (5, va_rf x5)] [] := by
  intro o x1 x2 x3 x4 x5 w H locs cells slots ls hf M hS hc hs hl
  unfold f_X5_move_89 at hf
  have ho := nwO_e hf
  clear hf
  obtain ⟨w42, q43, hf⟩ := ho
  refine q_new X M hS clX5_89 (MC := 9) (MS := 90) rfl rfl (by omega) (by omega) dX5_move_89 (fun H M hS => ?_)
  rw [q43] at M
  refine lv_dup X.1 X.2.1 dX5_move_92 rfl ?_
  refine lv_iconst (v := 3) X.1 X.2.1 dX5_move_93 (by decide) ?_
  refine lv_iload_n X.1 X.2.1 dX5_move_94 rfl (lv_at hl 3 rfl) ?_
  refine lv_iload_n X.1 X.2.1 dX5_move_95 rfl (lv_at hl 1 rfl) ?_
  have ho := bnd_e hf
  clear hf
  obtain ⟨v44, w45, q46, hf⟩ := ho
  refine q_cI X M hS hl.1 (As := [.int 3, .int x3, .int x1]) (m_X2_init (wn w) 3 x3 x1 _ _ q46) mlX5_91 gm_225 rfl rfl ⟨(Nat.le_of_ble_eq_true rfl), (Nat.le_of_ble_eq_true rfl)⟩ (rest := [va_rf (some (wn w))]) rfl (Nat.le_of_ble_eq_true rfl) (mc := 0) (ms := 0) (MC := 9) (MS := 90) rfl rfl rfl rfl (by omega) (by omega) dX5_move_96 (fun H locs M hS => ?_)
  refine q_astore (lv' := [(6, va_rf (some (wn w))), (0, va_rf (some o)), (1, .int x1), (2, .int x2), (3, .int x3), (4, va_rf x4), (5, va_rf x5)]) X dX5_move_99 hl (by decide) (by simp [cat1]) (fun ls hl => ?_)
  refine q_aload X dX5_move_101 (lv_at hl 0 rfl) ?_
  refine lv_iload_n X.1 X.2.1 dX5_move_103 rfl (lv_at hl 3 rfl) ?_
  have ho := pI_e hf
  clear hf
  obtain ⟨a47, w48, e49, k50, q51, hf⟩ := ho
  cases e49
  refine q_putI X M hS flX5_164 (Or.inl rfl) k50 dX5_move_104 (fun H locs M hS => ?_)
  rw [q51] at M
  refine q_aload X dX5_move_107 (lv_at hl 0 rfl) ?_
  refine q_aload X dX5_move_109 (lv_at hl 6 rfl) ?_
  have ho := gI_e hf
  clear hf
  obtain ⟨a52, v53, e54, k55, q56, hf⟩ := ho
  cases e54
  refine q_get X M flX5_167 k55 (congrArg Value.int q56) dX5_move_111 ?_
  refine lv_iconst (v := 1) X.1 X.2.1 dX5_move_114 (by decide) ?_
  refine lv_iadd X.1 X.2.1 dX5_move_115 ?_
  have ho := pI_e hf
  clear hf
  obtain ⟨a57, w58, e59, k60, q61, hf⟩ := ho
  cases e59
  refine q_putI X M hS flX5_170 (Or.inl rfl) k60 dX5_move_116 (fun H locs M hS => ?_)
  rw [q61] at M
  refine q_aload X dX5_move_119 (lv_at hl 0 rfl) ?_
  have ho := nwO_e hf
  clear hf
  obtain ⟨w62, q63, hf⟩ := ho
  refine q_new X M hS clX5_151 (MC := 9) (MS := 90) rfl rfl (by omega) (by omega) dX5_move_121 (fun H M hS => ?_)
  rw [q63] at M
  refine lv_dup X.1 X.2.1 dX5_move_124 rfl ?_
  have ho := bnd_e hf
  clear hf
  obtain ⟨v64, w65, q66, hf⟩ := ho
  refine q_cIN X M hS hl.1 (As := []) (m_X0_init (wn w58) _ _ q66) mn_X0_init (X.2.2.2.2.2.2.2.2.2.2.2.1) gm_58 rfl rfl ⟨(Nat.le_of_ble_eq_true rfl), (Nat.le_of_ble_eq_true rfl)⟩ (rest := [va_rf (some (wn w58)), va_rf (some (wn w))]) rfl (Nat.le_of_ble_eq_true rfl) (mc := 7) (ms := 64) (MC := 9) (MS := 90) rfl rfl rfl rfl (by omega) (by omega) dX5_move_125 (fun H locs M hS => ?_)
  have ho := pR_e hf
  clear hf
  obtain ⟨a67, w68, e69, k70, q71, hf⟩ := ho
  cases e69
  refine q_putR X M hS flX5_172 (Or.inl rfl) k70 dX5_move_128 (fun H locs M hS => ?_)
  rw [q71] at M
  refine q_aload X dX5_move_131 (lv_at hl 0 rfl) ?_
  have ho := gR_e hf
  clear hf
  obtain ⟨a72, v73, e74, k75, q76, hf⟩ := ho
  cases e74
  refine q_get X M flX5_172 k75 (congrArg va_rf q76) dX5_move_133 ?_
  refine q_aload X dX5_move_136 (lv_at hl 6 rfl) ?_
  have ho := chk_e hf
  clear hf
  obtain ⟨a80, e81, k82, hf⟩ := ho
  cases e81
  have ho := bnd_e hf
  clear hf
  obtain ⟨v77, w78, q79, hf⟩ := ho
  refine q_cV X M hS hl.1 (ci := 0) (r := (RX0, TX0, 11)) (As := [va_rf (some a52)]) (m_X0_copyFrom a80 (some a52) _ _ q79) mlX5_176 gm_71 gm_72 rfl (by decide) k82 rfl ⟨(Nat.le_of_ble_eq_true rfl), (Nat.le_of_ble_eq_true rfl)⟩ (rest := []) rfl (Nat.le_of_ble_eq_true rfl) (mc := 0) (ms := 0) (MC := 9) (MS := 90) rfl rfl rfl rfl (by omega) (by omega) dX5_move_138 (st2 := []) rfl (fun H locs M hS => ?_)
  refine q_aload_n X dX5_move_141 rfl (lv_at hl 1 rfl) ?_
  refine q_aload X dX5_move_142 (lv_at hl 5 rfl) ?_
  refine q_aload X dX5_move_144 (lv_at hl 0 rfl) ?_
  have ho := chk_e hf
  clear hf
  obtain ⟨a86, e87, k88, hf⟩ := ho
  cases e87
  have ho := bnd_e hf
  clear hf
  obtain ⟨v83, w84, q85, hf⟩ := ho
  refine q_cV X M hS hl.1 (ci := 5) (r := (RX5, TX5, 9)) (As := [va_rf x4, va_rf (some (wn w))]) (m_X5_sendFrom o x4 (some (wn w)) _ _ q85) mlX5_180 gm_353 gm_354 rfl (by decide) k88 rfl ⟨(Nat.le_of_ble_eq_true rfl), (Nat.le_of_ble_eq_true rfl)⟩ (rest := []) rfl (Nat.le_of_ble_eq_true rfl) (mc := 0) (ms := 0) (MC := 9) (MS := 90) rfl rfl rfl rfl (by omega) (by omega) dX5_move_146 (st2 := []) rfl (fun H locs M hS => ?_)
  refine q_aload X dX5_move_149 (lv_at hl 0 rfl) ?_
  have ho := gI_e hf
  clear hf
  obtain ⟨a89, v90, e91, k92, q93, hf⟩ := ho
  cases e91
  refine q_get X M flX5_170 k92 (congrArg Value.int q93) dX5_move_151 ?_
  obtain rfl := Option.some.inj hf
  exact q_iret X M hS (by omega) (by omega) dX5_move_154
def f_X5_move (o : Nat) (x1 : Int32) (x2 : Int32) (x3 : Int32) (w : Wd) : Option (Int32 × Wd) := chk w (some o) 6 (fun a4 => bnd (f_X5_serverAt a4 x1 w) (fun v1 w2 => if v1 = none then (some ((-1), w2)) else (chk w2 (some o) 6 (fun a11 => bnd (f_X5_serverAt a11 x3 w2) (fun v8 w9 => if v8 = none then (some ((-1), w9)) else (chk w9 v1 5 (fun a18 => bnd (f_X4_bucketAt a18 x2 w9) (fun v15 w16 => if v15 = none then (some ((-1), w16)) else (gI w16 v1 5 4 (fun v23 => if v23 = 0 then (some ((-3), w16)) else (if x3 = x1 then (some ((-3), w16)) else (chk w16 v15 1 (fun a32 => bnd (f_X0_canLeaveFor a32 x3 w16) (fun v29 w30 => if v29 = 0 then (some ((-3), w30)) else (gI w30 v15 1 0 (fun v37 => if v37 = 1 then (pI w30 v15 1 0 2 (fun w95 => pI w95 v15 1 2 x3 (fun w100 => pZ w100 v1 5 5 0 (fun w105 => (f_X5_move_89) o x1 x2 x3 v1 v15 w105)))) else ((f_X5_move_89) o x1 x2 x3 v1 v15 w30)))))))))))))))))
set_option maxHeartbeats 4000000 in
set_option maxRecDepth 100000 in
theorem e_X5_move {l : Launch} {D : va_G} {aC : Nat → ClassId} {b0 : Nat} {p : Program} {e : Env} {s : State} {m : MethodId} {args : Array Value} {below : List Frame} {meth : Method} {c : Code} (X : Cx D aC p s m args meth c cX5_move RX5 7 "move" (some .int)) {res : (Int32 × Wd)} (o : Nat) (x1 : Int32) (x2 : Int32) (x3 : Int32) (w : Wd) : BW l D aC b0 p e rX5_move s m args below meth c (Qe D aC b0 below args s 9 90 (some (.int res.1)) res.2) res 9 90 9 90 (f_X5_move o x1 x2 x3 w) w 0 7 [(0, va_rf (some o)), (1, .int x1), (2, .int x2), (3, .int x3)] [] := by
  intro H locs cells slots ls hf M hS hc hs hl
  unfold f_X5_move at hf
  refine q_aload_n X dX5_move_0 rfl (lv_at hl 0 rfl) ?_
  refine lv_iload_n X.1 X.2.1 dX5_move_1 rfl (lv_at hl 1 rfl) ?_
  have ho := chk_e hf
  clear hf
  obtain ⟨a4, e5, k6, hf⟩ := ho
  cases e5
  have ho := bnd_e hf
  clear hf
  obtain ⟨v1, w2, q3, hf⟩ := ho
  refine q_cV X M hS hl.1 (ci := 5) (r := (RX5, TX5, 9)) (As := [.int x1]) (m_X5_serverAt o x1 _ _ q3) mlX5_85 gm_294 gm_295 rfl (by decide) k6 rfl ⟨(Nat.le_of_ble_eq_true rfl), (Nat.le_of_ble_eq_true rfl)⟩ (rest := []) rfl (Nat.le_of_ble_eq_true rfl) (mc := 0) (ms := 0) (MC := 9) (MS := 90) rfl rfl rfl rfl (by omega) (by omega) dX5_move_2 (st2 := [va_rf v1]) rfl (fun H locs M hS => ?_)
  refine q_astore (lv' := [(4, va_rf v1), (0, va_rf (some o)), (1, .int x1), (2, .int x2), (3, .int x3)]) X dX5_move_5 hl (by decide) rfl (fun ls hl => ?_)
  refine q_aload X dX5_move_7 (lv_at hl 0 rfl) ?_
  refine q_ifnull (tgt := 20) X dX5_move_9 (by decide) (fun c7 => ?_) (fun c7 => ?_)
  · rw [if_pos c7] at hf
    refine lv_iconst (v := (-1)) X.1 X.2.1 dX5_move_20 (by decide) ?_
    obtain rfl := Option.some.inj hf
    exact q_iret X M hS (by omega) (by omega) dX5_move_21
  · rw [if_neg c7] at hf
    refine q_aload_n X dX5_move_12 rfl (lv_at hl 1 rfl) ?_
    refine lv_iload_n X.1 X.2.1 dX5_move_13 rfl (lv_at hl 4 rfl) ?_
    have ho := chk_e hf
    clear hf
    obtain ⟨a11, e12, k13, hf⟩ := ho
    cases e12
    have ho := bnd_e hf
    clear hf
    obtain ⟨v8, w9, q10, hf⟩ := ho
    refine q_cV X M hS hl.1 (ci := 5) (r := (RX5, TX5, 9)) (As := [.int x3]) (m_X5_serverAt o x3 _ _ q10) mlX5_85 gm_294 gm_295 rfl (by decide) k13 rfl ⟨(Nat.le_of_ble_eq_true rfl), (Nat.le_of_ble_eq_true rfl)⟩ (rest := []) rfl (Nat.le_of_ble_eq_true rfl) (mc := 0) (ms := 0) (MC := 9) (MS := 90) rfl rfl rfl rfl (by omega) (by omega) dX5_move_14 (st2 := [va_rf v8]) rfl (fun H locs M hS => ?_)
    refine q_ifnonnull (tgt := 22) X dX5_move_17 (by decide) (fun c14 => ?_) (fun c14 => ?_)
    · rw [if_neg c14] at hf
      refine q_aload X dX5_move_22 (lv_at hl 0 rfl) ?_
      refine lv_iload_n X.1 X.2.1 dX5_move_24 rfl (lv_at hl 3 rfl) ?_
      have ho := chk_e hf
      clear hf
      obtain ⟨a18, e19, k20, hf⟩ := ho
      cases e19
      have ho := bnd_e hf
      clear hf
      obtain ⟨v15, w16, q17, hf⟩ := ho
      refine q_cV X M hS hl.1 (ci := 4) (r := (RX4, TX4, 6)) (As := [.int x2]) (m_X4_bucketAt a18 x2 _ _ q17) mlX5_146 gm_344 gm_345 rfl (by decide) k20 rfl ⟨(Nat.le_of_ble_eq_true rfl), (Nat.le_of_ble_eq_true rfl)⟩ (rest := []) rfl (Nat.le_of_ble_eq_true rfl) (mc := 0) (ms := 0) (MC := 9) (MS := 90) rfl rfl rfl rfl (by omega) (by omega) dX5_move_25 (st2 := [va_rf v15]) rfl (fun H locs M hS => ?_)
      refine q_astore (lv' := [(5, va_rf v15), (4, va_rf (some a18)), (0, va_rf (some o)), (1, .int x1), (2, .int x2), (3, .int x3)]) X dX5_move_28 hl (by decide) rfl (fun ls hl => ?_)
      refine q_aload X dX5_move_30 (lv_at hl 0 rfl) ?_
      refine q_ifnonnull (tgt := 37) X dX5_move_32 (by decide) (fun c21 => ?_) (fun c21 => ?_)
      · rw [if_neg c21] at hf
        refine q_aload X dX5_move_37 (lv_at hl 1 rfl) ?_
        have ho := gI_e hf
        clear hf
        obtain ⟨a22, v23, e24, k25, q26, hf⟩ := ho
        cases e24
        refine q_get X M flX5_116 k25 (congrArg Value.int q26) dX5_move_39 ?_
        refine lv_if_eq (tgt := 59) X.1 X.2.1 dX5_move_42 (by decide) (fun c27 => ?_) (fun c27 => ?_)
        · rw [if_pos c27] at hf
          refine lv_bipush (v := (-3)) X.1 X.2.1 dX5_move_59 (by decide) ?_
          obtain rfl := Option.some.inj hf
          exact q_iret X M hS (by omega) (by omega) dX5_move_61
        · rw [if_neg c27] at hf
          refine lv_iload_n X.1 X.2.1 dX5_move_45 rfl (lv_at hl 5 rfl) ?_
          refine lv_iload_n X.1 X.2.1 dX5_move_46 rfl (lv_at hl 3 rfl) ?_
          refine lv_icmp_eq (tgt := 59) X.1 X.2.1 dX5_move_47 (by decide) (fun c28 => ?_) (fun c28 => ?_)
          · rw [if_pos c28] at hf
            refine lv_bipush (v := (-3)) X.1 X.2.1 dX5_move_59 (by decide) ?_
            obtain rfl := Option.some.inj hf
            exact q_iret X M hS (by omega) (by omega) dX5_move_61
          · rw [if_neg c28] at hf
            refine q_aload X dX5_move_50 (lv_at hl 0 rfl) ?_
            refine lv_iload_n X.1 X.2.1 dX5_move_52 rfl (lv_at hl 5 rfl) ?_
            have ho := chk_e hf
            clear hf
            obtain ⟨a32, e33, k34, hf⟩ := ho
            cases e33
            have ho := bnd_e hf
            clear hf
            obtain ⟨v29, w30, q31, hf⟩ := ho
            refine q_cV X M hS hl.1 (ci := 0) (r := (RX0, TX0, 11)) (As := [.int x3]) (m_X0_canLeaveFor a32 x3 _ _ q31) mlX5_150 gm_541 gm_542 rfl (by decide) k34 rfl ⟨(Nat.le_of_ble_eq_true rfl), (Nat.le_of_ble_eq_true rfl)⟩ (rest := []) rfl (Nat.le_of_ble_eq_true rfl) (mc := 0) (ms := 0) (MC := 9) (MS := 90) rfl rfl rfl rfl (by omega) (by omega) dX5_move_53 (st2 := [.int v29]) rfl (fun H locs M hS => ?_)
            refine lv_if_ne (tgt := 62) X.1 X.2.1 dX5_move_56 (by decide) (fun c35 => ?_) (fun c35 => ?_)
            · rw [if_neg c35] at hf
              refine q_aload X dX5_move_62 (lv_at hl 0 rfl) ?_
              have ho := gI_e hf
              clear hf
              obtain ⟨a36, v37, e38, k39, q40, hf⟩ := ho
              cases e38
              refine q_get X M flX5_155 k39 (congrArg Value.int q40) dX5_move_64 ?_
              refine lv_iconst (v := 1) X.1 X.2.1 dX5_move_67 (by decide) ?_
              refine lv_icmp_ne (tgt := 89) X.1 X.2.1 dX5_move_68 (by decide) (fun c41 => ?_) (fun c41 => ?_)
              · rw [if_neg c41] at hf
                exact (b_X5_move_89 X) o x1 x2 x3 (some a18) (some a32) w30 _ _ _ _ _ hf M hS (by omega) (by omega) (lv_sub hl [2, 3, 4, 5, 1, 0] rfl)
              · rw [if_pos c41] at hf
                refine q_aload X dX5_move_71 (lv_at hl 0 rfl) ?_
                refine lv_iconst (v := 2) X.1 X.2.1 dX5_move_73 (by decide) ?_
                have ho := pI_e hf
                clear hf
                obtain ⟨a94, w95, e96, k97, q98, hf⟩ := ho
                cases e96
                refine q_putI X M hS flX5_155 (Or.inl rfl) k97 dX5_move_74 (fun H locs M hS => ?_)
                rw [q98] at M
                refine q_aload X dX5_move_77 (lv_at hl 0 rfl) ?_
                refine lv_iload_n X.1 X.2.1 dX5_move_79 rfl (lv_at hl 5 rfl) ?_
                have ho := pI_e hf
                clear hf
                obtain ⟨a99, w100, e101, k102, q103, hf⟩ := ho
                cases e101
                refine q_putI X M hS flX5_158 (Or.inl rfl) k102 dX5_move_80 (fun H locs M hS => ?_)
                rw [q103] at M
                refine q_aload X dX5_move_83 (lv_at hl 1 rfl) ?_
                refine lv_iconst (v := 0) X.1 X.2.1 dX5_move_85 (by decide) ?_
                have ho := pZ_e hf
                clear hf
                obtain ⟨a104, w105, e106, k107, z109, q108, hf⟩ := ho
                cases e106
                refine q_putZ X M hS flX5_161 (Or.inl rfl) k107 z109 dX5_move_86 (fun H locs M hS => ?_)
                rw [q108] at M
                exact (b_X5_move_89 X) o x1 x2 x3 (some a18) (some a32) w105 _ _ _ _ _ hf M hS (by omega) (by omega) (lv_sub hl [2, 3, 4, 5, 1, 0] rfl)
            · rw [if_pos c35] at hf
              refine lv_bipush (v := (-3)) X.1 X.2.1 dX5_move_59 (by decide) ?_
              obtain rfl := Option.some.inj hf
              exact q_iret X M hS (by omega) (by omega) dX5_move_61
      · rw [if_pos c21] at hf
        refine lv_iconst (v := (-1)) X.1 X.2.1 dX5_move_35 (by decide) ?_
        obtain rfl := Option.some.inj hf
        exact q_iret X M hS (by omega) (by omega) dX5_move_36
    · rw [if_pos c14] at hf
      refine lv_iconst (v := (-1)) X.1 X.2.1 dX5_move_20 (by decide) ?_
      obtain rfl := Option.some.inj hf
      exact q_iret X M hS (by omega) (by omega) dX5_move_21
theorem m_X5_move {l : Launch} {D : va_G} {aC : Nat → ClassId} {b0 : Nat} {w : Wd} (o : Nat) (x1 : Int32) (x2 : Int32) (x3 : Int32) (v : Int32) (w' : Wd) (hf : f_X5_move o x1 x2 x3 w = some (v, w')) : Ct l D aC b0 yX5_move (Cond.code yX5_move cX5_move 7 (some .int) :: Gw) rX5_move [va_rf (some o), .int x1, .int x2, .int x3] w (some (.int v)) w' :=
  q_met (by decide) (Nat.le_of_ble_eq_true rfl) (fun p e s m below meth c X M ls hl => e_X5_move X (res := (v, w')) o x1 x2 x3 w s.heap [] 0 0 ls hf M va_S.rf (by decide) (by decide) hl)
abbrev rX5_collect : Room := { frames := 3, cells := 0, slots := 0, locals := 67 }
def f_X5_collect_65 (K27 : Nat → Option Nat → Int32 → Int32 → Wd → Option (Int32 × Wd)) (o : Nat) (x2 : Option Nat) (x3 : Int32) (x4 : Int32) (w : Wd) : Option (Int32 × Wd) := K27 o x2 x3 (x4 + 1) w
set_option maxHeartbeats 4000000 in
set_option maxRecDepth 100000 in
theorem b_X5_collect_65 {l : Launch} {D : va_G} {aC : Nat → ClassId} {b0 : Nat} {p : Program} {e : Env} {s : State} {m : MethodId} {args : Array Value} {below : List Frame} {meth : Method} {c : Code} (X : Cx D aC p s m args meth c cX5_collect RX5 6 "collect" (some .int)) {res : (Int32 × Wd)} {K27 : Nat → Option Nat → Int32 → Int32 → Wd → Option (Int32 × Wd)} (hK27 : ∀ (o : Nat) (x2 : Option Nat) (x3 : Int32) (x4 : Int32) (w : Wd), BW l D aC b0 p e rX5_collect s m args below meth c (Qe D aC b0 below args s 0 0 (some (.int res.1)) res.2) res 0 0 0 0 (K27 o x2 x3 x4 w) w 27 6 [(0, va_rf (some o)), (2, va_rf x2), (3, .int x3), (4, .int x4)] []) : ∀ (o : Nat) (x2 : Option Nat) (x3 : Int32) (x4 : Int32) (w : Wd), BW l D aC b0 p e rX5_collect s m args below meth c (Qe D aC b0 below args s 0 0 (some (.int res.1)) res.2) res 0 0 0 0 (f_X5_collect_65 K27 o x2 x3 x4 w) w 65 6 [(0, va_rf (some o)), (2, va_rf x2), (3, .int x3), (4, .int x4)] [] := by
  intro o x2 x3 x4 w H locs cells slots ls hf M hS hc hs hl
  unfold f_X5_collect_65 at hf
  refine lv_iinc (v := (x4 + 1)) (lv' := [(4, .int (x4 + 1)), (0, va_rf (some o)), (2, va_rf x2), (3, .int x3)]) X.1 X.2.1 dX5_collect_65 hl (k := 3) rfl rfl (by decide) rfl (fun ls hl => ?_)
  refine lv_goto (tgt := 27) X.1 X.2.1 dX5_collect_68 (by decide) ?_
  exact hK27 o x2 x3 (x4 + 1) w _ _ _ _ _ hf M hS (by omega) (by omega) (lv_sub hl [1, 2, 3, 0] rfl)
def f_X5_collect_27 (K71 : Option Nat → Int32 → Wd → Option (Int32 × Wd)) : Nat → Nat → Option Nat → Int32 → Int32 → Wd → Option (Int32 × Wd)
  | 0, _, _, _, _, _ => none
  | n + 1, o, x2, x3, x4, w => if 8 ≤ x4 then (K71 x2 x3 w) else (chk w x2 5 (fun a18 => bnd (f_X4_bucketAt a18 x4 w) (fun v15 w16 => if v15 = none then ((f_X5_collect_65 (f_X5_collect_27 K71 n)) o x2 x3 x4 w16) else (gI w16 v15 1 0 (fun v23 => if v23 = 1 then (chk w16 (some o) 6 (fun a31 => bnd (f_X5_removeDeadRecords a31 v15 w16) (fun v28 w29 => (f_X5_collect_65 (f_X5_collect_27 K71 n)) o x2 (x3 + v28) x4 w29))) else ((f_X5_collect_65 (f_X5_collect_27 K71 n)) o x2 x3 x4 w16))))))
set_option maxHeartbeats 4000000 in
set_option maxRecDepth 100000 in
theorem b_X5_collect_27 {l : Launch} {D : va_G} {aC : Nat → ClassId} {b0 : Nat} {p : Program} {e : Env} {s : State} {m : MethodId} {args : Array Value} {below : List Frame} {meth : Method} {c : Code} (X : Cx D aC p s m args meth c cX5_collect RX5 6 "collect" (some .int)) {res : (Int32 × Wd)} {K71 : Option Nat → Int32 → Wd → Option (Int32 × Wd)} (hK71 : ∀ (x2 : Option Nat) (x3 : Int32) (w : Wd), BW l D aC b0 p e rX5_collect s m args below meth c (Qe D aC b0 below args s 0 0 (some (.int res.1)) res.2) res 0 0 0 0 (K71 x2 x3 w) w 71 6 [(2, va_rf x2), (3, .int x3)] []) : ∀ (n : Nat) (o : Nat) (x2 : Option Nat) (x3 : Int32) (x4 : Int32) (w : Wd), BW l D aC b0 p e rX5_collect s m args below meth c (Qe D aC b0 below args s 0 0 (some (.int res.1)) res.2) res 0 0 0 0 (f_X5_collect_27 K71 n o x2 x3 x4 w) w 27 6 [(0, va_rf (some o)), (2, va_rf x2), (3, .int x3), (4, .int x4)] [] := by
  intro n
  induction n with
  | zero =>
    intro o x2 x3 x4 w H locs cells slots ls hf
    rw [f_X5_collect_27.eq_1] at hf
    cases hf
  | succ n ih =>
    intro o x2 x3 x4 w H locs cells slots ls hf M hS hc hs hl
    rw [f_X5_collect_27.eq_2] at hf
    refine lv_iload X.1 X.2.1 dX5_collect_27 (lv_at hl 3 rfl) ?_
    refine lv_bipush (v := 8) X.1 X.2.1 dX5_collect_29 (by decide) ?_
    refine lv_icmp_ge (tgt := 71) X.1 X.2.1 dX5_collect_31 (by decide) (fun c14 => ?_) (fun c14 => ?_)
    · rw [if_pos c14] at hf
      exact hK71 x2 x3 w _ _ _ _ _ hf M hS (by omega) (by omega) (lv_sub hl [1, 2] rfl)
    · rw [if_neg c14] at hf
      refine q_aload_n X dX5_collect_34 rfl (lv_at hl 1 rfl) ?_
      refine lv_iload X.1 X.2.1 dX5_collect_35 (lv_at hl 3 rfl) ?_
      have ho := chk_e hf
      clear hf
      obtain ⟨a18, e19, k20, hf⟩ := ho
      cases e19
      have ho := bnd_e hf
      clear hf
      obtain ⟨v15, w16, q17, hf⟩ := ho
      refine q_cV X M hS hl.1 (ci := 4) (r := (RX4, TX4, 6)) (As := [.int x4]) (m_X4_bucketAt a18 x4 _ _ q17) mlX5_146 gm_344 gm_345 rfl (by decide) k20 rfl ⟨(Nat.le_of_ble_eq_true rfl), (Nat.le_of_ble_eq_true rfl)⟩ (rest := []) rfl (Nat.le_of_ble_eq_true rfl) (mc := 0) (ms := 0) (MC := 0) (MS := 0) rfl rfl rfl rfl (by omega) (by omega) dX5_collect_37 (st2 := [va_rf v15]) rfl (fun H locs M hS => ?_)
      refine q_astore (lv' := [(5, va_rf v15), (0, va_rf (some o)), (2, va_rf (some a18)), (3, .int x3), (4, .int x4)]) X dX5_collect_40 hl (by decide) rfl (fun ls hl => ?_)
      refine q_aload X dX5_collect_42 (lv_at hl 0 rfl) ?_
      refine q_ifnull (tgt := 65) X dX5_collect_44 (by decide) (fun c21 => ?_) (fun c21 => ?_)
      · rw [if_pos c21] at hf
        exact (b_X5_collect_65 X ih) o (some a18) x3 x4 w16 _ _ _ _ _ hf M hS (by omega) (by omega) (lv_sub hl [1, 2, 3, 4] rfl)
      · rw [if_neg c21] at hf
        refine q_aload X dX5_collect_47 (lv_at hl 0 rfl) ?_
        have ho := gI_e hf
        clear hf
        obtain ⟨a22, v23, e24, k25, q26, hf⟩ := ho
        cases e24
        refine q_get X M flX5_155 k25 (congrArg Value.int q26) dX5_collect_49 ?_
        refine lv_iconst (v := 1) X.1 X.2.1 dX5_collect_52 (by decide) ?_
        refine lv_icmp_ne (tgt := 65) X.1 X.2.1 dX5_collect_53 (by decide) (fun c27 => ?_) (fun c27 => ?_)
        · rw [if_neg c27] at hf
          exact (b_X5_collect_65 X ih) o (some a18) x3 x4 w16 _ _ _ _ _ hf M hS (by omega) (by omega) (lv_sub hl [1, 2, 3, 4] rfl)
        · rw [if_pos c27] at hf
          refine lv_iload_n X.1 X.2.1 dX5_collect_56 rfl (lv_at hl 3 rfl) ?_
          refine q_aload_n X dX5_collect_57 rfl (lv_at hl 1 rfl) ?_
          refine q_aload X dX5_collect_58 (lv_at hl 0 rfl) ?_
          have ho := chk_e hf
          clear hf
          obtain ⟨a31, e32, k33, hf⟩ := ho
          cases e32
          have ho := bnd_e hf
          clear hf
          obtain ⟨v28, w29, q30, hf⟩ := ho
          refine q_cV X M hS hl.1 (ci := 5) (r := (RX5, TX5, 9)) (As := [va_rf (some a22)]) (m_X5_removeDeadRecords o (some a22) _ _ q30) mlX5_183 gm_553 gm_554 rfl (by decide) k33 rfl ⟨(Nat.le_of_ble_eq_true rfl), (Nat.le_of_ble_eq_true rfl)⟩ (rest := [.int x3]) rfl (Nat.le_of_ble_eq_true rfl) (mc := 0) (ms := 0) (MC := 0) (MS := 0) rfl rfl rfl rfl (by omega) (by omega) dX5_collect_60 (st2 := [.int v28, .int x3]) rfl (fun H locs M hS => ?_)
          refine lv_iadd X.1 X.2.1 dX5_collect_63 ?_
          refine lv_istore_n (lv' := [(3, .int (x3 + v28)), (5, va_rf (some a22)), (0, va_rf (some o)), (2, va_rf (some a18)), (4, .int x4)]) X.1 X.2.1 dX5_collect_64 rfl hl (by decide) rfl (fun ls hl => ?_)
          exact (b_X5_collect_65 X ih) o (some a18) (x3 + v28) x4 w29 _ _ _ _ _ hf M hS (by omega) (by omega) (lv_sub hl [2, 3, 0, 4] rfl)
def f_X5_collect_71 (x2 : Option Nat) (x3 : Int32) (w : Wd) : Option (Int32 × Wd) := if x3 ≤ 0 then (some (x3, w)) else (pZ w x2 5 5 0 (fun w36 => some (x3, w36)))
set_option maxHeartbeats 4000000 in
set_option maxRecDepth 100000 in
theorem b_X5_collect_71 {l : Launch} {D : va_G} {aC : Nat → ClassId} {b0 : Nat} {p : Program} {e : Env} {s : State} {m : MethodId} {args : Array Value} {below : List Frame} {meth : Method} {c : Code} (X : Cx D aC p s m args meth c cX5_collect RX5 6 "collect" (some .int)) {res : (Int32 × Wd)} : ∀ (x2 : Option Nat) (x3 : Int32) (w : Wd), BW l D aC b0 p e rX5_collect s m args below meth c (Qe D aC b0 below args s 0 0 (some (.int res.1)) res.2) res 0 0 0 0 (f_X5_collect_71 x2 x3 w) w 71 6 [(2, va_rf x2), (3, .int x3)] [] := by
  intro x2 x3 w H locs cells slots ls hf M hS hc hs hl
  unfold f_X5_collect_71 at hf
  refine lv_iload_n X.1 X.2.1 dX5_collect_71 rfl (lv_at hl 1 rfl) ?_
  refine lv_if_le (tgt := 80) X.1 X.2.1 dX5_collect_72 (by decide) (fun c34 => ?_) (fun c34 => ?_)
  · rw [if_pos c34] at hf
    refine lv_iload_n X.1 X.2.1 dX5_collect_80 rfl (lv_at hl 1 rfl) ?_
    obtain rfl := Option.some.inj hf
    exact q_iret X M hS (by omega) (by omega) dX5_collect_81
  · rw [if_neg c34] at hf
    refine q_aload_n X dX5_collect_75 rfl (lv_at hl 0 rfl) ?_
    refine lv_iconst (v := 0) X.1 X.2.1 dX5_collect_76 (by decide) ?_
    have ho := pZ_e hf
    clear hf
    obtain ⟨a35, w36, e37, k38, z40, q39, hf⟩ := ho
    cases e37
    refine q_putZ X M hS flX5_161 (Or.inl rfl) k38 z40 dX5_collect_77 (fun H locs M hS => ?_)
    rw [q39] at M
    refine lv_iload_n X.1 X.2.1 dX5_collect_80 rfl (lv_at hl 1 rfl) ?_
    obtain rfl := Option.some.inj hf
    exact q_iret X M hS (by omega) (by omega) dX5_collect_81
def f_X5_collect (o : Nat) (x1 : Int32) (w : Wd) : Option (Int32 × Wd) := chk w (some o) 6 (fun a4 => bnd (f_X5_serverAt a4 x1 w) (fun v1 w2 => if v1 = none then (some ((-1), w2)) else (gI w2 v1 5 4 (fun v9 => if v9 = 0 then (some ((-3), w2)) else ((f_X5_collect_27 (f_X5_collect_71) FU) o v1 0 0 w2)))))
set_option maxHeartbeats 4000000 in
set_option maxRecDepth 100000 in
theorem e_X5_collect {l : Launch} {D : va_G} {aC : Nat → ClassId} {b0 : Nat} {p : Program} {e : Env} {s : State} {m : MethodId} {args : Array Value} {below : List Frame} {meth : Method} {c : Code} (X : Cx D aC p s m args meth c cX5_collect RX5 6 "collect" (some .int)) {res : (Int32 × Wd)} (o : Nat) (x1 : Int32) (w : Wd) : BW l D aC b0 p e rX5_collect s m args below meth c (Qe D aC b0 below args s 0 0 (some (.int res.1)) res.2) res 0 0 0 0 (f_X5_collect o x1 w) w 0 6 [(0, va_rf (some o)), (1, .int x1)] [] := by
  intro H locs cells slots ls hf M hS hc hs hl
  unfold f_X5_collect at hf
  refine q_aload_n X dX5_collect_0 rfl (lv_at hl 0 rfl) ?_
  refine lv_iload_n X.1 X.2.1 dX5_collect_1 rfl (lv_at hl 1 rfl) ?_
  have ho := chk_e hf
  clear hf
  obtain ⟨a4, e5, k6, hf⟩ := ho
  cases e5
  have ho := bnd_e hf
  clear hf
  obtain ⟨v1, w2, q3, hf⟩ := ho
  refine q_cV X M hS hl.1 (ci := 5) (r := (RX5, TX5, 9)) (As := [.int x1]) (m_X5_serverAt o x1 _ _ q3) mlX5_85 gm_294 gm_295 rfl (by decide) k6 rfl ⟨(Nat.le_of_ble_eq_true rfl), (Nat.le_of_ble_eq_true rfl)⟩ (rest := []) rfl (Nat.le_of_ble_eq_true rfl) (mc := 0) (ms := 0) (MC := 0) (MS := 0) rfl rfl rfl rfl (by omega) (by omega) dX5_collect_2 (st2 := [va_rf v1]) rfl (fun H locs M hS => ?_)
  refine q_astore_n (lv' := [(2, va_rf v1), (0, va_rf (some o)), (1, .int x1)]) X dX5_collect_5 rfl hl (by decide) rfl (fun ls hl => ?_)
  refine q_aload_n X dX5_collect_6 rfl (lv_at hl 0 rfl) ?_
  refine q_ifnonnull (tgt := 12) X dX5_collect_7 (by decide) (fun c7 => ?_) (fun c7 => ?_)
  · rw [if_neg c7] at hf
    refine q_aload_n X dX5_collect_12 rfl (lv_at hl 0 rfl) ?_
    have ho := gI_e hf
    clear hf
    obtain ⟨a8, v9, e10, k11, q12, hf⟩ := ho
    cases e10
    refine q_get X M flX5_116 k11 (congrArg Value.int q12) dX5_collect_13 ?_
    refine lv_if_ne (tgt := 22) X.1 X.2.1 dX5_collect_16 (by decide) (fun c13 => ?_) (fun c13 => ?_)
    · rw [if_neg c13] at hf
      refine lv_iconst (v := 0) X.1 X.2.1 dX5_collect_22 (by decide) ?_
      refine lv_istore_n (lv' := [(3, .int 0), (2, va_rf (some a8)), (0, va_rf (some o)), (1, .int x1)]) X.1 X.2.1 dX5_collect_23 rfl hl (by decide) rfl (fun ls hl => ?_)
      refine lv_iconst (v := 0) X.1 X.2.1 dX5_collect_24 (by decide) ?_
      refine lv_istore (lv' := [(4, .int 0), (3, .int 0), (2, va_rf (some a8)), (0, va_rf (some o)), (1, .int x1)]) X.1 X.2.1 dX5_collect_25 hl (by decide) rfl (fun ls hl => ?_)
      exact (b_X5_collect_27 X (b_X5_collect_71 X) FU) o (some a8) 0 0 w2 _ _ _ _ _ hf M hS (by omega) (by omega) (lv_sub hl [3, 2, 1, 0] rfl)
    · rw [if_pos c13] at hf
      refine lv_bipush (v := (-3)) X.1 X.2.1 dX5_collect_19 (by decide) ?_
      obtain rfl := Option.some.inj hf
      exact q_iret X M hS (by omega) (by omega) dX5_collect_21
  · rw [if_pos c7] at hf
    refine lv_iconst (v := (-1)) X.1 X.2.1 dX5_collect_10 (by decide) ?_
    obtain rfl := Option.some.inj hf
    exact q_iret X M hS (by omega) (by omega) dX5_collect_11
theorem m_X5_collect {l : Launch} {D : va_G} {aC : Nat → ClassId} {b0 : Nat} {w : Wd} (o : Nat) (x1 : Int32) (v : Int32) (w' : Wd) (hf : f_X5_collect o x1 w = some (v, w')) : Ct l D aC b0 yX5_collect (Cond.code yX5_collect cX5_collect 6 (some .int) :: Gw) rX5_collect [va_rf (some o), .int x1] w (some (.int v)) w' :=
  q_met (by decide) (Nat.le_of_ble_eq_true rfl) (fun p e s m below meth c X M ls hl => e_X5_collect X (res := (v, w')) o x1 w s.heap [] 0 0 ls hf M va_S.rf (by decide) (by decide) hl)
abbrev rX5_ticks : Room := { frames := 0, cells := 0, slots := 0, locals := 0 }
def f_X5_ticks (o : Nat) (x1 : Int32) (w : Wd) : Option (Int32 × Wd) := if x1 < 0 then (some ((-1), w)) else (if x1 ≤ 1000 then (gI w (some o) 6 4 (fun v4 => pI w (some o) 6 4 (v4 + x1) (fun w9 => gI w9 (some o) 6 4 (fun v14 => some (v14, w9))))) else (some ((-1), w)))
set_option maxHeartbeats 4000000 in
set_option maxRecDepth 100000 in
theorem e_X5_ticks {l : Launch} {D : va_G} {aC : Nat → ClassId} {b0 : Nat} {p : Program} {e : Env} {s : State} {m : MethodId} {args : Array Value} {below : List Frame} {meth : Method} {c : Code} (X : Cx D aC p s m args meth c cX5_ticks RX5 2 "ticks" (some .int)) {res : (Int32 × Wd)} (o : Nat) (x1 : Int32) (w : Wd) : BW l D aC b0 p e rX5_ticks s m args below meth c (Qe D aC b0 below args s 0 0 (some (.int res.1)) res.2) res 0 0 0 0 (f_X5_ticks o x1 w) w 0 2 [(0, va_rf (some o)), (1, .int x1)] [] := by
  intro H locs cells slots ls hf M hS hc hs hl
  unfold f_X5_ticks at hf
  refine lv_iload_n X.1 X.2.1 dX5_ticks_0 rfl (lv_at hl 1 rfl) ?_
  refine lv_if_lt (tgt := 11) X.1 X.2.1 dX5_ticks_1 (by decide) (fun c1 => ?_) (fun c1 => ?_)
  · rw [if_pos c1] at hf
    refine lv_iconst (v := (-1)) X.1 X.2.1 dX5_ticks_11 (by decide) ?_
    obtain rfl := Option.some.inj hf
    exact q_iret X M hS (by omega) (by omega) dX5_ticks_12
  · rw [if_neg c1] at hf
    refine lv_iload_n X.1 X.2.1 dX5_ticks_4 rfl (lv_at hl 1 rfl) ?_
    refine lv_sipush (v := 1000) X.1 X.2.1 dX5_ticks_5 (by decide) ?_
    refine lv_icmp_le (tgt := 13) X.1 X.2.1 dX5_ticks_8 (by decide) (fun c2 => ?_) (fun c2 => ?_)
    · rw [if_pos c2] at hf
      refine q_aload_n X dX5_ticks_13 rfl (lv_at hl 0 rfl) ?_
      refine lv_dup X.1 X.2.1 dX5_ticks_14 rfl ?_
      have ho := gI_e hf
      clear hf
      obtain ⟨a3, v4, e5, k6, q7, hf⟩ := ho
      cases e5
      refine q_get X M flX5_51 k6 (congrArg Value.int q7) dX5_ticks_15 ?_
      refine lv_iload_n X.1 X.2.1 dX5_ticks_18 rfl (lv_at hl 1 rfl) ?_
      refine lv_iadd X.1 X.2.1 dX5_ticks_19 ?_
      have ho := pI_e hf
      clear hf
      obtain ⟨a8, w9, e10, k11, q12, hf⟩ := ho
      cases e10
      refine q_putI X M hS flX5_51 (Or.inl rfl) k11 dX5_ticks_20 (fun H locs M hS => ?_)
      rw [q12] at M
      refine q_aload_n X dX5_ticks_23 rfl (lv_at hl 0 rfl) ?_
      have ho := gI_e hf
      clear hf
      obtain ⟨a13, v14, e15, k16, q17, hf⟩ := ho
      cases e15
      refine q_get X M flX5_51 k16 (congrArg Value.int q17) dX5_ticks_24 ?_
      obtain rfl := Option.some.inj hf
      exact q_iret X M hS (by omega) (by omega) dX5_ticks_27
    · rw [if_neg c2] at hf
      refine lv_iconst (v := (-1)) X.1 X.2.1 dX5_ticks_11 (by decide) ?_
      obtain rfl := Option.some.inj hf
      exact q_iret X M hS (by omega) (by omega) dX5_ticks_12
theorem m_X5_ticks {l : Launch} {D : va_G} {aC : Nat → ClassId} {b0 : Nat} {w : Wd} (o : Nat) (x1 : Int32) (v : Int32) (w' : Wd) (hf : f_X5_ticks o x1 w = some (v, w')) : Ct l D aC b0 yX5_ticks (Cond.code yX5_ticks cX5_ticks 2 (some .int) :: Gw) rX5_ticks [va_rf (some o), .int x1] w (some (.int v)) w' :=
  q_met (by decide) (Nat.le_of_ble_eq_true rfl) (fun p e s m below meth c X M ls hl => e_X5_ticks X (res := (v, w')) o x1 w s.heap [] 0 0 ls hf M va_S.rf (by decide) (by decide) hl)
abbrev rX5_oneIf : Room := { frames := 0, cells := 0, slots := 0, locals := 0 }
def f_X5_oneIf (x0 : Int32) (w : Wd) : Option (Int32 × Wd) := if x0 = 0 then (some (0, w)) else (some (1, w))
set_option maxHeartbeats 4000000 in
set_option maxRecDepth 100000 in
theorem e_X5_oneIf {l : Launch} {D : va_G} {aC : Nat → ClassId} {b0 : Nat} {p : Program} {e : Env} {s : State} {m : MethodId} {args : Array Value} {below : List Frame} {meth : Method} {c : Code} (X : Cx D aC p s m args meth c cX5_oneIf RX5 1 "oneIf" (some .int)) {res : (Int32 × Wd)} (x0 : Int32) (w : Wd) : BW l D aC b0 p e rX5_oneIf s m args below meth c (Qe D aC b0 below args s 0 0 (some (.int res.1)) res.2) res 0 0 0 0 (f_X5_oneIf x0 w) w 0 1 [(0, .int x0)] [] := by
  intro H locs cells slots ls hf M hS hc hs hl
  unfold f_X5_oneIf at hf
  refine lv_iload_n X.1 X.2.1 dX5_oneIf_0 rfl (lv_at hl 0 rfl) ?_
  refine lv_if_eq (tgt := 8) X.1 X.2.1 dX5_oneIf_1 (by decide) (fun c1 => ?_) (fun c1 => ?_)
  · rw [if_pos c1] at hf
    refine lv_iconst (v := 0) X.1 X.2.1 dX5_oneIf_8 (by decide) ?_
    obtain rfl := Option.some.inj hf
    exact q_iret X M hS (by omega) (by omega) dX5_oneIf_9
  · rw [if_neg c1] at hf
    refine lv_iconst (v := 1) X.1 X.2.1 dX5_oneIf_4 (by decide) ?_
    refine lv_goto (tgt := 9) X.1 X.2.1 dX5_oneIf_5 (by decide) ?_
    obtain rfl := Option.some.inj hf
    exact q_iret X M hS (by omega) (by omega) dX5_oneIf_9
theorem m_X5_oneIf {l : Launch} {D : va_G} {aC : Nat → ClassId} {b0 : Nat} {w : Wd} (x0 : Int32) (v : Int32) (w' : Wd) (hf : f_X5_oneIf x0 w = some (v, w')) : Ct l D aC b0 yX5_oneIf (Cond.code yX5_oneIf cX5_oneIf 1 (some .int) :: Gw) rX5_oneIf [.int x0] w (some (.int v)) w' :=
  q_met (by decide) (Nat.le_of_ble_eq_true rfl) (fun p e s m below meth c X M ls hl => e_X5_oneIf X (res := (v, w')) x0 w s.heap [] 0 0 ls hf M va_S.rf (by decide) (by decide) hl)
abbrev rX5_bucketAt : Room := { frames := 1, cells := 0, slots := 0, locals := 21 }
def f_X5_bucketAt (o : Nat) (x1 : Int32) (x2 : Int32) (w : Wd) : Option ((Option Nat) × Wd) := chk w (some o) 6 (fun a4 => bnd (f_X5_serverAt a4 x1 w) (fun v1 w2 => if v1 = none then (some (none, w2)) else (chk w2 v1 5 (fun a11 => bnd (f_X4_bucketAt a11 x2 w2) (fun v8 w9 => some (v8, w9))))))
set_option maxHeartbeats 4000000 in
set_option maxRecDepth 100000 in
theorem e_X5_bucketAt {l : Launch} {D : va_G} {aC : Nat → ClassId} {b0 : Nat} {p : Program} {e : Env} {s : State} {m : MethodId} {args : Array Value} {below : List Frame} {meth : Method} {c : Code} (X : Cx D aC p s m args meth c cX5_bucketAt RX5 4 "bucketAt" (some (.object "OnceCalls$Bucket"))) {res : ((Option Nat) × Wd)} (o : Nat) (x1 : Int32) (x2 : Int32) (w : Wd) : BW l D aC b0 p e rX5_bucketAt s m args below meth c (Qe D aC b0 below args s 0 0 (some (va_rf res.1)) res.2) res 0 0 0 0 (f_X5_bucketAt o x1 x2 w) w 0 4 [(0, va_rf (some o)), (1, .int x1), (2, .int x2)] [] := by
  intro H locs cells slots ls hf M hS hc hs hl
  unfold f_X5_bucketAt at hf
  refine q_aload_n X dX5_bucketAt_0 rfl (lv_at hl 0 rfl) ?_
  refine lv_iload_n X.1 X.2.1 dX5_bucketAt_1 rfl (lv_at hl 1 rfl) ?_
  have ho := chk_e hf
  clear hf
  obtain ⟨a4, e5, k6, hf⟩ := ho
  cases e5
  have ho := bnd_e hf
  clear hf
  obtain ⟨v1, w2, q3, hf⟩ := ho
  refine q_cV X M hS hl.1 (ci := 5) (r := (RX5, TX5, 9)) (As := [.int x1]) (m_X5_serverAt o x1 _ _ q3) mlX5_85 gm_294 gm_295 rfl (by decide) k6 rfl ⟨(Nat.le_of_ble_eq_true rfl), (Nat.le_of_ble_eq_true rfl)⟩ (rest := []) rfl (Nat.le_of_ble_eq_true rfl) (mc := 0) (ms := 0) (MC := 0) (MS := 0) rfl rfl rfl rfl (by omega) (by omega) dX5_bucketAt_2 (st2 := [va_rf v1]) rfl (fun H locs M hS => ?_)
  refine q_astore_n (lv' := [(3, va_rf v1), (0, va_rf (some o)), (1, .int x1), (2, .int x2)]) X dX5_bucketAt_5 rfl hl (by decide) rfl (fun ls hl => ?_)
  refine q_aload_n X dX5_bucketAt_6 rfl (lv_at hl 0 rfl) ?_
  refine q_ifnonnull (tgt := 14) X dX5_bucketAt_7 (by decide) (fun c7 => ?_) (fun c7 => ?_)
  · rw [if_neg c7] at hf
    refine q_aload_n X dX5_bucketAt_14 rfl (lv_at hl 0 rfl) ?_
    refine lv_iload_n X.1 X.2.1 dX5_bucketAt_15 rfl (lv_at hl 3 rfl) ?_
    have ho := chk_e hf
    clear hf
    obtain ⟨a11, e12, k13, hf⟩ := ho
    cases e12
    have ho := bnd_e hf
    clear hf
    obtain ⟨v8, w9, q10, hf⟩ := ho
    refine q_cV X M hS hl.1 (ci := 4) (r := (RX4, TX4, 6)) (As := [.int x2]) (m_X4_bucketAt a11 x2 _ _ q10) mlX5_146 gm_344 gm_345 rfl (by decide) k13 rfl ⟨(Nat.le_of_ble_eq_true rfl), (Nat.le_of_ble_eq_true rfl)⟩ (rest := []) rfl (Nat.le_of_ble_eq_true rfl) (mc := 0) (ms := 0) (MC := 0) (MS := 0) rfl rfl rfl rfl (by omega) (by omega) dX5_bucketAt_16 (st2 := [va_rf v8]) rfl (fun H locs M hS => ?_)
    obtain rfl := Option.some.inj hf
    exact q_aret X M hS (by omega) (by omega) dX5_bucketAt_19
  · rw [if_pos c7] at hf
    refine q_null X dX5_bucketAt_10 ?_
    refine lv_goto (tgt := 19) X.1 X.2.1 dX5_bucketAt_11 (by decide) ?_
    obtain rfl := Option.some.inj hf
    exact q_aret X M hS (by omega) (by omega) dX5_bucketAt_19
theorem m_X5_bucketAt {l : Launch} {D : va_G} {aC : Nat → ClassId} {b0 : Nat} {w : Wd} (o : Nat) (x1 : Int32) (x2 : Int32) (v : (Option Nat)) (w' : Wd) (hf : f_X5_bucketAt o x1 x2 w = some (v, w')) : Ct l D aC b0 yX5_bucketAt (Cond.code yX5_bucketAt cX5_bucketAt 4 (some (.object "OnceCalls$Bucket")) :: Gw) rX5_bucketAt [va_rf (some o), .int x1, .int x2] w (some (va_rf v)) w' :=
  q_met (by decide) (Nat.le_of_ble_eq_true rfl) (fun p e s m below meth c X M ls hl => e_X5_bucketAt X (res := (v, w')) o x1 x2 w s.heap [] 0 0 ls hf M va_S.rf (by decide) (by decide) hl)
