abbrev rX6_taken : Room := { frames := 0, cells := 0, slots := 0, locals := 0 }
def f_X6_taken_85 (K107 : Nat → Int32 → Wd → Option (Unit × Wd)) : Nat → Nat → Int32 → Int32 → Wd → Option (Unit × Wd)
  | 0, _, _, _, _ => none
  | n + 1, o, x2, x3, w => if 4 ≤ x3 then (K107 o x2 w) else (gR w (some o) 7 20 (fun v127 => tL w v127 101 ((4 * x2) + x3) 0 (fun w132 => (f_X6_taken_85 K107 n) o x2 (x3 + 1) w132)))
set_option maxHeartbeats 4000000 in
set_option maxRecDepth 100000 in
theorem b_X6_taken_85 {l : Launch} {D : va_G} {aC : Nat → ClassId} {b0 : Nat} {p : Program} {e : Env} {s : State} {m : MethodId} {args : Array Value} {below : List Frame} {meth : Method} {c : Code} (X : Cx D aC p s m args meth c cX6_taken RX6 4 "taken" none) {res : (Unit × Wd)} {K107 : Nat → Int32 → Wd → Option (Unit × Wd)} (hK107 : ∀ (o : Nat) (x2 : Int32) (w : Wd), BW l D aC b0 p e rX6_taken s m args below meth c (Qe D aC b0 below args s 0 0 none res.2) res 0 0 0 0 (K107 o x2 w) w 107 4 [(0, va_rf (some o)), (2, .int x2)] []) : ∀ (n : Nat) (o : Nat) (x2 : Int32) (x3 : Int32) (w : Wd), BW l D aC b0 p e rX6_taken s m args below meth c (Qe D aC b0 below args s 0 0 none res.2) res 0 0 0 0 (f_X6_taken_85 K107 n o x2 x3 w) w 85 4 [(0, va_rf (some o)), (2, .int x2), (3, .int x3)] [] := by
  intro n
  induction n with
  | zero =>
    intro o x2 x3 w H locs cells slots ls hf
    rw [f_X6_taken_85.eq_1] at hf
    cases hf
  | succ n ih =>
    intro o x2 x3 w H locs cells slots ls hf M hS hc hs hl
    rw [f_X6_taken_85.eq_2] at hf
    refine lv_iload_n X.1 X.2.1 dX6_taken_85 rfl (lv_at hl 2 rfl) ?_
    refine lv_iconst (v := 4) X.1 X.2.1 dX6_taken_86 (by decide) ?_
    refine lv_icmp_ge (tgt := 107) X.1 X.2.1 dX6_taken_87 (by decide) (fun c125 => ?_) (fun c125 => ?_)
    · rw [if_pos c125] at hf
      exact hK107 o x2 w _ _ _ _ _ hf M hS (by omega) (by omega) (lv_sub hl [0, 1] rfl)
    · rw [if_neg c125] at hf
      refine q_aload_n X dX6_taken_90 rfl (lv_at hl 0 rfl) ?_
      have ho := gR_e hf
      clear hf
      obtain ⟨a126, v127, e128, k129, q130, hf⟩ := ho
      cases e128
      refine q_get X M flX6_50.g k129 (congrArg va_rf q130) dX6_taken_91 ?_
      refine lv_iconst (v := 4) X.1 X.2.1 dX6_taken_94 (by decide) ?_
      refine lv_iload_n X.1 X.2.1 dX6_taken_95 rfl (lv_at hl 1 rfl) ?_
      refine lv_imul X.1 X.2.1 dX6_taken_96 ?_
      refine lv_iload_n X.1 X.2.1 dX6_taken_97 rfl (lv_at hl 2 rfl) ?_
      refine lv_iadd X.1 X.2.1 dX6_taken_98 ?_
      refine lv_lconst (v := 0) X.1 X.2.1 dX6_taken_99 (by decide) ?_
      have ho := tL_e hf
      clear hf
      obtain ⟨a131, w132, e133, k134, i135, q136, hf⟩ := ho
      cases e133
      refine q_last X M hS k134 i135 dX6_taken_100 (fun H locs M hS => ?_)
      rw [q136] at M
      refine lv_iinc (v := (x3 + 1)) (lv' := [(3, .int (x3 + 1)), (0, va_rf (some o)), (2, .int x2)]) X.1 X.2.1 dX6_taken_101 hl (k := 2) rfl rfl (by decide) rfl (fun ls hl => ?_)
      refine lv_goto (tgt := 85) X.1 X.2.1 dX6_taken_104 (by decide) ?_
      exact ih o x2 (x3 + 1) w132 _ _ _ _ _ hf M hS (by omega) (by omega) (lv_sub hl [1, 2, 0] rfl)
def f_X6_taken_109 : Nat → Nat → Int32 → Int32 → Wd → Option (Unit × Wd)
  | 0, _, _, _, _ => none
  | n + 1, o, x2, x3, w => if 6 ≤ x3 then (some ((), w)) else (gR w (some o) 7 26 (fun v139 => tI w v139 100 ((6 * x2) + x3) 0 (fun w144 => gR w144 (some o) 7 27 (fun v150 => tI w144 v150 100 ((6 * x2) + x3) 0 (fun w155 => (f_X6_taken_109 n) o x2 (x3 + 1) w155)))))
set_option maxHeartbeats 4000000 in
set_option maxRecDepth 100000 in
theorem b_X6_taken_109 {l : Launch} {D : va_G} {aC : Nat → ClassId} {b0 : Nat} {p : Program} {e : Env} {s : State} {m : MethodId} {args : Array Value} {below : List Frame} {meth : Method} {c : Code} (X : Cx D aC p s m args meth c cX6_taken RX6 4 "taken" none) {res : (Unit × Wd)} : ∀ (n : Nat) (o : Nat) (x2 : Int32) (x3 : Int32) (w : Wd), BW l D aC b0 p e rX6_taken s m args below meth c (Qe D aC b0 below args s 0 0 none res.2) res 0 0 0 0 (f_X6_taken_109 n o x2 x3 w) w 109 4 [(0, va_rf (some o)), (2, .int x2), (3, .int x3)] [] := by
  intro n
  induction n with
  | zero =>
    intro o x2 x3 w H locs cells slots ls hf
    rw [f_X6_taken_109.eq_1] at hf
    cases hf
  | succ n ih =>
    intro o x2 x3 w H locs cells slots ls hf M hS hc hs hl
    rw [f_X6_taken_109.eq_2] at hf
    refine lv_iload_n X.1 X.2.1 dX6_taken_109 rfl (lv_at hl 2 rfl) ?_
    refine lv_bipush (v := 6) X.1 X.2.1 dX6_taken_110 (by decide) ?_
    refine lv_icmp_ge (tgt := 145) X.1 X.2.1 dX6_taken_112 (by decide) (fun c137 => ?_) (fun c137 => ?_)
    · rw [if_pos c137] at hf
      obtain rfl := Option.some.inj hf
      exact q_vret X M hS (by omega) (by omega) dX6_taken_145
    · rw [if_neg c137] at hf
      refine q_aload_n X dX6_taken_115 rfl (lv_at hl 0 rfl) ?_
      have ho := gR_e hf
      clear hf
      obtain ⟨a138, v139, e140, k141, q142, hf⟩ := ho
      cases e140
      refine q_get X M flX6_68.g k141 (congrArg va_rf q142) dX6_taken_116 ?_
      refine lv_bipush (v := 6) X.1 X.2.1 dX6_taken_119 (by decide) ?_
      refine lv_iload_n X.1 X.2.1 dX6_taken_121 rfl (lv_at hl 1 rfl) ?_
      refine lv_imul X.1 X.2.1 dX6_taken_122 ?_
      refine lv_iload_n X.1 X.2.1 dX6_taken_123 rfl (lv_at hl 2 rfl) ?_
      refine lv_iadd X.1 X.2.1 dX6_taken_124 ?_
      refine lv_iconst (v := 0) X.1 X.2.1 dX6_taken_125 (by decide) ?_
      have ho := tI_e hf
      clear hf
      obtain ⟨a143, w144, e145, k146, i147, q148, hf⟩ := ho
      cases e145
      refine q_iast X M hS k146 i147 dX6_taken_126 (fun H locs M hS => ?_)
      rw [q148] at M
      refine q_aload_n X dX6_taken_127 rfl (lv_at hl 0 rfl) ?_
      have ho := gR_e hf
      clear hf
      obtain ⟨a149, v150, e151, k152, q153, hf⟩ := ho
      cases e151
      refine q_get X M flX6_71.g k152 (congrArg va_rf q153) dX6_taken_128 ?_
      refine lv_bipush (v := 6) X.1 X.2.1 dX6_taken_131 (by decide) ?_
      refine lv_iload_n X.1 X.2.1 dX6_taken_133 rfl (lv_at hl 1 rfl) ?_
      refine lv_imul X.1 X.2.1 dX6_taken_134 ?_
      refine lv_iload_n X.1 X.2.1 dX6_taken_135 rfl (lv_at hl 2 rfl) ?_
      refine lv_iadd X.1 X.2.1 dX6_taken_136 ?_
      refine lv_iconst (v := 0) X.1 X.2.1 dX6_taken_137 (by decide) ?_
      have ho := tI_e hf
      clear hf
      obtain ⟨a154, w155, e156, k157, i158, q159, hf⟩ := ho
      cases e156
      refine q_iast X M hS k157 i158 dX6_taken_138 (fun H locs M hS => ?_)
      rw [q159] at M
      refine lv_iinc (v := (x3 + 1)) (lv' := [(3, .int (x3 + 1)), (0, va_rf (some o)), (2, .int x2)]) X.1 X.2.1 dX6_taken_139 hl (k := 2) rfl rfl (by decide) rfl (fun ls hl => ?_)
      refine lv_goto (tgt := 109) X.1 X.2.1 dX6_taken_142 (by decide) ?_
      exact ih o x2 (x3 + 1) w155 _ _ _ _ _ hf M hS (by omega) (by omega) (lv_sub hl [1, 2, 0] rfl)
def f_X6_taken_107 (o : Nat) (x2 : Int32) (w : Wd) : Option (Unit × Wd) := (f_X6_taken_109 FU) o x2 0 w
set_option maxHeartbeats 4000000 in
set_option maxRecDepth 100000 in
theorem b_X6_taken_107 {l : Launch} {D : va_G} {aC : Nat → ClassId} {b0 : Nat} {p : Program} {e : Env} {s : State} {m : MethodId} {args : Array Value} {below : List Frame} {meth : Method} {c : Code} (X : Cx D aC p s m args meth c cX6_taken RX6 4 "taken" none) {res : (Unit × Wd)} : ∀ (o : Nat) (x2 : Int32) (w : Wd), BW l D aC b0 p e rX6_taken s m args below meth c (Qe D aC b0 below args s 0 0 none res.2) res 0 0 0 0 (f_X6_taken_107 o x2 w) w 107 4 [(0, va_rf (some o)), (2, .int x2)] [] := by
  intro o x2 w H locs cells slots ls hf M hS hc hs hl
  unfold f_X6_taken_107 at hf
  refine lv_iconst (v := 0) X.1 X.2.1 dX6_taken_107 (by decide) ?_
  refine lv_istore_n (i := 3) (lv' := [(3, .int 0), (0, va_rf (some o)), (2, .int x2)]) X.1 X.2.1 dX6_taken_108 rfl hl (by decide) rfl (fun ls hl => ?_)
  exact (b_X6_taken_109 X FU) o x2 0 w _ _ _ _ _ hf M hS (by omega) (by omega) (lv_sub hl [1, 2, 0] rfl)
def f_X6_taken (o : Nat) (x1 : Int32) (w : Wd) : Option (Unit × Wd) := gR w (some o) 7 32 (fun v2 => aI w v2 100 x1 (fun v7 => gR w (some o) 7 37 (fun v13 => aI w v13 100 x1 (fun v18 => gR w (some o) 7 17 (fun v24 => aI w v24 100 ((16 * v7) + v18) (fun v29 => if v29 = 2 then (gR w (some o) 7 18 (fun v36 => aI w v36 100 ((16 * v7) + v18) (fun v41 => gR w (some o) 7 34 (fun v47 => aI w v47 100 x1 (fun v52 => if v41 = (v52 - 1) then (gR w (some o) 7 29 (fun v59 => gR w (some o) 7 32 (fun v64 => aI w v64 100 x1 (fun v69 => tZ w v59 102 v69 1 (fun w75 => gR w75 (some o) 7 17 (fun v82 => tI w75 v82 100 ((16 * v7) + v18) 0 (fun w87 => gR w87 (some o) 7 18 (fun v93 => gR w87 (some o) 7 34 (fun v98 => aI w87 v98 100 x1 (fun v103 => tI w87 v93 100 ((16 * v7) + v18) v103 (fun w109 => gR w109 (some o) 7 21 (fun v115 => tI w109 v115 100 ((16 * v7) + v18) 0 (fun w120 => (f_X6_taken_85 (f_X6_taken_107) FU) o ((16 * v7) + v18) 0 w120))))))))))))) else (some ((), w))))))) else (some ((), w))))))))
set_option maxHeartbeats 4000000 in
set_option maxRecDepth 100000 in
theorem e_X6_taken {l : Launch} {D : va_G} {aC : Nat → ClassId} {b0 : Nat} {p : Program} {e : Env} {s : State} {m : MethodId} {args : Array Value} {below : List Frame} {meth : Method} {c : Code} (X : Cx D aC p s m args meth c cX6_taken RX6 4 "taken" none) {res : (Unit × Wd)} (o : Nat) (x1 : Int32) (w : Wd) : BW l D aC b0 p e rX6_taken s m args below meth c (Qe D aC b0 below args s 0 0 none res.2) res 0 0 0 0 (f_X6_taken o x1 w) w 0 4 [(0, va_rf (some o)), (1, .int x1)] [] := by
  intro H locs cells slots ls hf M hS hc hs hl
  unfold f_X6_taken at hf
  refine lv_bipush (v := 16) X.1 X.2.1 dX6_taken_0 (by decide) ?_
  refine q_aload_n X dX6_taken_2 rfl (lv_at hl 0 rfl) ?_
  have ho := gR_e hf
  clear hf
  obtain ⟨a1, v2, e3, k4, q5, hf⟩ := ho
  cases e3
  refine q_get X M flX6_87.g k4 (congrArg va_rf q5) dX6_taken_3 ?_
  refine lv_iload_n X.1 X.2.1 dX6_taken_6 rfl (lv_at hl 1 rfl) ?_
  have ho := aI_e hf
  clear hf
  obtain ⟨a6, v7, e8, k9, i10, q11, hf⟩ := ho
  cases e8
  refine q_iald X M k9 i10 dX6_taken_7 ?_
  rw [q11]
  refine lv_imul X.1 X.2.1 dX6_taken_8 ?_
  refine q_aload_n X dX6_taken_9 rfl (lv_at hl 0 rfl) ?_
  have ho := gR_e hf
  clear hf
  obtain ⟨a12, v13, e14, k15, q16, hf⟩ := ho
  cases e14
  refine q_get X M flX6_102.g k15 (congrArg va_rf q16) dX6_taken_10 ?_
  refine lv_iload_n X.1 X.2.1 dX6_taken_13 rfl (lv_at hl 1 rfl) ?_
  have ho := aI_e hf
  clear hf
  obtain ⟨a17, v18, e19, k20, i21, q22, hf⟩ := ho
  cases e19
  refine q_iald X M k20 i21 dX6_taken_14 ?_
  rw [q22]
  refine lv_iadd X.1 X.2.1 dX6_taken_15 ?_
  refine lv_istore_n (i := 2) (lv' := [(2, .int ((16 * v7) + v18)), (0, va_rf (some o)), (1, .int x1)]) X.1 X.2.1 dX6_taken_16 rfl hl (by decide) rfl (fun ls hl => ?_)
  refine q_aload_n X dX6_taken_17 rfl (lv_at hl 1 rfl) ?_
  have ho := gR_e hf
  clear hf
  obtain ⟨a23, v24, e25, k26, q27, hf⟩ := ho
  cases e25
  refine q_get X M flX6_41.g k26 (congrArg va_rf q27) dX6_taken_18 ?_
  refine lv_iload_n X.1 X.2.1 dX6_taken_21 rfl (lv_at hl 0 rfl) ?_
  have ho := aI_e hf
  clear hf
  obtain ⟨a28, v29, e30, k31, i32, q33, hf⟩ := ho
  cases e30
  refine q_iald X M k31 i32 dX6_taken_22 ?_
  rw [q33]
  refine lv_iconst (v := 2) X.1 X.2.1 dX6_taken_23 (by decide) ?_
  refine lv_icmp_ne (tgt := 44) X.1 X.2.1 dX6_taken_24 (by decide) (fun c34 => ?_) (fun c34 => ?_)
  · rw [if_neg c34] at hf
    obtain rfl := Option.some.inj hf
    exact q_vret X M hS (by omega) (by omega) dX6_taken_44
  · rw [if_pos c34] at hf
    refine q_aload_n X dX6_taken_27 rfl (lv_at hl 1 rfl) ?_
    have ho := gR_e hf
    clear hf
    obtain ⟨a35, v36, e37, k38, q39, hf⟩ := ho
    cases e37
    refine q_get X M flX6_44.g k38 (congrArg va_rf q39) dX6_taken_28 ?_
    refine lv_iload_n X.1 X.2.1 dX6_taken_31 rfl (lv_at hl 0 rfl) ?_
    have ho := aI_e hf
    clear hf
    obtain ⟨a40, v41, e42, k43, i44, q45, hf⟩ := ho
    cases e42
    refine q_iald X M k43 i44 dX6_taken_32 ?_
    rw [q45]
    refine q_aload_n X dX6_taken_33 rfl (lv_at hl 1 rfl) ?_
    have ho := gR_e hf
    clear hf
    obtain ⟨a46, v47, e48, k49, q50, hf⟩ := ho
    cases e48
    refine q_get X M flX6_93.g k49 (congrArg va_rf q50) dX6_taken_34 ?_
    refine lv_iload_n X.1 X.2.1 dX6_taken_37 rfl (lv_at hl 2 rfl) ?_
    have ho := aI_e hf
    clear hf
    obtain ⟨a51, v52, e53, k54, i55, q56, hf⟩ := ho
    cases e53
    refine q_iald X M k54 i55 dX6_taken_38 ?_
    rw [q56]
    refine lv_iconst (v := 1) X.1 X.2.1 dX6_taken_39 (by decide) ?_
    refine lv_isub X.1 X.2.1 dX6_taken_40 ?_
    refine lv_icmp_eq (tgt := 45) X.1 X.2.1 dX6_taken_41 (by decide) (fun c57 => ?_) (fun c57 => ?_)
    · rw [if_pos c57] at hf
      refine q_aload_n X dX6_taken_45 rfl (lv_at hl 1 rfl) ?_
      have ho := gR_e hf
      clear hf
      obtain ⟨a58, v59, e60, k61, q62, hf⟩ := ho
      cases e60
      refine q_get X M flX6_78.g k61 (congrArg va_rf q62) dX6_taken_46 ?_
      refine q_aload_n X dX6_taken_49 rfl (lv_at hl 1 rfl) ?_
      have ho := gR_e hf
      clear hf
      obtain ⟨a63, v64, e65, k66, q67, hf⟩ := ho
      cases e65
      refine q_get X M flX6_87.g k66 (congrArg va_rf q67) dX6_taken_50 ?_
      refine lv_iload_n X.1 X.2.1 dX6_taken_53 rfl (lv_at hl 2 rfl) ?_
      have ho := aI_e hf
      clear hf
      obtain ⟨a68, v69, e70, k71, i72, q73, hf⟩ := ho
      cases e70
      refine q_iald X M k71 i72 dX6_taken_54 ?_
      rw [q73]
      refine lv_iconst (v := 1) X.1 X.2.1 dX6_taken_55 (by decide) ?_
      have ho := tZ_e hf
      clear hf
      obtain ⟨a74, w75, e76, k77, i78, z80, q79, hf⟩ := ho
      cases e76
      refine q_zast X M hS k77 z80 i78 dX6_taken_56 (fun H locs M hS => ?_)
      rw [q79] at M
      refine q_aload_n X dX6_taken_57 rfl (lv_at hl 1 rfl) ?_
      have ho := gR_e hf
      clear hf
      obtain ⟨a81, v82, e83, k84, q85, hf⟩ := ho
      cases e83
      refine q_get X M flX6_41.g k84 (congrArg va_rf q85) dX6_taken_58 ?_
      refine lv_iload_n X.1 X.2.1 dX6_taken_61 rfl (lv_at hl 0 rfl) ?_
      refine lv_iconst (v := 0) X.1 X.2.1 dX6_taken_62 (by decide) ?_
      have ho := tI_e hf
      clear hf
      obtain ⟨a86, w87, e88, k89, i90, q91, hf⟩ := ho
      cases e88
      refine q_iast X M hS k89 i90 dX6_taken_63 (fun H locs M hS => ?_)
      rw [q91] at M
      refine q_aload_n X dX6_taken_64 rfl (lv_at hl 1 rfl) ?_
      have ho := gR_e hf
      clear hf
      obtain ⟨a92, v93, e94, k95, q96, hf⟩ := ho
      cases e94
      refine q_get X M flX6_44.g k95 (congrArg va_rf q96) dX6_taken_65 ?_
      refine lv_iload_n X.1 X.2.1 dX6_taken_68 rfl (lv_at hl 0 rfl) ?_
      refine q_aload_n X dX6_taken_69 rfl (lv_at hl 1 rfl) ?_
      have ho := gR_e hf
      clear hf
      obtain ⟨a97, v98, e99, k100, q101, hf⟩ := ho
      cases e99
      refine q_get X M flX6_93.g k100 (congrArg va_rf q101) dX6_taken_70 ?_
      refine lv_iload_n X.1 X.2.1 dX6_taken_73 rfl (lv_at hl 2 rfl) ?_
      have ho := aI_e hf
      clear hf
      obtain ⟨a102, v103, e104, k105, i106, q107, hf⟩ := ho
      cases e104
      refine q_iald X M k105 i106 dX6_taken_74 ?_
      rw [q107]
      have ho := tI_e hf
      clear hf
      obtain ⟨a108, w109, e110, k111, i112, q113, hf⟩ := ho
      cases e110
      refine q_iast X M hS k111 i112 dX6_taken_75 (fun H locs M hS => ?_)
      rw [q113] at M
      refine q_aload_n X dX6_taken_76 rfl (lv_at hl 1 rfl) ?_
      have ho := gR_e hf
      clear hf
      obtain ⟨a114, v115, e116, k117, q118, hf⟩ := ho
      cases e116
      refine q_get X M flX6_53.g k117 (congrArg va_rf q118) dX6_taken_77 ?_
      refine lv_iload_n X.1 X.2.1 dX6_taken_80 rfl (lv_at hl 0 rfl) ?_
      refine lv_iconst (v := 0) X.1 X.2.1 dX6_taken_81 (by decide) ?_
      have ho := tI_e hf
      clear hf
      obtain ⟨a119, w120, e121, k122, i123, q124, hf⟩ := ho
      cases e121
      refine q_iast X M hS k122 i123 dX6_taken_82 (fun H locs M hS => ?_)
      rw [q124] at M
      refine lv_iconst (v := 0) X.1 X.2.1 dX6_taken_83 (by decide) ?_
      refine lv_istore_n (i := 3) (lv' := [(3, .int 0), (2, .int ((16 * v7) + v18)), (0, va_rf (some o)), (1, .int x1)]) X.1 X.2.1 dX6_taken_84 rfl hl (by decide) rfl (fun ls hl => ?_)
      exact (b_X6_taken_85 X (b_X6_taken_107 X) FU) o ((16 * v7) + v18) 0 w120 _ _ _ _ _ hf M hS (by omega) (by omega) (lv_sub hl [2, 1, 0] rfl)
    · rw [if_neg c57] at hf
      obtain rfl := Option.some.inj hf
      exact q_vret X M hS (by omega) (by omega) dX6_taken_44
theorem m_X6_taken {l : Launch} {D : va_G} {aC : Nat → ClassId} {b0 : Nat} {w : Wd} (o : Nat) (x1 : Int32) (v : Unit) (w' : Wd) (hf : f_X6_taken o x1 w = some (v, w')) : Ct l D aC b0 yX6_taken (Cond.code yX6_taken cX6_taken 4 none :: Gw) rX6_taken [va_rf (some o), .int x1] w none w' :=
  q_met (by decide) (Nat.le_of_ble_eq_true rfl) (fun p e s m below meth c X M ls hl => e_X6_taken X (res := (v, w')) o x1 w s.heap [] 0 0 ls hf M va_S.rf (by decide) (by decide) hl)
abbrev rX6_deliver : Room := { frames := 4, cells := 0, slots := 0, locals := 96 }
def f_X6_deliver_203 (K135 : Nat → Int32 → Int32 → Int32 → Wd → Option (Int32 × Wd)) (o : Nat) (x2 : Int32) (x3 : Int32) (x4 : Int32) (w : Wd) : Option (Int32 × Wd) := K135 o x2 x3 (x4 + 1) w
set_option maxHeartbeats 4000000 in
set_option maxRecDepth 100000 in
theorem b_X6_deliver_203 {l : Launch} {D : va_G} {aC : Nat → ClassId} {b0 : Nat} {p : Program} {e : Env} {s : State} {m : MethodId} {args : Array Value} {below : List Frame} {meth : Method} {c : Code} (X : Cx D aC p s m args meth c cX6_deliver RX6 5 "deliver" (some .int)) {res : (Int32 × Wd)} {K135 : Nat → Int32 → Int32 → Int32 → Wd → Option (Int32 × Wd)} (hK135 : ∀ (o : Nat) (x2 : Int32) (x3 : Int32) (x4 : Int32) (w : Wd), BW l D aC b0 p e rX6_deliver s m args below meth c (Qe D aC b0 below args s 0 0 (some (.int res.1)) res.2) res 0 0 0 0 (K135 o x2 x3 x4 w) w 135 5 [(0, va_rf (some o)), (2, .int x2), (3, .int x3), (4, .int x4)] []) : ∀ (o : Nat) (x2 : Int32) (x3 : Int32) (x4 : Int32) (w : Wd), BW l D aC b0 p e rX6_deliver s m args below meth c (Qe D aC b0 below args s 0 0 (some (.int res.1)) res.2) res 0 0 0 0 (f_X6_deliver_203 K135 o x2 x3 x4 w) w 203 5 [(0, va_rf (some o)), (2, .int x2), (3, .int x3), (4, .int x4)] [] := by
  intro o x2 x3 x4 w H locs cells slots ls hf M hS hc hs hl
  unfold f_X6_deliver_203 at hf
  refine lv_iinc (v := (x4 + 1)) (lv' := [(4, .int (x4 + 1)), (0, va_rf (some o)), (2, .int x2), (3, .int x3)]) X.1 X.2.1 dX6_deliver_203 hl (k := 3) rfl rfl (by decide) rfl (fun ls hl => ?_)
  refine lv_goto (tgt := 135) X.1 X.2.1 dX6_deliver_206 (by decide) ?_
  exact hK135 o x2 x3 (x4 + 1) w _ _ _ _ _ hf M hS (by omega) (by omega) (lv_sub hl [1, 2, 3, 0] rfl)
def f_X6_deliver_135 : Nat → Nat → Int32 → Int32 → Int32 → Wd → Option (Int32 × Wd)
  | 0, _, _, _, _, _ => none
  | n + 1, o, x2, x3, x4, w => if 8 ≤ x4 then (gR w (some o) 7 30 (fun v106 => tZ w v106 102 x2 0 (fun w111 => some (x3, w111)))) else (gR w (some o) 7 17 (fun v118 => gR w (some o) 7 32 (fun v123 => aI w v123 100 x2 (fun v128 => aI w v118 100 ((16 * v128) + x4) (fun v134 => if v134 = 1 then (gR w (some o) 7 32 (fun v141 => aI w v141 100 x2 (fun v146 => gR w (some o) 7 32 (fun v152 => aI w v152 100 x2 (fun v157 => gR w (some o) 7 33 (fun v163 => aI w v163 100 x2 (fun v168 => gR w (some o) 7 34 (fun v174 => aI w v174 100 x2 (fun v179 => gR w (some o) 7 35 (fun v185 => aI w v185 100 x2 (fun v190 => chk w (some o) 7 (fun a198 => bnd (f_X6_know a198 v146 ((16 * v157) + x4) v168 v179 v190 w) (fun v195 w196 => (f_X6_deliver_203 (f_X6_deliver_135 n)) o x2 x3 x4 w196))))))))))))) else ((f_X6_deliver_203 (f_X6_deliver_135 n)) o x2 x3 x4 w))))))
set_option maxHeartbeats 4000000 in
set_option maxRecDepth 100000 in
theorem b_X6_deliver_135 {l : Launch} {D : va_G} {aC : Nat → ClassId} {b0 : Nat} {p : Program} {e : Env} {s : State} {m : MethodId} {args : Array Value} {below : List Frame} {meth : Method} {c : Code} (X : Cx D aC p s m args meth c cX6_deliver RX6 5 "deliver" (some .int)) {res : (Int32 × Wd)} : ∀ (n : Nat) (o : Nat) (x2 : Int32) (x3 : Int32) (x4 : Int32) (w : Wd), BW l D aC b0 p e rX6_deliver s m args below meth c (Qe D aC b0 below args s 0 0 (some (.int res.1)) res.2) res 0 0 0 0 (f_X6_deliver_135 n o x2 x3 x4 w) w 135 5 [(0, va_rf (some o)), (2, .int x2), (3, .int x3), (4, .int x4)] [] := by
  intro n
  induction n with
  | zero =>
    intro o x2 x3 x4 w H locs cells slots ls hf
    rw [f_X6_deliver_135.eq_1] at hf
    cases hf
  | succ n ih =>
    intro o x2 x3 x4 w H locs cells slots ls hf M hS hc hs hl
    rw [f_X6_deliver_135.eq_2] at hf
    refine lv_iload X.1 X.2.1 dX6_deliver_135 (lv_at hl 3 rfl) ?_
    refine lv_bipush (v := 8) X.1 X.2.1 dX6_deliver_137 (by decide) ?_
    refine lv_icmp_ge (tgt := 209) X.1 X.2.1 dX6_deliver_139 (by decide) (fun c104 => ?_) (fun c104 => ?_)
    · rw [if_pos c104] at hf
      refine q_aload_n X dX6_deliver_209 rfl (lv_at hl 0 rfl) ?_
      have ho := gR_e hf
      clear hf
      obtain ⟨a105, v106, e107, k108, q109, hf⟩ := ho
      cases e107
      refine q_get X M flX6_81.g k108 (congrArg va_rf q109) dX6_deliver_210 ?_
      refine lv_iload_n X.1 X.2.1 dX6_deliver_213 rfl (lv_at hl 1 rfl) ?_
      refine lv_iconst (v := 0) X.1 X.2.1 dX6_deliver_214 (by decide) ?_
      have ho := tZ_e hf
      clear hf
      obtain ⟨a110, w111, e112, k113, i114, z116, q115, hf⟩ := ho
      cases e112
      refine q_zast X M hS k113 z116 i114 dX6_deliver_215 (fun H locs M hS => ?_)
      rw [q115] at M
      refine lv_iload_n X.1 X.2.1 dX6_deliver_216 rfl (lv_at hl 2 rfl) ?_
      obtain rfl := Option.some.inj hf
      exact q_iret X M hS (by omega) (by omega) dX6_deliver_217
    · rw [if_neg c104] at hf
      refine q_aload_n X dX6_deliver_142 rfl (lv_at hl 0 rfl) ?_
      have ho := gR_e hf
      clear hf
      obtain ⟨a117, v118, e119, k120, q121, hf⟩ := ho
      cases e119
      refine q_get X M flX6_41.g k120 (congrArg va_rf q121) dX6_deliver_143 ?_
      refine lv_bipush (v := 16) X.1 X.2.1 dX6_deliver_146 (by decide) ?_
      refine q_aload_n X dX6_deliver_148 rfl (lv_at hl 0 rfl) ?_
      have ho := gR_e hf
      clear hf
      obtain ⟨a122, v123, e124, k125, q126, hf⟩ := ho
      cases e124
      refine q_get X M flX6_87.g k125 (congrArg va_rf q126) dX6_deliver_149 ?_
      refine lv_iload_n X.1 X.2.1 dX6_deliver_152 rfl (lv_at hl 1 rfl) ?_
      have ho := aI_e hf
      clear hf
      obtain ⟨a127, v128, e129, k130, i131, q132, hf⟩ := ho
      cases e129
      refine q_iald X M k130 i131 dX6_deliver_153 ?_
      rw [q132]
      refine lv_imul X.1 X.2.1 dX6_deliver_154 ?_
      refine lv_iload X.1 X.2.1 dX6_deliver_155 (lv_at hl 3 rfl) ?_
      refine lv_iadd X.1 X.2.1 dX6_deliver_157 ?_
      have ho := aI_e hf
      clear hf
      obtain ⟨a133, v134, e135, k136, i137, q138, hf⟩ := ho
      cases e135
      refine q_iald X M k136 i137 dX6_deliver_158 ?_
      rw [q138]
      refine lv_iconst (v := 1) X.1 X.2.1 dX6_deliver_159 (by decide) ?_
      refine lv_icmp_ne (tgt := 203) X.1 X.2.1 dX6_deliver_160 (by decide) (fun c139 => ?_) (fun c139 => ?_)
      · rw [if_neg c139] at hf
        exact (b_X6_deliver_203 X ih) o x2 x3 x4 w _ _ _ _ _ hf M hS (by omega) (by omega) (lv_sub hl [0, 1, 2, 3] rfl)
      · rw [if_pos c139] at hf
        refine q_aload_n X dX6_deliver_163 rfl (lv_at hl 0 rfl) ?_
        refine q_aload_n X dX6_deliver_164 rfl (lv_at hl 0 rfl) ?_
        have ho := gR_e hf
        clear hf
        obtain ⟨a140, v141, e142, k143, q144, hf⟩ := ho
        cases e142
        refine q_get X M flX6_87.g k143 (congrArg va_rf q144) dX6_deliver_165 ?_
        refine lv_iload_n X.1 X.2.1 dX6_deliver_168 rfl (lv_at hl 1 rfl) ?_
        have ho := aI_e hf
        clear hf
        obtain ⟨a145, v146, e147, k148, i149, q150, hf⟩ := ho
        cases e147
        refine q_iald X M k148 i149 dX6_deliver_169 ?_
        rw [q150]
        refine lv_bipush (v := 16) X.1 X.2.1 dX6_deliver_170 (by decide) ?_
        refine q_aload_n X dX6_deliver_172 rfl (lv_at hl 0 rfl) ?_
        have ho := gR_e hf
        clear hf
        obtain ⟨a151, v152, e153, k154, q155, hf⟩ := ho
        cases e153
        refine q_get X M flX6_87.g k154 (congrArg va_rf q155) dX6_deliver_173 ?_
        refine lv_iload_n X.1 X.2.1 dX6_deliver_176 rfl (lv_at hl 1 rfl) ?_
        have ho := aI_e hf
        clear hf
        obtain ⟨a156, v157, e158, k159, i160, q161, hf⟩ := ho
        cases e158
        refine q_iald X M k159 i160 dX6_deliver_177 ?_
        rw [q161]
        refine lv_imul X.1 X.2.1 dX6_deliver_178 ?_
        refine lv_iload X.1 X.2.1 dX6_deliver_179 (lv_at hl 3 rfl) ?_
        refine lv_iadd X.1 X.2.1 dX6_deliver_181 ?_
        refine q_aload_n X dX6_deliver_182 rfl (lv_at hl 0 rfl) ?_
        have ho := gR_e hf
        clear hf
        obtain ⟨a162, v163, e164, k165, q166, hf⟩ := ho
        cases e164
        refine q_get X M flX6_90.g k165 (congrArg va_rf q166) dX6_deliver_183 ?_
        refine lv_iload_n X.1 X.2.1 dX6_deliver_186 rfl (lv_at hl 1 rfl) ?_
        have ho := aI_e hf
        clear hf
        obtain ⟨a167, v168, e169, k170, i171, q172, hf⟩ := ho
        cases e169
        refine q_iald X M k170 i171 dX6_deliver_187 ?_
        rw [q172]
        refine q_aload_n X dX6_deliver_188 rfl (lv_at hl 0 rfl) ?_
        have ho := gR_e hf
        clear hf
        obtain ⟨a173, v174, e175, k176, q177, hf⟩ := ho
        cases e175
        refine q_get X M flX6_93.g k176 (congrArg va_rf q177) dX6_deliver_189 ?_
        refine lv_iload_n X.1 X.2.1 dX6_deliver_192 rfl (lv_at hl 1 rfl) ?_
        have ho := aI_e hf
        clear hf
        obtain ⟨a178, v179, e180, k181, i182, q183, hf⟩ := ho
        cases e180
        refine q_iald X M k181 i182 dX6_deliver_193 ?_
        rw [q183]
        refine q_aload_n X dX6_deliver_194 rfl (lv_at hl 0 rfl) ?_
        have ho := gR_e hf
        clear hf
        obtain ⟨a184, v185, e186, k187, q188, hf⟩ := ho
        cases e186
        refine q_get X M flX6_96.g k187 (congrArg va_rf q188) dX6_deliver_195 ?_
        refine lv_iload_n X.1 X.2.1 dX6_deliver_198 rfl (lv_at hl 1 rfl) ?_
        have ho := aI_e hf
        clear hf
        obtain ⟨a189, v190, e191, k192, i193, q194, hf⟩ := ho
        cases e191
        refine q_iald X M k192 i193 dX6_deliver_199 ?_
        rw [q194]
        have ho := chk_e hf
        clear hf
        obtain ⟨a198, e199, k200, hf⟩ := ho
        cases e199
        have ho := bnd_e hf
        clear hf
        obtain ⟨v195, w196, q197, hf⟩ := ho
        refine q_cV X M hS hl.1 (ci := 6) (r := (RX6, TX6, 53)) (As := [.int v146, .int ((16 * v157) + x4), .int v168, .int v179, .int v190]) (m_X6_know o v146 ((16 * v157) + x4) v168 v179 v190 _ _ q197) mlX6_217 gm_454 gm_455 rfl (by decide) k200 rfl ⟨(Nat.le_of_ble_eq_true rfl), (Nat.le_of_ble_eq_true rfl)⟩ (rest := []) rfl (Nat.le_of_ble_eq_true rfl) (mc := 0) (ms := 0) (MC := 0) (MS := 0) rfl rfl rfl rfl (by omega) (by omega) dX6_deliver_200 (st2 := []) rfl (fun H locs M hS => ?_)
        exact (b_X6_deliver_203 X ih) o x2 x3 x4 w196 _ _ _ _ _ hf M hS (by omega) (by omega) (lv_sub hl [0, 1, 2, 3] rfl)
def f_X6_deliver_70 (o : Nat) (x2 : Int32) (x3 : Int32) (w : Wd) : Option (Int32 × Wd) := if x3 = 1 then (chk w (some o) 7 (fun a32 => bnd (f_X6_asked a32 x2 w) (fun v29 w30 => gR w30 (some o) 7 30 (fun v36 => tZ w30 v36 102 x2 0 (fun w41 => some (x3, w41)))))) else if x3 = 2 then (chk w (some o) 7 (fun a51 => bnd (f_X6_answered a51 x2 w) (fun v48 w49 => gR w49 (some o) 7 30 (fun v55 => tZ w49 v55 102 x2 0 (fun w60 => some (x3, w60)))))) else if x3 = 3 then (chk w (some o) 7 (fun a70 => bnd (f_X6_moved a70 x2 w) (fun v67 w68 => gR w68 (some o) 7 30 (fun v74 => tZ w68 v74 102 x2 0 (fun w79 => some (x3, w79)))))) else if x3 = 4 then (chk w (some o) 7 (fun a89 => bnd (f_X6_taken a89 x2 w) (fun v86 w87 => gR w87 (some o) 7 30 (fun v93 => tZ w87 v93 102 x2 0 (fun w98 => some (x3, w98)))))) else ((f_X6_deliver_135 FU) o x2 x3 0 w)
set_option maxHeartbeats 4000000 in
set_option maxRecDepth 100000 in
theorem b_X6_deliver_70 {l : Launch} {D : va_G} {aC : Nat → ClassId} {b0 : Nat} {p : Program} {e : Env} {s : State} {m : MethodId} {args : Array Value} {below : List Frame} {meth : Method} {c : Code} (X : Cx D aC p s m args meth c cX6_deliver RX6 5 "deliver" (some .int)) {res : (Int32 × Wd)} : ∀ (o : Nat) (x2 : Int32) (x3 : Int32) (w : Wd), BW l D aC b0 p e rX6_deliver s m args below meth c (Qe D aC b0 below args s 0 0 (some (.int res.1)) res.2) res 0 0 0 0 (f_X6_deliver_70 o x2 x3 w) w 70 5 [(0, va_rf (some o)), (2, .int x2), (3, .int x3)] [] := by
  intro o x2 x3 w H locs cells slots ls hf M hS hc hs hl
  unfold f_X6_deliver_70 at hf
  refine lv_iload_n X.1 X.2.1 dX6_deliver_70 rfl (lv_at hl 2 rfl) ?_
  by_cases c28 : x3 = 1
  · rw [if_pos c28] at hf
    refine lv_tableIn (tgt := 100) (off := 29) X.1 X.2.1 dX6_deliver_71 (by rw [c28]; decide) (by rw [c28]; decide) (by rw [c28]; rfl) (by decide) ?_
    refine q_aload_n X dX6_deliver_100 rfl (lv_at hl 0 rfl) ?_
    refine lv_iload_n X.1 X.2.1 dX6_deliver_101 rfl (lv_at hl 1 rfl) ?_
    have ho := chk_e hf
    clear hf
    obtain ⟨a32, e33, k34, hf⟩ := ho
    cases e33
    have ho := bnd_e hf
    clear hf
    obtain ⟨v29, w30, q31, hf⟩ := ho
    refine q_cV X M hS hl.1 (ci := 6) (r := (RX6, TX6, 53)) (As := [.int x2]) (m_X6_asked o x2 _ _ q31) mlX6_231 gm_441 gm_442 rfl (by decide) k34 rfl ⟨(Nat.le_of_ble_eq_true rfl), (Nat.le_of_ble_eq_true rfl)⟩ (rest := []) rfl (Nat.le_of_ble_eq_true rfl) (mc := 0) (ms := 0) (MC := 0) (MS := 0) rfl rfl rfl rfl (by omega) (by omega) dX6_deliver_102 (st2 := []) rfl (fun H locs M hS => ?_)
    refine lv_goto (tgt := 209) X.1 X.2.1 dX6_deliver_105 (by decide) ?_
    refine q_aload_n X dX6_deliver_209 rfl (lv_at hl 0 rfl) ?_
    have ho := gR_e hf
    clear hf
    obtain ⟨a35, v36, e37, k38, q39, hf⟩ := ho
    cases e37
    refine q_get X M flX6_81.g k38 (congrArg va_rf q39) dX6_deliver_210 ?_
    refine lv_iload_n X.1 X.2.1 dX6_deliver_213 rfl (lv_at hl 1 rfl) ?_
    refine lv_iconst (v := 0) X.1 X.2.1 dX6_deliver_214 (by decide) ?_
    have ho := tZ_e hf
    clear hf
    obtain ⟨a40, w41, e42, k43, i44, z46, q45, hf⟩ := ho
    cases e42
    refine q_zast X M hS k43 z46 i44 dX6_deliver_215 (fun H locs M hS => ?_)
    rw [q45] at M
    refine lv_iload_n X.1 X.2.1 dX6_deliver_216 rfl (lv_at hl 2 rfl) ?_
    obtain rfl := Option.some.inj hf
    exact q_iret X M hS (by omega) (by omega) dX6_deliver_217
  rw [if_neg c28] at hf
  by_cases c47 : x3 = 2
  · rw [if_pos c47] at hf
    refine lv_tableIn (tgt := 108) (off := 37) X.1 X.2.1 dX6_deliver_71 (by rw [c47]; decide) (by rw [c47]; decide) (by rw [c47]; rfl) (by decide) ?_
    refine q_aload_n X dX6_deliver_108 rfl (lv_at hl 0 rfl) ?_
    refine lv_iload_n X.1 X.2.1 dX6_deliver_109 rfl (lv_at hl 1 rfl) ?_
    have ho := chk_e hf
    clear hf
    obtain ⟨a51, e52, k53, hf⟩ := ho
    cases e52
    have ho := bnd_e hf
    clear hf
    obtain ⟨v48, w49, q50, hf⟩ := ho
    refine q_cV X M hS hl.1 (ci := 6) (r := (RX6, TX6, 53)) (As := [.int x2]) (m_X6_answered o x2 _ _ q50) mlX6_234 gm_466 gm_467 rfl (by decide) k53 rfl ⟨(Nat.le_of_ble_eq_true rfl), (Nat.le_of_ble_eq_true rfl)⟩ (rest := []) rfl (Nat.le_of_ble_eq_true rfl) (mc := 0) (ms := 0) (MC := 0) (MS := 0) rfl rfl rfl rfl (by omega) (by omega) dX6_deliver_110 (st2 := []) rfl (fun H locs M hS => ?_)
    refine lv_goto (tgt := 209) X.1 X.2.1 dX6_deliver_113 (by decide) ?_
    refine q_aload_n X dX6_deliver_209 rfl (lv_at hl 0 rfl) ?_
    have ho := gR_e hf
    clear hf
    obtain ⟨a54, v55, e56, k57, q58, hf⟩ := ho
    cases e56
    refine q_get X M flX6_81.g k57 (congrArg va_rf q58) dX6_deliver_210 ?_
    refine lv_iload_n X.1 X.2.1 dX6_deliver_213 rfl (lv_at hl 1 rfl) ?_
    refine lv_iconst (v := 0) X.1 X.2.1 dX6_deliver_214 (by decide) ?_
    have ho := tZ_e hf
    clear hf
    obtain ⟨a59, w60, e61, k62, i63, z65, q64, hf⟩ := ho
    cases e61
    refine q_zast X M hS k62 z65 i63 dX6_deliver_215 (fun H locs M hS => ?_)
    rw [q64] at M
    refine lv_iload_n X.1 X.2.1 dX6_deliver_216 rfl (lv_at hl 2 rfl) ?_
    obtain rfl := Option.some.inj hf
    exact q_iret X M hS (by omega) (by omega) dX6_deliver_217
  rw [if_neg c47] at hf
  by_cases c66 : x3 = 3
  · rw [if_pos c66] at hf
    refine lv_tableIn (tgt := 116) (off := 45) X.1 X.2.1 dX6_deliver_71 (by rw [c66]; decide) (by rw [c66]; decide) (by rw [c66]; rfl) (by decide) ?_
    refine q_aload_n X dX6_deliver_116 rfl (lv_at hl 0 rfl) ?_
    refine lv_iload_n X.1 X.2.1 dX6_deliver_117 rfl (lv_at hl 1 rfl) ?_
    have ho := chk_e hf
    clear hf
    obtain ⟨a70, e71, k72, hf⟩ := ho
    cases e71
    have ho := bnd_e hf
    clear hf
    obtain ⟨v67, w68, q69, hf⟩ := ho
    refine q_cV X M hS hl.1 (ci := 6) (r := (RX6, TX6, 53)) (As := [.int x2]) (m_X6_moved o x2 _ _ q69) mlX6_237 gm_471 gm_472 rfl (by decide) k72 rfl ⟨(Nat.le_of_ble_eq_true rfl), (Nat.le_of_ble_eq_true rfl)⟩ (rest := []) rfl (Nat.le_of_ble_eq_true rfl) (mc := 0) (ms := 0) (MC := 0) (MS := 0) rfl rfl rfl rfl (by omega) (by omega) dX6_deliver_118 (st2 := []) rfl (fun H locs M hS => ?_)
    refine lv_goto (tgt := 209) X.1 X.2.1 dX6_deliver_121 (by decide) ?_
    refine q_aload_n X dX6_deliver_209 rfl (lv_at hl 0 rfl) ?_
    have ho := gR_e hf
    clear hf
    obtain ⟨a73, v74, e75, k76, q77, hf⟩ := ho
    cases e75
    refine q_get X M flX6_81.g k76 (congrArg va_rf q77) dX6_deliver_210 ?_
    refine lv_iload_n X.1 X.2.1 dX6_deliver_213 rfl (lv_at hl 1 rfl) ?_
    refine lv_iconst (v := 0) X.1 X.2.1 dX6_deliver_214 (by decide) ?_
    have ho := tZ_e hf
    clear hf
    obtain ⟨a78, w79, e80, k81, i82, z84, q83, hf⟩ := ho
    cases e80
    refine q_zast X M hS k81 z84 i82 dX6_deliver_215 (fun H locs M hS => ?_)
    rw [q83] at M
    refine lv_iload_n X.1 X.2.1 dX6_deliver_216 rfl (lv_at hl 2 rfl) ?_
    obtain rfl := Option.some.inj hf
    exact q_iret X M hS (by omega) (by omega) dX6_deliver_217
  rw [if_neg c66] at hf
  by_cases c85 : x3 = 4
  · rw [if_pos c85] at hf
    refine lv_tableIn (tgt := 124) (off := 53) X.1 X.2.1 dX6_deliver_71 (by rw [c85]; decide) (by rw [c85]; decide) (by rw [c85]; rfl) (by decide) ?_
    refine q_aload_n X dX6_deliver_124 rfl (lv_at hl 0 rfl) ?_
    refine lv_iload_n X.1 X.2.1 dX6_deliver_125 rfl (lv_at hl 1 rfl) ?_
    have ho := chk_e hf
    clear hf
    obtain ⟨a89, e90, k91, hf⟩ := ho
    cases e90
    have ho := bnd_e hf
    clear hf
    obtain ⟨v86, w87, q88, hf⟩ := ho
    refine q_cV X M hS hl.1 (ci := 6) (r := (RX6, TX6, 53)) (As := [.int x2]) (m_X6_taken o x2 _ _ q88) mlX6_240 gm_475 gm_476 rfl (by decide) k91 rfl ⟨(Nat.le_of_ble_eq_true rfl), (Nat.le_of_ble_eq_true rfl)⟩ (rest := []) rfl (Nat.le_of_ble_eq_true rfl) (mc := 0) (ms := 0) (MC := 0) (MS := 0) rfl rfl rfl rfl (by omega) (by omega) dX6_deliver_126 (st2 := []) rfl (fun H locs M hS => ?_)
    refine lv_goto (tgt := 209) X.1 X.2.1 dX6_deliver_129 (by decide) ?_
    refine q_aload_n X dX6_deliver_209 rfl (lv_at hl 0 rfl) ?_
    have ho := gR_e hf
    clear hf
    obtain ⟨a92, v93, e94, k95, q96, hf⟩ := ho
    cases e94
    refine q_get X M flX6_81.g k95 (congrArg va_rf q96) dX6_deliver_210 ?_
    refine lv_iload_n X.1 X.2.1 dX6_deliver_213 rfl (lv_at hl 1 rfl) ?_
    refine lv_iconst (v := 0) X.1 X.2.1 dX6_deliver_214 (by decide) ?_
    have ho := tZ_e hf
    clear hf
    obtain ⟨a97, w98, e99, k100, i101, z103, q102, hf⟩ := ho
    cases e99
    refine q_zast X M hS k100 z103 i101 dX6_deliver_215 (fun H locs M hS => ?_)
    rw [q102] at M
    refine lv_iload_n X.1 X.2.1 dX6_deliver_216 rfl (lv_at hl 2 rfl) ?_
    obtain rfl := Option.some.inj hf
    exact q_iret X M hS (by omega) (by omega) dX6_deliver_217
  rw [if_neg c85] at hf
  have ht71 : x3.toInt < 1 ∨ 4 < x3.toInt := by
    have g0 : x3.toInt ≠ 1 := by simpa using ne_i c28
    have g1 : x3.toInt ≠ 2 := by simpa using ne_i c47
    have g2 : x3.toInt ≠ 3 := by simpa using ne_i c66
    have g3 : x3.toInt ≠ 4 := by simpa using ne_i c85
    omega
  refine lv_tableOut (tgt := 132) X.1 X.2.1 dX6_deliver_71 ht71 (by decide) ?_
  refine lv_iconst (v := 0) X.1 X.2.1 dX6_deliver_132 (by decide) ?_
  refine lv_istore (i := 4) (lv' := [(4, .int 0), (0, va_rf (some o)), (2, .int x2), (3, .int x3)]) X.1 X.2.1 dX6_deliver_133 hl (by decide) rfl (fun ls hl => ?_)
  exact (b_X6_deliver_135 X FU) o x2 x3 0 w _ _ _ _ _ hf M hS (by omega) (by omega) (lv_sub hl [1, 2, 3, 0] rfl)
def f_X6_deliver (o : Nat) (x1 : Int32) (w : Wd) : Option (Int32 × Wd) := gI w (some o) 7 50 (fun v2 => bnd (f_X6_in x1 0 (v2 - 1) w) (fun v6 w7 => if v6 = 0 then (some ((-1), w7)) else (chk w7 (some o) 7 (fun a13 => bnd (f_X6_takeOut a13 x1 w7) (fun v10 w11 => gR w11 (some o) 7 31 (fun v17 => aI w11 v17 100 v10 (fun v22 => if v22 = 2 then ((f_X6_deliver_70) o v10 v22 w11) else (gR w11 (some o) 7 28 (fun v202 => gR w11 (some o) 7 32 (fun v207 => aI w11 v207 100 v10 (fun v212 => aI w11 v202 102 v212 (fun v218 => if v218 = 0 then (gR w11 (some o) 7 30 (fun v225 => tZ w11 v225 102 v10 0 (fun w230 => gI w230 (some o) 7 3 (fun v237 => pI w230 (some o) 7 3 (v237 + 1) (fun w242 => some ((10 + v22), w242)))))) else ((f_X6_deliver_70) o v10 v22 w11)))))))))))))
set_option maxHeartbeats 4000000 in
set_option maxRecDepth 100000 in
theorem e_X6_deliver {l : Launch} {D : va_G} {aC : Nat → ClassId} {b0 : Nat} {p : Program} {e : Env} {s : State} {m : MethodId} {args : Array Value} {below : List Frame} {meth : Method} {c : Code} (X : Cx D aC p s m args meth c cX6_deliver RX6 5 "deliver" (some .int)) {res : (Int32 × Wd)} (o : Nat) (x1 : Int32) (w : Wd) : BW l D aC b0 p e rX6_deliver s m args below meth c (Qe D aC b0 below args s 0 0 (some (.int res.1)) res.2) res 0 0 0 0 (f_X6_deliver o x1 w) w 0 5 [(0, va_rf (some o)), (1, .int x1)] [] := by
  intro H locs cells slots ls hf M hS hc hs hl
  unfold f_X6_deliver at hf
  refine lv_iload_n X.1 X.2.1 dX6_deliver_0 rfl (lv_at hl 1 rfl) ?_
  refine lv_iconst (v := 0) X.1 X.2.1 dX6_deliver_1 (by decide) ?_
  refine q_aload_n X dX6_deliver_2 rfl (lv_at hl 0 rfl) ?_
  have ho := gI_e hf
  clear hf
  obtain ⟨a1, v2, e3, k4, q5, hf⟩ := ho
  cases e3
  refine q_get X M flX6_162.g k4 (congrArg Value.int q5) dX6_deliver_3 ?_
  refine lv_iconst (v := 1) X.1 X.2.1 dX6_deliver_6 (by decide) ?_
  refine lv_isub X.1 X.2.1 dX6_deliver_7 ?_
  have ho := bnd_e hf
  clear hf
  obtain ⟨v6, w7, q8, hf⟩ := ho
  refine q_cS X M hS hl.1 (As := [.int x1, .int 0, .int (v2 - 1)]) (m_X6_in x1 0 (v2 - 1) _ _ q8) mlX6_152 gm_171 rfl ⟨(Nat.le_of_ble_eq_true rfl), (Nat.le_of_ble_eq_true rfl)⟩ (rest := []) rfl (Nat.le_of_ble_eq_true rfl) (mc := 0) (ms := 0) (MC := 0) (MS := 0) rfl rfl rfl rfl (by omega) (by omega) dX6_deliver_8 (st2 := [.int v6]) rfl (fun H locs M hS => ?_)
  refine lv_if_ne (tgt := 16) X.1 X.2.1 dX6_deliver_11 (by decide) (fun c9 => ?_) (fun c9 => ?_)
  · rw [if_neg c9] at hf
    refine q_aload_n X dX6_deliver_16 rfl (lv_at hl 0 rfl) ?_
    refine lv_iload_n X.1 X.2.1 dX6_deliver_17 rfl (lv_at hl 1 rfl) ?_
    have ho := chk_e hf
    clear hf
    obtain ⟨a13, e14, k15, hf⟩ := ho
    cases e14
    have ho := bnd_e hf
    clear hf
    obtain ⟨v10, w11, q12, hf⟩ := ho
    refine q_cV X M hS hl.1 (ci := 6) (r := (RX6, TX6, 53)) (As := [.int x1]) (m_X6_takeOut o x1 _ _ q12) mlX6_228 gm_437 gm_438 rfl (by decide) k15 rfl ⟨(Nat.le_of_ble_eq_true rfl), (Nat.le_of_ble_eq_true rfl)⟩ (rest := []) rfl (Nat.le_of_ble_eq_true rfl) (mc := 0) (ms := 0) (MC := 0) (MS := 0) rfl rfl rfl rfl (by omega) (by omega) dX6_deliver_18 (st2 := [.int v10]) rfl (fun H locs M hS => ?_)
    refine lv_istore_n (i := 2) (lv' := [(2, .int v10), (0, va_rf (some o)), (1, .int x1)]) X.1 X.2.1 dX6_deliver_21 rfl hl (by decide) rfl (fun ls hl => ?_)
    refine q_aload_n X dX6_deliver_22 rfl (lv_at hl 1 rfl) ?_
    have ho := gR_e hf
    clear hf
    obtain ⟨a16, v17, e18, k19, q20, hf⟩ := ho
    cases e18
    refine q_get X M flX6_84.g k19 (congrArg va_rf q20) dX6_deliver_23 ?_
    refine lv_iload_n X.1 X.2.1 dX6_deliver_26 rfl (lv_at hl 0 rfl) ?_
    have ho := aI_e hf
    clear hf
    obtain ⟨a21, v22, e23, k24, i25, q26, hf⟩ := ho
    cases e23
    refine q_iald X M k24 i25 dX6_deliver_27 ?_
    rw [q26]
    refine lv_istore_n (i := 3) (lv' := [(3, .int v22), (2, .int v10), (0, va_rf (some o)), (1, .int x1)]) X.1 X.2.1 dX6_deliver_28 rfl hl (by decide) rfl (fun ls hl => ?_)
    refine lv_iload_n X.1 X.2.1 dX6_deliver_29 rfl (lv_at hl 0 rfl) ?_
    refine lv_iconst (v := 2) X.1 X.2.1 dX6_deliver_30 (by decide) ?_
    refine lv_icmp_eq (tgt := 70) X.1 X.2.1 dX6_deliver_31 (by decide) (fun c27 => ?_) (fun c27 => ?_)
    · rw [if_pos c27] at hf
      exact (b_X6_deliver_70 X) o v10 v22 w11 _ _ _ _ _ hf M hS (by omega) (by omega) (lv_sub hl [2, 1, 0] rfl)
    · rw [if_neg c27] at hf
      refine q_aload_n X dX6_deliver_34 rfl (lv_at hl 2 rfl) ?_
      have ho := gR_e hf
      clear hf
      obtain ⟨a201, v202, e203, k204, q205, hf⟩ := ho
      cases e203
      refine q_get X M flX6_74.g k204 (congrArg va_rf q205) dX6_deliver_35 ?_
      refine q_aload_n X dX6_deliver_38 rfl (lv_at hl 2 rfl) ?_
      have ho := gR_e hf
      clear hf
      obtain ⟨a206, v207, e208, k209, q210, hf⟩ := ho
      cases e208
      refine q_get X M flX6_87.g k209 (congrArg va_rf q210) dX6_deliver_39 ?_
      refine lv_iload_n X.1 X.2.1 dX6_deliver_42 rfl (lv_at hl 1 rfl) ?_
      have ho := aI_e hf
      clear hf
      obtain ⟨a211, v212, e213, k214, i215, q216, hf⟩ := ho
      cases e213
      refine q_iald X M k214 i215 dX6_deliver_43 ?_
      rw [q216]
      have ho := aI_e hf
      clear hf
      obtain ⟨a217, v218, e219, k220, i221, q222, hf⟩ := ho
      cases e219
      refine q_zald X M k220 i221 dX6_deliver_44 ?_
      rw [q222]
      refine lv_if_ne (tgt := 70) X.1 X.2.1 dX6_deliver_45 (by decide) (fun c223 => ?_) (fun c223 => ?_)
      · rw [if_neg c223] at hf
        exact (b_X6_deliver_70 X) o v10 v22 w11 _ _ _ _ _ hf M hS (by omega) (by omega) (lv_sub hl [2, 1, 0] rfl)
      · rw [if_pos c223] at hf
        refine q_aload_n X dX6_deliver_48 rfl (lv_at hl 2 rfl) ?_
        have ho := gR_e hf
        clear hf
        obtain ⟨a224, v225, e226, k227, q228, hf⟩ := ho
        cases e226
        refine q_get X M flX6_81.g k227 (congrArg va_rf q228) dX6_deliver_49 ?_
        refine lv_iload_n X.1 X.2.1 dX6_deliver_52 rfl (lv_at hl 1 rfl) ?_
        refine lv_iconst (v := 0) X.1 X.2.1 dX6_deliver_53 (by decide) ?_
        have ho := tZ_e hf
        clear hf
        obtain ⟨a229, w230, e231, k232, i233, z235, q234, hf⟩ := ho
        cases e231
        refine q_zast X M hS k232 z235 i233 dX6_deliver_54 (fun H locs M hS => ?_)
        rw [q234] at M
        refine q_aload_n X dX6_deliver_55 rfl (lv_at hl 2 rfl) ?_
        refine lv_dup X.1 X.2.1 dX6_deliver_56 rfl ?_
        have ho := gI_e hf
        clear hf
        obtain ⟨a236, v237, e238, k239, q240, hf⟩ := ho
        cases e238
        refine q_get X M flX6_165.g k239 (congrArg Value.int q240) dX6_deliver_57 ?_
        refine lv_iconst (v := 1) X.1 X.2.1 dX6_deliver_60 (by decide) ?_
        refine lv_iadd X.1 X.2.1 dX6_deliver_61 ?_
        have ho := pI_e hf
        clear hf
        obtain ⟨a241, w242, e243, k244, q245, hf⟩ := ho
        cases e243
        refine q_putI X M hS flX6_165 (Or.inl rfl) k244 dX6_deliver_62 (fun H locs M hS => ?_)
        rw [q245] at M
        refine lv_bipush (v := 10) X.1 X.2.1 dX6_deliver_65 (by decide) ?_
        refine lv_iload_n X.1 X.2.1 dX6_deliver_67 rfl (lv_at hl 0 rfl) ?_
        refine lv_iadd X.1 X.2.1 dX6_deliver_68 ?_
        obtain rfl := Option.some.inj hf
        exact q_iret X M hS (by omega) (by omega) dX6_deliver_69
  · rw [if_pos c9] at hf
    refine lv_iconst (v := (-1)) X.1 X.2.1 dX6_deliver_14 (by decide) ?_
    obtain rfl := Option.some.inj hf
    exact q_iret X M hS (by omega) (by omega) dX6_deliver_15
theorem m_X6_deliver {l : Launch} {D : va_G} {aC : Nat → ClassId} {b0 : Nat} {w : Wd} (o : Nat) (x1 : Int32) (v : Int32) (w' : Wd) (hf : f_X6_deliver o x1 w = some (v, w')) : Ct l D aC b0 yX6_deliver (Cond.code yX6_deliver cX6_deliver 5 (some .int) :: Gw) rX6_deliver [va_rf (some o), .int x1] w (some (.int v)) w' :=
  q_met (by decide) (Nat.le_of_ble_eq_true rfl) (fun p e s m below meth c X M ls hl => e_X6_deliver X (res := (v, w')) o x1 w s.heap [] 0 0 ls hf M va_S.rf (by decide) (by decide) hl)
abbrev rX6_drop : Room := { frames := 1, cells := 0, slots := 0, locals := 23 }
def f_X6_drop (o : Nat) (x1 : Int32) (w : Wd) : Option (Int32 × Wd) := gI w (some o) 7 50 (fun v2 => bnd (f_X6_in x1 0 (v2 - 1) w) (fun v6 w7 => if v6 = 0 then (some ((-1), w7)) else (chk w7 (some o) 7 (fun a13 => bnd (f_X6_takeOut a13 x1 w7) (fun v10 w11 => gR w11 (some o) 7 30 (fun v17 => tZ w11 v17 102 v10 0 (fun w22 => gI w22 (some o) 7 3 (fun v29 => pI w22 (some o) 7 3 (v29 + 1) (fun w34 => gR w34 (some o) 7 31 (fun v39 => aI w34 v39 100 v10 (fun v44 => some (v44, w34))))))))))))
set_option maxHeartbeats 4000000 in
set_option maxRecDepth 100000 in
theorem e_X6_drop {l : Launch} {D : va_G} {aC : Nat → ClassId} {b0 : Nat} {p : Program} {e : Env} {s : State} {m : MethodId} {args : Array Value} {below : List Frame} {meth : Method} {c : Code} (X : Cx D aC p s m args meth c cX6_drop RX6 3 "drop" (some .int)) {res : (Int32 × Wd)} (o : Nat) (x1 : Int32) (w : Wd) : BW l D aC b0 p e rX6_drop s m args below meth c (Qe D aC b0 below args s 0 0 (some (.int res.1)) res.2) res 0 0 0 0 (f_X6_drop o x1 w) w 0 3 [(0, va_rf (some o)), (1, .int x1)] [] := by
  intro H locs cells slots ls hf M hS hc hs hl
  unfold f_X6_drop at hf
  refine lv_iload_n X.1 X.2.1 dX6_drop_0 rfl (lv_at hl 1 rfl) ?_
  refine lv_iconst (v := 0) X.1 X.2.1 dX6_drop_1 (by decide) ?_
  refine q_aload_n X dX6_drop_2 rfl (lv_at hl 0 rfl) ?_
  have ho := gI_e hf
  clear hf
  obtain ⟨a1, v2, e3, k4, q5, hf⟩ := ho
  cases e3
  refine q_get X M flX6_162.g k4 (congrArg Value.int q5) dX6_drop_3 ?_
  refine lv_iconst (v := 1) X.1 X.2.1 dX6_drop_6 (by decide) ?_
  refine lv_isub X.1 X.2.1 dX6_drop_7 ?_
  have ho := bnd_e hf
  clear hf
  obtain ⟨v6, w7, q8, hf⟩ := ho
  refine q_cS X M hS hl.1 (As := [.int x1, .int 0, .int (v2 - 1)]) (m_X6_in x1 0 (v2 - 1) _ _ q8) mlX6_152 gm_171 rfl ⟨(Nat.le_of_ble_eq_true rfl), (Nat.le_of_ble_eq_true rfl)⟩ (rest := []) rfl (Nat.le_of_ble_eq_true rfl) (mc := 0) (ms := 0) (MC := 0) (MS := 0) rfl rfl rfl rfl (by omega) (by omega) dX6_drop_8 (st2 := [.int v6]) rfl (fun H locs M hS => ?_)
  refine lv_if_ne (tgt := 16) X.1 X.2.1 dX6_drop_11 (by decide) (fun c9 => ?_) (fun c9 => ?_)
  · rw [if_neg c9] at hf
    refine q_aload_n X dX6_drop_16 rfl (lv_at hl 0 rfl) ?_
    refine lv_iload_n X.1 X.2.1 dX6_drop_17 rfl (lv_at hl 1 rfl) ?_
    have ho := chk_e hf
    clear hf
    obtain ⟨a13, e14, k15, hf⟩ := ho
    cases e14
    have ho := bnd_e hf
    clear hf
    obtain ⟨v10, w11, q12, hf⟩ := ho
    refine q_cV X M hS hl.1 (ci := 6) (r := (RX6, TX6, 53)) (As := [.int x1]) (m_X6_takeOut o x1 _ _ q12) mlX6_228 gm_437 gm_438 rfl (by decide) k15 rfl ⟨(Nat.le_of_ble_eq_true rfl), (Nat.le_of_ble_eq_true rfl)⟩ (rest := []) rfl (Nat.le_of_ble_eq_true rfl) (mc := 0) (ms := 0) (MC := 0) (MS := 0) rfl rfl rfl rfl (by omega) (by omega) dX6_drop_18 (st2 := [.int v10]) rfl (fun H locs M hS => ?_)
    refine lv_istore_n (i := 2) (lv' := [(2, .int v10), (0, va_rf (some o)), (1, .int x1)]) X.1 X.2.1 dX6_drop_21 rfl hl (by decide) rfl (fun ls hl => ?_)
    refine q_aload_n X dX6_drop_22 rfl (lv_at hl 1 rfl) ?_
    have ho := gR_e hf
    clear hf
    obtain ⟨a16, v17, e18, k19, q20, hf⟩ := ho
    cases e18
    refine q_get X M flX6_81.g k19 (congrArg va_rf q20) dX6_drop_23 ?_
    refine lv_iload_n X.1 X.2.1 dX6_drop_26 rfl (lv_at hl 0 rfl) ?_
    refine lv_iconst (v := 0) X.1 X.2.1 dX6_drop_27 (by decide) ?_
    have ho := tZ_e hf
    clear hf
    obtain ⟨a21, w22, e23, k24, i25, z27, q26, hf⟩ := ho
    cases e23
    refine q_zast X M hS k24 z27 i25 dX6_drop_28 (fun H locs M hS => ?_)
    rw [q26] at M
    refine q_aload_n X dX6_drop_29 rfl (lv_at hl 1 rfl) ?_
    refine lv_dup X.1 X.2.1 dX6_drop_30 rfl ?_
    have ho := gI_e hf
    clear hf
    obtain ⟨a28, v29, e30, k31, q32, hf⟩ := ho
    cases e30
    refine q_get X M flX6_165.g k31 (congrArg Value.int q32) dX6_drop_31 ?_
    refine lv_iconst (v := 1) X.1 X.2.1 dX6_drop_34 (by decide) ?_
    refine lv_iadd X.1 X.2.1 dX6_drop_35 ?_
    have ho := pI_e hf
    clear hf
    obtain ⟨a33, w34, e35, k36, q37, hf⟩ := ho
    cases e35
    refine q_putI X M hS flX6_165 (Or.inl rfl) k36 dX6_drop_36 (fun H locs M hS => ?_)
    rw [q37] at M
    refine q_aload_n X dX6_drop_39 rfl (lv_at hl 1 rfl) ?_
    have ho := gR_e hf
    clear hf
    obtain ⟨a38, v39, e40, k41, q42, hf⟩ := ho
    cases e40
    refine q_get X M flX6_84.g k41 (congrArg va_rf q42) dX6_drop_40 ?_
    refine lv_iload_n X.1 X.2.1 dX6_drop_43 rfl (lv_at hl 0 rfl) ?_
    have ho := aI_e hf
    clear hf
    obtain ⟨a43, v44, e45, k46, i47, q48, hf⟩ := ho
    cases e45
    refine q_iald X M k46 i47 dX6_drop_44 ?_
    rw [q48]
    obtain rfl := Option.some.inj hf
    exact q_iret X M hS (by omega) (by omega) dX6_drop_45
  · rw [if_pos c9] at hf
    refine lv_iconst (v := (-1)) X.1 X.2.1 dX6_drop_14 (by decide) ?_
    obtain rfl := Option.some.inj hf
    exact q_iret X M hS (by omega) (by omega) dX6_drop_15
theorem m_X6_drop {l : Launch} {D : va_G} {aC : Nat → ClassId} {b0 : Nat} {w : Wd} (o : Nat) (x1 : Int32) (v : Int32) (w' : Wd) (hf : f_X6_drop o x1 w = some (v, w')) : Ct l D aC b0 yX6_drop (Cond.code yX6_drop cX6_drop 3 (some .int) :: Gw) rX6_drop [va_rf (some o), .int x1] w (some (.int v)) w' :=
  q_met (by decide) (Nat.le_of_ble_eq_true rfl) (fun p e s m below meth c X M ls hl => e_X6_drop X (res := (v, w')) o x1 w s.heap [] 0 0 ls hf M va_S.rf (by decide) (by decide) hl)
abbrev rX6_twin : Room := { frames := 1, cells := 0, slots := 0, locals := 24 }
def f_X6_twin_366 (o : Nat) (x2 : Int32) (x3 : Int32) (w : Wd) : Option (Int32 × Wd) := chk w (some o) 7 (fun a235 => bnd (f_X6_go a235 x3 w) (fun v232 w233 => gR w233 (some o) 7 31 (fun v239 => aI w233 v239 100 x2 (fun v244 => some (v244, w233)))))
set_option maxHeartbeats 4000000 in
set_option maxRecDepth 100000 in
theorem b_X6_twin_366 {l : Launch} {D : va_G} {aC : Nat → ClassId} {b0 : Nat} {p : Program} {e : Env} {s : State} {m : MethodId} {args : Array Value} {below : List Frame} {meth : Method} {c : Code} (X : Cx D aC p s m args meth c cX6_twin RX6 5 "twin" (some .int)) {res : (Int32 × Wd)} : ∀ (o : Nat) (x2 : Int32) (x3 : Int32) (w : Wd), BW l D aC b0 p e rX6_twin s m args below meth c (Qe D aC b0 below args s 0 0 (some (.int res.1)) res.2) res 0 0 0 0 (f_X6_twin_366 o x2 x3 w) w 366 5 [(0, va_rf (some o)), (2, .int x2), (3, .int x3)] [] := by
  intro o x2 x3 w H locs cells slots ls hf M hS hc hs hl
  unfold f_X6_twin_366 at hf
  refine q_aload_n X dX6_twin_366 rfl (lv_at hl 0 rfl) ?_
  refine lv_iload_n X.1 X.2.1 dX6_twin_367 rfl (lv_at hl 2 rfl) ?_
  have ho := chk_e hf
  clear hf
  obtain ⟨a235, e236, k237, hf⟩ := ho
  cases e236
  have ho := bnd_e hf
  clear hf
  obtain ⟨v232, w233, q234, hf⟩ := ho
  refine q_cV X M hS hl.1 (ci := 6) (r := (RX6, TX6, 53)) (As := [.int x3]) (m_X6_go o x3 _ _ q234) mlX6_168 gm_267 gm_268 rfl (by decide) k237 rfl ⟨(Nat.le_of_ble_eq_true rfl), (Nat.le_of_ble_eq_true rfl)⟩ (rest := []) rfl (Nat.le_of_ble_eq_true rfl) (mc := 0) (ms := 0) (MC := 0) (MS := 0) rfl rfl rfl rfl (by omega) (by omega) dX6_twin_368 (st2 := []) rfl (fun H locs M hS => ?_)
  refine q_aload_n X dX6_twin_371 rfl (lv_at hl 0 rfl) ?_
  have ho := gR_e hf
  clear hf
  obtain ⟨a238, v239, e240, k241, q242, hf⟩ := ho
  cases e240
  refine q_get X M flX6_84.g k241 (congrArg va_rf q242) dX6_twin_372 ?_
  refine lv_iload_n X.1 X.2.1 dX6_twin_375 rfl (lv_at hl 1 rfl) ?_
  have ho := aI_e hf
  clear hf
  obtain ⟨a243, v244, e245, k246, i247, q248, hf⟩ := ho
  cases e245
  refine q_iald X M k246 i247 dX6_twin_376 ?_
  rw [q248]
  obtain rfl := Option.some.inj hf
  exact q_iret X M hS (by omega) (by omega) dX6_twin_377
def f_X6_twin_156 (K190 : Nat → Int32 → Int32 → Wd → Option (Int32 × Wd)) : Nat → Nat → Int32 → Int32 → Int32 → Wd → Option (Int32 × Wd)
  | 0, _, _, _, _, _ => none
  | n + 1, o, x2, x3, x4, w => if 4 ≤ x4 then (K190 o x2 x3 w) else (gR w (some o) 7 41 (fun v251 => gR w (some o) 7 41 (fun v256 => aL w v256 101 ((4 * x2) + x4) (fun v261 => tL w v251 101 ((4 * x3) + x4) v261 (fun w267 => (f_X6_twin_156 K190 n) o x2 x3 (x4 + 1) w267)))))
set_option maxHeartbeats 4000000 in
set_option maxRecDepth 100000 in
theorem b_X6_twin_156 {l : Launch} {D : va_G} {aC : Nat → ClassId} {b0 : Nat} {p : Program} {e : Env} {s : State} {m : MethodId} {args : Array Value} {below : List Frame} {meth : Method} {c : Code} (X : Cx D aC p s m args meth c cX6_twin RX6 5 "twin" (some .int)) {res : (Int32 × Wd)} {K190 : Nat → Int32 → Int32 → Wd → Option (Int32 × Wd)} (hK190 : ∀ (o : Nat) (x2 : Int32) (x3 : Int32) (w : Wd), BW l D aC b0 p e rX6_twin s m args below meth c (Qe D aC b0 below args s 0 0 (some (.int res.1)) res.2) res 0 0 0 0 (K190 o x2 x3 w) w 190 5 [(0, va_rf (some o)), (2, .int x2), (3, .int x3)] []) : ∀ (n : Nat) (o : Nat) (x2 : Int32) (x3 : Int32) (x4 : Int32) (w : Wd), BW l D aC b0 p e rX6_twin s m args below meth c (Qe D aC b0 below args s 0 0 (some (.int res.1)) res.2) res 0 0 0 0 (f_X6_twin_156 K190 n o x2 x3 x4 w) w 156 5 [(0, va_rf (some o)), (2, .int x2), (3, .int x3), (4, .int x4)] [] := by
  intro n
  induction n with
  | zero =>
    intro o x2 x3 x4 w H locs cells slots ls hf
    rw [f_X6_twin_156.eq_1] at hf
    cases hf
  | succ n ih =>
    intro o x2 x3 x4 w H locs cells slots ls hf M hS hc hs hl
    rw [f_X6_twin_156.eq_2] at hf
    refine lv_iload X.1 X.2.1 dX6_twin_156 (lv_at hl 3 rfl) ?_
    refine lv_iconst (v := 4) X.1 X.2.1 dX6_twin_158 (by decide) ?_
    refine lv_icmp_ge (tgt := 190) X.1 X.2.1 dX6_twin_159 (by decide) (fun c249 => ?_) (fun c249 => ?_)
    · rw [if_pos c249] at hf
      exact hK190 o x2 x3 w _ _ _ _ _ hf M hS (by omega) (by omega) (lv_sub hl [0, 1, 2] rfl)
    · rw [if_neg c249] at hf
      refine q_aload_n X dX6_twin_162 rfl (lv_at hl 0 rfl) ?_
      have ho := gR_e hf
      clear hf
      obtain ⟨a250, v251, e252, k253, q254, hf⟩ := ho
      cases e252
      refine q_get X M flX6_114.g k253 (congrArg va_rf q254) dX6_twin_163 ?_
      refine lv_iconst (v := 4) X.1 X.2.1 dX6_twin_166 (by decide) ?_
      refine lv_iload_n X.1 X.2.1 dX6_twin_167 rfl (lv_at hl 2 rfl) ?_
      refine lv_imul X.1 X.2.1 dX6_twin_168 ?_
      refine lv_iload X.1 X.2.1 dX6_twin_169 (lv_at hl 3 rfl) ?_
      refine lv_iadd X.1 X.2.1 dX6_twin_171 ?_
      refine q_aload_n X dX6_twin_172 rfl (lv_at hl 0 rfl) ?_
      have ho := gR_e hf
      clear hf
      obtain ⟨a255, v256, e257, k258, q259, hf⟩ := ho
      cases e257
      refine q_get X M flX6_114.g k258 (congrArg va_rf q259) dX6_twin_173 ?_
      refine lv_iconst (v := 4) X.1 X.2.1 dX6_twin_176 (by decide) ?_
      refine lv_iload_n X.1 X.2.1 dX6_twin_177 rfl (lv_at hl 1 rfl) ?_
      refine lv_imul X.1 X.2.1 dX6_twin_178 ?_
      refine lv_iload X.1 X.2.1 dX6_twin_179 (lv_at hl 3 rfl) ?_
      refine lv_iadd X.1 X.2.1 dX6_twin_181 ?_
      have ho := aL_e hf
      clear hf
      obtain ⟨a260, v261, e262, k263, i264, q265, hf⟩ := ho
      cases e262
      refine q_lald X M k263 i264 dX6_twin_182 ?_
      rw [q265]
      have ho := tL_e hf
      clear hf
      obtain ⟨a266, w267, e268, k269, i270, q271, hf⟩ := ho
      cases e268
      refine q_last X M hS k269 i270 dX6_twin_183 (fun H locs M hS => ?_)
      rw [q271] at M
      refine lv_iinc (v := (x4 + 1)) (lv' := [(4, .int (x4 + 1)), (0, va_rf (some o)), (2, .int x2), (3, .int x3)]) X.1 X.2.1 dX6_twin_184 hl (k := 3) rfl rfl (by decide) rfl (fun ls hl => ?_)
      refine lv_goto (tgt := 156) X.1 X.2.1 dX6_twin_187 (by decide) ?_
      exact ih o x2 x3 (x4 + 1) w267 _ _ _ _ _ hf M hS (by omega) (by omega) (lv_sub hl [1, 2, 3, 0] rfl)
def f_X6_twin_193 (K302 : Nat → Int32 → Int32 → Wd → Option (Int32 × Wd)) : Nat → Nat → Int32 → Int32 → Int32 → Wd → Option (Int32 × Wd)
  | 0, _, _, _, _, _ => none
  | n + 1, o, x2, x3, x4, w => if 12 ≤ x4 then (K302 o x2 x3 w) else (gR w (some o) 7 42 (fun v274 => gR w (some o) 7 42 (fun v279 => aI w v279 100 ((12 * x2) + x4) (fun v284 => tI w v274 100 ((12 * x3) + x4) v284 (fun w290 => gR w290 (some o) 7 43 (fun v296 => gR w290 (some o) 7 43 (fun v301 => aI w290 v301 100 ((12 * x2) + x4) (fun v306 => tI w290 v296 100 ((12 * x3) + x4) v306 (fun w312 => gR w312 (some o) 7 44 (fun v318 => gR w312 (some o) 7 44 (fun v323 => aI w312 v323 100 ((12 * x2) + x4) (fun v328 => tI w312 v318 100 ((12 * x3) + x4) v328 (fun w334 => gR w334 (some o) 7 45 (fun v340 => gR w334 (some o) 7 45 (fun v345 => aL w334 v345 101 ((12 * x2) + x4) (fun v350 => tL w334 v340 101 ((12 * x3) + x4) v350 (fun w356 => (f_X6_twin_193 K302 n) o x2 x3 (x4 + 1) w356)))))))))))))))))
set_option maxHeartbeats 4000000 in
set_option maxRecDepth 100000 in
theorem b_X6_twin_193 {l : Launch} {D : va_G} {aC : Nat → ClassId} {b0 : Nat} {p : Program} {e : Env} {s : State} {m : MethodId} {args : Array Value} {below : List Frame} {meth : Method} {c : Code} (X : Cx D aC p s m args meth c cX6_twin RX6 5 "twin" (some .int)) {res : (Int32 × Wd)} {K302 : Nat → Int32 → Int32 → Wd → Option (Int32 × Wd)} (hK302 : ∀ (o : Nat) (x2 : Int32) (x3 : Int32) (w : Wd), BW l D aC b0 p e rX6_twin s m args below meth c (Qe D aC b0 below args s 0 0 (some (.int res.1)) res.2) res 0 0 0 0 (K302 o x2 x3 w) w 302 5 [(0, va_rf (some o)), (2, .int x2), (3, .int x3)] []) : ∀ (n : Nat) (o : Nat) (x2 : Int32) (x3 : Int32) (x4 : Int32) (w : Wd), BW l D aC b0 p e rX6_twin s m args below meth c (Qe D aC b0 below args s 0 0 (some (.int res.1)) res.2) res 0 0 0 0 (f_X6_twin_193 K302 n o x2 x3 x4 w) w 193 5 [(0, va_rf (some o)), (2, .int x2), (3, .int x3), (4, .int x4)] [] := by
  intro n
  induction n with
  | zero =>
    intro o x2 x3 x4 w H locs cells slots ls hf
    rw [f_X6_twin_193.eq_1] at hf
    cases hf
  | succ n ih =>
    intro o x2 x3 x4 w H locs cells slots ls hf M hS hc hs hl
    rw [f_X6_twin_193.eq_2] at hf
    refine lv_iload X.1 X.2.1 dX6_twin_193 (lv_at hl 3 rfl) ?_
    refine lv_bipush (v := 12) X.1 X.2.1 dX6_twin_195 (by decide) ?_
    refine lv_icmp_ge (tgt := 302) X.1 X.2.1 dX6_twin_197 (by decide) (fun c272 => ?_) (fun c272 => ?_)
    · rw [if_pos c272] at hf
      exact hK302 o x2 x3 w _ _ _ _ _ hf M hS (by omega) (by omega) (lv_sub hl [0, 1, 2] rfl)
    · rw [if_neg c272] at hf
      refine q_aload_n X dX6_twin_200 rfl (lv_at hl 0 rfl) ?_
      have ho := gR_e hf
      clear hf
      obtain ⟨a273, v274, e275, k276, q277, hf⟩ := ho
      cases e275
      refine q_get X M flX6_118.g k276 (congrArg va_rf q277) dX6_twin_201 ?_
      refine lv_bipush (v := 12) X.1 X.2.1 dX6_twin_204 (by decide) ?_
      refine lv_iload_n X.1 X.2.1 dX6_twin_206 rfl (lv_at hl 2 rfl) ?_
      refine lv_imul X.1 X.2.1 dX6_twin_207 ?_
      refine lv_iload X.1 X.2.1 dX6_twin_208 (lv_at hl 3 rfl) ?_
      refine lv_iadd X.1 X.2.1 dX6_twin_210 ?_
      refine q_aload_n X dX6_twin_211 rfl (lv_at hl 0 rfl) ?_
      have ho := gR_e hf
      clear hf
      obtain ⟨a278, v279, e280, k281, q282, hf⟩ := ho
      cases e280
      refine q_get X M flX6_118.g k281 (congrArg va_rf q282) dX6_twin_212 ?_
      refine lv_bipush (v := 12) X.1 X.2.1 dX6_twin_215 (by decide) ?_
      refine lv_iload_n X.1 X.2.1 dX6_twin_217 rfl (lv_at hl 1 rfl) ?_
      refine lv_imul X.1 X.2.1 dX6_twin_218 ?_
      refine lv_iload X.1 X.2.1 dX6_twin_219 (lv_at hl 3 rfl) ?_
      refine lv_iadd X.1 X.2.1 dX6_twin_221 ?_
      have ho := aI_e hf
      clear hf
      obtain ⟨a283, v284, e285, k286, i287, q288, hf⟩ := ho
      cases e285
      refine q_iald X M k286 i287 dX6_twin_222 ?_
      rw [q288]
      have ho := tI_e hf
      clear hf
      obtain ⟨a289, w290, e291, k292, i293, q294, hf⟩ := ho
      cases e291
      refine q_iast X M hS k292 i293 dX6_twin_223 (fun H locs M hS => ?_)
      rw [q294] at M
      refine q_aload_n X dX6_twin_224 rfl (lv_at hl 0 rfl) ?_
      have ho := gR_e hf
      clear hf
      obtain ⟨a295, v296, e297, k298, q299, hf⟩ := ho
      cases e297
      refine q_get X M flX6_121.g k298 (congrArg va_rf q299) dX6_twin_225 ?_
      refine lv_bipush (v := 12) X.1 X.2.1 dX6_twin_228 (by decide) ?_
      refine lv_iload_n X.1 X.2.1 dX6_twin_230 rfl (lv_at hl 2 rfl) ?_
      refine lv_imul X.1 X.2.1 dX6_twin_231 ?_
      refine lv_iload X.1 X.2.1 dX6_twin_232 (lv_at hl 3 rfl) ?_
      refine lv_iadd X.1 X.2.1 dX6_twin_234 ?_
      refine q_aload_n X dX6_twin_235 rfl (lv_at hl 0 rfl) ?_
      have ho := gR_e hf
      clear hf
      obtain ⟨a300, v301, e302, k303, q304, hf⟩ := ho
      cases e302
      refine q_get X M flX6_121.g k303 (congrArg va_rf q304) dX6_twin_236 ?_
      refine lv_bipush (v := 12) X.1 X.2.1 dX6_twin_239 (by decide) ?_
      refine lv_iload_n X.1 X.2.1 dX6_twin_241 rfl (lv_at hl 1 rfl) ?_
      refine lv_imul X.1 X.2.1 dX6_twin_242 ?_
      refine lv_iload X.1 X.2.1 dX6_twin_243 (lv_at hl 3 rfl) ?_
      refine lv_iadd X.1 X.2.1 dX6_twin_245 ?_
      have ho := aI_e hf
      clear hf
      obtain ⟨a305, v306, e307, k308, i309, q310, hf⟩ := ho
      cases e307
      refine q_iald X M k308 i309 dX6_twin_246 ?_
      rw [q310]
      have ho := tI_e hf
      clear hf
      obtain ⟨a311, w312, e313, k314, i315, q316, hf⟩ := ho
      cases e313
      refine q_iast X M hS k314 i315 dX6_twin_247 (fun H locs M hS => ?_)
      rw [q316] at M
      refine q_aload_n X dX6_twin_248 rfl (lv_at hl 0 rfl) ?_
      have ho := gR_e hf
      clear hf
      obtain ⟨a317, v318, e319, k320, q321, hf⟩ := ho
      cases e319
      refine q_get X M flX6_124.g k320 (congrArg va_rf q321) dX6_twin_249 ?_
      refine lv_bipush (v := 12) X.1 X.2.1 dX6_twin_252 (by decide) ?_
      refine lv_iload_n X.1 X.2.1 dX6_twin_254 rfl (lv_at hl 2 rfl) ?_
      refine lv_imul X.1 X.2.1 dX6_twin_255 ?_
      refine lv_iload X.1 X.2.1 dX6_twin_256 (lv_at hl 3 rfl) ?_
      refine lv_iadd X.1 X.2.1 dX6_twin_258 ?_
      refine q_aload_n X dX6_twin_259 rfl (lv_at hl 0 rfl) ?_
      have ho := gR_e hf
      clear hf
      obtain ⟨a322, v323, e324, k325, q326, hf⟩ := ho
      cases e324
      refine q_get X M flX6_124.g k325 (congrArg va_rf q326) dX6_twin_260 ?_
      refine lv_bipush (v := 12) X.1 X.2.1 dX6_twin_263 (by decide) ?_
      refine lv_iload_n X.1 X.2.1 dX6_twin_265 rfl (lv_at hl 1 rfl) ?_
      refine lv_imul X.1 X.2.1 dX6_twin_266 ?_
      refine lv_iload X.1 X.2.1 dX6_twin_267 (lv_at hl 3 rfl) ?_
      refine lv_iadd X.1 X.2.1 dX6_twin_269 ?_
      have ho := aI_e hf
      clear hf
      obtain ⟨a327, v328, e329, k330, i331, q332, hf⟩ := ho
      cases e329
      refine q_iald X M k330 i331 dX6_twin_270 ?_
      rw [q332]
      have ho := tI_e hf
      clear hf
      obtain ⟨a333, w334, e335, k336, i337, q338, hf⟩ := ho
      cases e335
      refine q_iast X M hS k336 i337 dX6_twin_271 (fun H locs M hS => ?_)
      rw [q338] at M
      refine q_aload_n X dX6_twin_272 rfl (lv_at hl 0 rfl) ?_
      have ho := gR_e hf
      clear hf
      obtain ⟨a339, v340, e341, k342, q343, hf⟩ := ho
      cases e341
      refine q_get X M flX6_127.g k342 (congrArg va_rf q343) dX6_twin_273 ?_
      refine lv_bipush (v := 12) X.1 X.2.1 dX6_twin_276 (by decide) ?_
      refine lv_iload_n X.1 X.2.1 dX6_twin_278 rfl (lv_at hl 2 rfl) ?_
      refine lv_imul X.1 X.2.1 dX6_twin_279 ?_
      refine lv_iload X.1 X.2.1 dX6_twin_280 (lv_at hl 3 rfl) ?_
      refine lv_iadd X.1 X.2.1 dX6_twin_282 ?_
      refine q_aload_n X dX6_twin_283 rfl (lv_at hl 0 rfl) ?_
      have ho := gR_e hf
      clear hf
      obtain ⟨a344, v345, e346, k347, q348, hf⟩ := ho
      cases e346
      refine q_get X M flX6_127.g k347 (congrArg va_rf q348) dX6_twin_284 ?_
      refine lv_bipush (v := 12) X.1 X.2.1 dX6_twin_287 (by decide) ?_
      refine lv_iload_n X.1 X.2.1 dX6_twin_289 rfl (lv_at hl 1 rfl) ?_
      refine lv_imul X.1 X.2.1 dX6_twin_290 ?_
      refine lv_iload X.1 X.2.1 dX6_twin_291 (lv_at hl 3 rfl) ?_
      refine lv_iadd X.1 X.2.1 dX6_twin_293 ?_
      have ho := aL_e hf
      clear hf
      obtain ⟨a349, v350, e351, k352, i353, q354, hf⟩ := ho
      cases e351
      refine q_lald X M k352 i353 dX6_twin_294 ?_
      rw [q354]
      have ho := tL_e hf
      clear hf
      obtain ⟨a355, w356, e357, k358, i359, q360, hf⟩ := ho
      cases e357
      refine q_last X M hS k358 i359 dX6_twin_295 (fun H locs M hS => ?_)
      rw [q360] at M
      refine lv_iinc (v := (x4 + 1)) (lv' := [(4, .int (x4 + 1)), (0, va_rf (some o)), (2, .int x2), (3, .int x3)]) X.1 X.2.1 dX6_twin_296 hl (k := 3) rfl rfl (by decide) rfl (fun ls hl => ?_)
      refine lv_goto (tgt := 193) X.1 X.2.1 dX6_twin_299 (by decide) ?_
      exact ih o x2 x3 (x4 + 1) w356 _ _ _ _ _ hf M hS (by omega) (by omega) (lv_sub hl [1, 2, 3, 0] rfl)
def f_X6_twin_305 (K366 : Nat → Int32 → Int32 → Wd → Option (Int32 × Wd)) : Nat → Nat → Int32 → Int32 → Int32 → Wd → Option (Int32 × Wd)
  | 0, _, _, _, _, _ => none
  | n + 1, o, x2, x3, x4, w => if 6 ≤ x4 then (K366 o x2 x3 w) else (gR w (some o) 7 46 (fun v363 => gR w (some o) 7 46 (fun v368 => aI w v368 100 ((6 * x2) + x4) (fun v373 => tI w v363 100 ((6 * x3) + x4) v373 (fun w379 => gR w379 (some o) 7 47 (fun v385 => gR w379 (some o) 7 47 (fun v390 => aI w379 v390 100 ((6 * x2) + x4) (fun v395 => tI w379 v385 100 ((6 * x3) + x4) v395 (fun w401 => (f_X6_twin_305 K366 n) o x2 x3 (x4 + 1) w401)))))))))
set_option maxHeartbeats 4000000 in
set_option maxRecDepth 100000 in
theorem b_X6_twin_305 {l : Launch} {D : va_G} {aC : Nat → ClassId} {b0 : Nat} {p : Program} {e : Env} {s : State} {m : MethodId} {args : Array Value} {below : List Frame} {meth : Method} {c : Code} (X : Cx D aC p s m args meth c cX6_twin RX6 5 "twin" (some .int)) {res : (Int32 × Wd)} {K366 : Nat → Int32 → Int32 → Wd → Option (Int32 × Wd)} (hK366 : ∀ (o : Nat) (x2 : Int32) (x3 : Int32) (w : Wd), BW l D aC b0 p e rX6_twin s m args below meth c (Qe D aC b0 below args s 0 0 (some (.int res.1)) res.2) res 0 0 0 0 (K366 o x2 x3 w) w 366 5 [(0, va_rf (some o)), (2, .int x2), (3, .int x3)] []) : ∀ (n : Nat) (o : Nat) (x2 : Int32) (x3 : Int32) (x4 : Int32) (w : Wd), BW l D aC b0 p e rX6_twin s m args below meth c (Qe D aC b0 below args s 0 0 (some (.int res.1)) res.2) res 0 0 0 0 (f_X6_twin_305 K366 n o x2 x3 x4 w) w 305 5 [(0, va_rf (some o)), (2, .int x2), (3, .int x3), (4, .int x4)] [] := by
  intro n
  induction n with
  | zero =>
    intro o x2 x3 x4 w H locs cells slots ls hf
    rw [f_X6_twin_305.eq_1] at hf
    cases hf
  | succ n ih =>
    intro o x2 x3 x4 w H locs cells slots ls hf M hS hc hs hl
    rw [f_X6_twin_305.eq_2] at hf
    refine lv_iload X.1 X.2.1 dX6_twin_305 (lv_at hl 3 rfl) ?_
    refine lv_bipush (v := 6) X.1 X.2.1 dX6_twin_307 (by decide) ?_
    refine lv_icmp_ge (tgt := 366) X.1 X.2.1 dX6_twin_309 (by decide) (fun c361 => ?_) (fun c361 => ?_)
    · rw [if_pos c361] at hf
      exact hK366 o x2 x3 w _ _ _ _ _ hf M hS (by omega) (by omega) (lv_sub hl [0, 1, 2] rfl)
    · rw [if_neg c361] at hf
      refine q_aload_n X dX6_twin_312 rfl (lv_at hl 0 rfl) ?_
      have ho := gR_e hf
      clear hf
      obtain ⟨a362, v363, e364, k365, q366, hf⟩ := ho
      cases e364
      refine q_get X M flX6_130.g k365 (congrArg va_rf q366) dX6_twin_313 ?_
      refine lv_bipush (v := 6) X.1 X.2.1 dX6_twin_316 (by decide) ?_
      refine lv_iload_n X.1 X.2.1 dX6_twin_318 rfl (lv_at hl 2 rfl) ?_
      refine lv_imul X.1 X.2.1 dX6_twin_319 ?_
      refine lv_iload X.1 X.2.1 dX6_twin_320 (lv_at hl 3 rfl) ?_
      refine lv_iadd X.1 X.2.1 dX6_twin_322 ?_
      refine q_aload_n X dX6_twin_323 rfl (lv_at hl 0 rfl) ?_
      have ho := gR_e hf
      clear hf
      obtain ⟨a367, v368, e369, k370, q371, hf⟩ := ho
      cases e369
      refine q_get X M flX6_130.g k370 (congrArg va_rf q371) dX6_twin_324 ?_
      refine lv_bipush (v := 6) X.1 X.2.1 dX6_twin_327 (by decide) ?_
      refine lv_iload_n X.1 X.2.1 dX6_twin_329 rfl (lv_at hl 1 rfl) ?_
      refine lv_imul X.1 X.2.1 dX6_twin_330 ?_
      refine lv_iload X.1 X.2.1 dX6_twin_331 (lv_at hl 3 rfl) ?_
      refine lv_iadd X.1 X.2.1 dX6_twin_333 ?_
      have ho := aI_e hf
      clear hf
      obtain ⟨a372, v373, e374, k375, i376, q377, hf⟩ := ho
      cases e374
      refine q_iald X M k375 i376 dX6_twin_334 ?_
      rw [q377]
      have ho := tI_e hf
      clear hf
      obtain ⟨a378, w379, e380, k381, i382, q383, hf⟩ := ho
      cases e380
      refine q_iast X M hS k381 i382 dX6_twin_335 (fun H locs M hS => ?_)
      rw [q383] at M
      refine q_aload_n X dX6_twin_336 rfl (lv_at hl 0 rfl) ?_
      have ho := gR_e hf
      clear hf
      obtain ⟨a384, v385, e386, k387, q388, hf⟩ := ho
      cases e386
      refine q_get X M flX6_133.g k387 (congrArg va_rf q388) dX6_twin_337 ?_
      refine lv_bipush (v := 6) X.1 X.2.1 dX6_twin_340 (by decide) ?_
      refine lv_iload_n X.1 X.2.1 dX6_twin_342 rfl (lv_at hl 2 rfl) ?_
      refine lv_imul X.1 X.2.1 dX6_twin_343 ?_
      refine lv_iload X.1 X.2.1 dX6_twin_344 (lv_at hl 3 rfl) ?_
      refine lv_iadd X.1 X.2.1 dX6_twin_346 ?_
      refine q_aload_n X dX6_twin_347 rfl (lv_at hl 0 rfl) ?_
      have ho := gR_e hf
      clear hf
      obtain ⟨a389, v390, e391, k392, q393, hf⟩ := ho
      cases e391
      refine q_get X M flX6_133.g k392 (congrArg va_rf q393) dX6_twin_348 ?_
      refine lv_bipush (v := 6) X.1 X.2.1 dX6_twin_351 (by decide) ?_
      refine lv_iload_n X.1 X.2.1 dX6_twin_353 rfl (lv_at hl 1 rfl) ?_
      refine lv_imul X.1 X.2.1 dX6_twin_354 ?_
      refine lv_iload X.1 X.2.1 dX6_twin_355 (lv_at hl 3 rfl) ?_
      refine lv_iadd X.1 X.2.1 dX6_twin_357 ?_
      have ho := aI_e hf
      clear hf
      obtain ⟨a394, v395, e396, k397, i398, q399, hf⟩ := ho
      cases e396
      refine q_iald X M k397 i398 dX6_twin_358 ?_
      rw [q399]
      have ho := tI_e hf
      clear hf
      obtain ⟨a400, w401, e402, k403, i404, q405, hf⟩ := ho
      cases e402
      refine q_iast X M hS k403 i404 dX6_twin_359 (fun H locs M hS => ?_)
      rw [q405] at M
      refine lv_iinc (v := (x4 + 1)) (lv' := [(4, .int (x4 + 1)), (0, va_rf (some o)), (2, .int x2), (3, .int x3)]) X.1 X.2.1 dX6_twin_360 hl (k := 3) rfl rfl (by decide) rfl (fun ls hl => ?_)
      refine lv_goto (tgt := 305) X.1 X.2.1 dX6_twin_363 (by decide) ?_
      exact ih o x2 x3 (x4 + 1) w401 _ _ _ _ _ hf M hS (by omega) (by omega) (lv_sub hl [1, 2, 3, 0] rfl)
def f_X6_twin_302 (o : Nat) (x2 : Int32) (x3 : Int32) (w : Wd) : Option (Int32 × Wd) := (f_X6_twin_305 (f_X6_twin_366) FU) o x2 x3 0 w
set_option maxHeartbeats 4000000 in
set_option maxRecDepth 100000 in
theorem b_X6_twin_302 {l : Launch} {D : va_G} {aC : Nat → ClassId} {b0 : Nat} {p : Program} {e : Env} {s : State} {m : MethodId} {args : Array Value} {below : List Frame} {meth : Method} {c : Code} (X : Cx D aC p s m args meth c cX6_twin RX6 5 "twin" (some .int)) {res : (Int32 × Wd)} : ∀ (o : Nat) (x2 : Int32) (x3 : Int32) (w : Wd), BW l D aC b0 p e rX6_twin s m args below meth c (Qe D aC b0 below args s 0 0 (some (.int res.1)) res.2) res 0 0 0 0 (f_X6_twin_302 o x2 x3 w) w 302 5 [(0, va_rf (some o)), (2, .int x2), (3, .int x3)] [] := by
  intro o x2 x3 w H locs cells slots ls hf M hS hc hs hl
  unfold f_X6_twin_302 at hf
  refine lv_iconst (v := 0) X.1 X.2.1 dX6_twin_302 (by decide) ?_
  refine lv_istore (i := 4) (lv' := [(4, .int 0), (0, va_rf (some o)), (2, .int x2), (3, .int x3)]) X.1 X.2.1 dX6_twin_303 hl (by decide) rfl (fun ls hl => ?_)
  exact (b_X6_twin_305 X (b_X6_twin_366 X) FU) o x2 x3 0 w _ _ _ _ _ hf M hS (by omega) (by omega) (lv_sub hl [1, 2, 3, 0] rfl)
def f_X6_twin_190 (o : Nat) (x2 : Int32) (x3 : Int32) (w : Wd) : Option (Int32 × Wd) := (f_X6_twin_193 (f_X6_twin_302) FU) o x2 x3 0 w
set_option maxHeartbeats 4000000 in
set_option maxRecDepth 100000 in
theorem b_X6_twin_190 {l : Launch} {D : va_G} {aC : Nat → ClassId} {b0 : Nat} {p : Program} {e : Env} {s : State} {m : MethodId} {args : Array Value} {below : List Frame} {meth : Method} {c : Code} (X : Cx D aC p s m args meth c cX6_twin RX6 5 "twin" (some .int)) {res : (Int32 × Wd)} : ∀ (o : Nat) (x2 : Int32) (x3 : Int32) (w : Wd), BW l D aC b0 p e rX6_twin s m args below meth c (Qe D aC b0 below args s 0 0 (some (.int res.1)) res.2) res 0 0 0 0 (f_X6_twin_190 o x2 x3 w) w 190 5 [(0, va_rf (some o)), (2, .int x2), (3, .int x3)] [] := by
  intro o x2 x3 w H locs cells slots ls hf M hS hc hs hl
  unfold f_X6_twin_190 at hf
  refine lv_iconst (v := 0) X.1 X.2.1 dX6_twin_190 (by decide) ?_
  refine lv_istore (i := 4) (lv' := [(4, .int 0), (0, va_rf (some o)), (2, .int x2), (3, .int x3)]) X.1 X.2.1 dX6_twin_191 hl (by decide) rfl (fun ls hl => ?_)
  exact (b_X6_twin_193 X (b_X6_twin_302 X) FU) o x2 x3 0 w _ _ _ _ _ hf M hS (by omega) (by omega) (lv_sub hl [1, 2, 3, 0] rfl)
def f_X6_twin (o : Nat) (x1 : Int32) (w : Wd) : Option (Int32 × Wd) := gI w (some o) 7 50 (fun v2 => bnd (f_X6_in x1 0 (v2 - 1) w) (fun v6 w7 => if v6 = 0 then (some ((-1), w7)) else (gI w7 (some o) 7 50 (fun v11 => if v11 = 400 then (some ((-2), w7)) else (gR w7 (some o) 7 49 (fun v17 => aI w7 v17 100 x1 (fun v22 => gR w7 (some o) 7 31 (fun v28 => aI w7 v28 100 v22 (fun v33 => gR w7 (some o) 7 32 (fun v39 => aI w7 v39 100 v22 (fun v44 => gR w7 (some o) 7 33 (fun v50 => aI w7 v50 100 v22 (fun v55 => chk w7 (some o) 7 (fun a63 => bnd (f_X6_letter a63 v33 v44 v55 w7) (fun v60 w61 => gR w61 (some o) 7 34 (fun v67 => gR w61 (some o) 7 34 (fun v72 => aI w61 v72 100 v22 (fun v77 => tI w61 v67 100 v60 v77 (fun w83 => gR w83 (some o) 7 35 (fun v89 => gR w83 (some o) 7 35 (fun v94 => aI w83 v94 100 v22 (fun v99 => tI w83 v89 100 v60 v99 (fun w105 => gR w105 (some o) 7 36 (fun v111 => gR w105 (some o) 7 36 (fun v116 => aI w105 v116 100 v22 (fun v121 => tI w105 v111 100 v60 v121 (fun w127 => gR w127 (some o) 7 37 (fun v133 => gR w127 (some o) 7 37 (fun v138 => aI w127 v138 100 v22 (fun v143 => tI w127 v133 100 v60 v143 (fun w149 => gR w149 (some o) 7 38 (fun v155 => gR w149 (some o) 7 38 (fun v160 => aI w149 v160 100 v22 (fun v165 => tI w149 v155 100 v60 v165 (fun w171 => gR w171 (some o) 7 39 (fun v177 => gR w171 (some o) 7 39 (fun v182 => aL w171 v182 101 v22 (fun v187 => tL w171 v177 101 v60 v187 (fun w193 => gR w193 (some o) 7 40 (fun v199 => gR w193 (some o) 7 40 (fun v204 => aL w193 v204 101 v22 (fun v209 => tL w193 v199 101 v60 v209 (fun w215 => gR w215 (some o) 7 31 (fun v221 => aI w215 v221 100 v22 (fun v226 => if v226 = 3 then ((f_X6_twin_156 (f_X6_twin_190) FU) o v22 v60 0 w215) else ((f_X6_twin_366) o v22 v60 w215))))))))))))))))))))))))))))))))))))))))))))))
set_option maxHeartbeats 4000000 in
set_option maxRecDepth 100000 in
theorem e_X6_twin {l : Launch} {D : va_G} {aC : Nat → ClassId} {b0 : Nat} {p : Program} {e : Env} {s : State} {m : MethodId} {args : Array Value} {below : List Frame} {meth : Method} {c : Code} (X : Cx D aC p s m args meth c cX6_twin RX6 5 "twin" (some .int)) {res : (Int32 × Wd)} (o : Nat) (x1 : Int32) (w : Wd) : BW l D aC b0 p e rX6_twin s m args below meth c (Qe D aC b0 below args s 0 0 (some (.int res.1)) res.2) res 0 0 0 0 (f_X6_twin o x1 w) w 0 5 [(0, va_rf (some o)), (1, .int x1)] [] := by
  intro H locs cells slots ls hf M hS hc hs hl
  unfold f_X6_twin at hf
  refine lv_iload_n X.1 X.2.1 dX6_twin_0 rfl (lv_at hl 1 rfl) ?_
  refine lv_iconst (v := 0) X.1 X.2.1 dX6_twin_1 (by decide) ?_
  refine q_aload_n X dX6_twin_2 rfl (lv_at hl 0 rfl) ?_
  have ho := gI_e hf
  clear hf
  obtain ⟨a1, v2, e3, k4, q5, hf⟩ := ho
  cases e3
  refine q_get X M flX6_162.g k4 (congrArg Value.int q5) dX6_twin_3 ?_
  refine lv_iconst (v := 1) X.1 X.2.1 dX6_twin_6 (by decide) ?_
  refine lv_isub X.1 X.2.1 dX6_twin_7 ?_
  have ho := bnd_e hf
  clear hf
  obtain ⟨v6, w7, q8, hf⟩ := ho
  refine q_cS X M hS hl.1 (As := [.int x1, .int 0, .int (v2 - 1)]) (m_X6_in x1 0 (v2 - 1) _ _ q8) mlX6_152 gm_171 rfl ⟨(Nat.le_of_ble_eq_true rfl), (Nat.le_of_ble_eq_true rfl)⟩ (rest := []) rfl (Nat.le_of_ble_eq_true rfl) (mc := 0) (ms := 0) (MC := 0) (MS := 0) rfl rfl rfl rfl (by omega) (by omega) dX6_twin_8 (st2 := [.int v6]) rfl (fun H locs M hS => ?_)
  refine lv_if_ne (tgt := 16) X.1 X.2.1 dX6_twin_11 (by decide) (fun c9 => ?_) (fun c9 => ?_)
  · rw [if_neg c9] at hf
    refine q_aload_n X dX6_twin_16 rfl (lv_at hl 0 rfl) ?_
    have ho := gI_e hf
    clear hf
    obtain ⟨a10, v11, e12, k13, q14, hf⟩ := ho
    cases e12
    refine q_get X M flX6_162.g k13 (congrArg Value.int q14) dX6_twin_17 ?_
    refine lv_sipush (v := 400) X.1 X.2.1 dX6_twin_20 (by decide) ?_
    refine lv_icmp_ne (tgt := 29) X.1 X.2.1 dX6_twin_23 (by decide) (fun c15 => ?_) (fun c15 => ?_)
    · rw [if_neg c15] at hf
      refine q_aload_n X dX6_twin_29 rfl (lv_at hl 0 rfl) ?_
      have ho := gR_e hf
      clear hf
      obtain ⟨a16, v17, e18, k19, q20, hf⟩ := ho
      cases e18
      refine q_get X M flX6_136.g k19 (congrArg va_rf q20) dX6_twin_30 ?_
      refine lv_iload_n X.1 X.2.1 dX6_twin_33 rfl (lv_at hl 1 rfl) ?_
      have ho := aI_e hf
      clear hf
      obtain ⟨a21, v22, e23, k24, i25, q26, hf⟩ := ho
      cases e23
      refine q_iald X M k24 i25 dX6_twin_34 ?_
      rw [q26]
      refine lv_istore_n (i := 2) (lv' := [(2, .int v22), (0, va_rf (some o)), (1, .int x1)]) X.1 X.2.1 dX6_twin_35 rfl hl (by decide) rfl (fun ls hl => ?_)
      refine q_aload_n X dX6_twin_36 rfl (lv_at hl 1 rfl) ?_
      refine q_aload_n X dX6_twin_37 rfl (lv_at hl 1 rfl) ?_
      have ho := gR_e hf
      clear hf
      obtain ⟨a27, v28, e29, k30, q31, hf⟩ := ho
      cases e29
      refine q_get X M flX6_84.g k30 (congrArg va_rf q31) dX6_twin_38 ?_
      refine lv_iload_n X.1 X.2.1 dX6_twin_41 rfl (lv_at hl 0 rfl) ?_
      have ho := aI_e hf
      clear hf
      obtain ⟨a32, v33, e34, k35, i36, q37, hf⟩ := ho
      cases e34
      refine q_iald X M k35 i36 dX6_twin_42 ?_
      rw [q37]
      refine q_aload_n X dX6_twin_43 rfl (lv_at hl 1 rfl) ?_
      have ho := gR_e hf
      clear hf
      obtain ⟨a38, v39, e40, k41, q42, hf⟩ := ho
      cases e40
      refine q_get X M flX6_87.g k41 (congrArg va_rf q42) dX6_twin_44 ?_
      refine lv_iload_n X.1 X.2.1 dX6_twin_47 rfl (lv_at hl 0 rfl) ?_
      have ho := aI_e hf
      clear hf
      obtain ⟨a43, v44, e45, k46, i47, q48, hf⟩ := ho
      cases e45
      refine q_iald X M k46 i47 dX6_twin_48 ?_
      rw [q48]
      refine q_aload_n X dX6_twin_49 rfl (lv_at hl 1 rfl) ?_
      have ho := gR_e hf
      clear hf
      obtain ⟨a49, v50, e51, k52, q53, hf⟩ := ho
      cases e51
      refine q_get X M flX6_90.g k52 (congrArg va_rf q53) dX6_twin_50 ?_
      refine lv_iload_n X.1 X.2.1 dX6_twin_53 rfl (lv_at hl 0 rfl) ?_
      have ho := aI_e hf
      clear hf
      obtain ⟨a54, v55, e56, k57, i58, q59, hf⟩ := ho
      cases e56
      refine q_iald X M k57 i58 dX6_twin_54 ?_
      rw [q59]
      have ho := chk_e hf
      clear hf
      obtain ⟨a63, e64, k65, hf⟩ := ho
      cases e64
      have ho := bnd_e hf
      clear hf
      obtain ⟨v60, w61, q62, hf⟩ := ho
      refine q_cV X M hS hl.1 (ci := 6) (r := (RX6, TX6, 53)) (As := [.int v33, .int v44, .int v55]) (m_X6_letter o v33 v44 v55 _ _ q62) mlX6_182 gm_258 gm_259 rfl (by decide) k65 rfl ⟨(Nat.le_of_ble_eq_true rfl), (Nat.le_of_ble_eq_true rfl)⟩ (rest := []) rfl (Nat.le_of_ble_eq_true rfl) (mc := 0) (ms := 0) (MC := 0) (MS := 0) rfl rfl rfl rfl (by omega) (by omega) dX6_twin_55 (st2 := [.int v60]) rfl (fun H locs M hS => ?_)
      refine lv_istore_n (i := 3) (lv' := [(3, .int v60), (2, .int v22), (0, va_rf (some o)), (1, .int x1)]) X.1 X.2.1 dX6_twin_58 rfl hl (by decide) rfl (fun ls hl => ?_)
      refine q_aload_n X dX6_twin_59 rfl (lv_at hl 2 rfl) ?_
      have ho := gR_e hf
      clear hf
      obtain ⟨a66, v67, e68, k69, q70, hf⟩ := ho
      cases e68
      refine q_get X M flX6_93.g k69 (congrArg va_rf q70) dX6_twin_60 ?_
      refine lv_iload_n X.1 X.2.1 dX6_twin_63 rfl (lv_at hl 0 rfl) ?_
      refine q_aload_n X dX6_twin_64 rfl (lv_at hl 2 rfl) ?_
      have ho := gR_e hf
      clear hf
      obtain ⟨a71, v72, e73, k74, q75, hf⟩ := ho
      cases e73
      refine q_get X M flX6_93.g k74 (congrArg va_rf q75) dX6_twin_65 ?_
      refine lv_iload_n X.1 X.2.1 dX6_twin_68 rfl (lv_at hl 1 rfl) ?_
      have ho := aI_e hf
      clear hf
      obtain ⟨a76, v77, e78, k79, i80, q81, hf⟩ := ho
      cases e78
      refine q_iald X M k79 i80 dX6_twin_69 ?_
      rw [q81]
      have ho := tI_e hf
      clear hf
      obtain ⟨a82, w83, e84, k85, i86, q87, hf⟩ := ho
      cases e84
      refine q_iast X M hS k85 i86 dX6_twin_70 (fun H locs M hS => ?_)
      rw [q87] at M
      refine q_aload_n X dX6_twin_71 rfl (lv_at hl 2 rfl) ?_
      have ho := gR_e hf
      clear hf
      obtain ⟨a88, v89, e90, k91, q92, hf⟩ := ho
      cases e90
      refine q_get X M flX6_96.g k91 (congrArg va_rf q92) dX6_twin_72 ?_
      refine lv_iload_n X.1 X.2.1 dX6_twin_75 rfl (lv_at hl 0 rfl) ?_
      refine q_aload_n X dX6_twin_76 rfl (lv_at hl 2 rfl) ?_
      have ho := gR_e hf
      clear hf
      obtain ⟨a93, v94, e95, k96, q97, hf⟩ := ho
      cases e95
      refine q_get X M flX6_96.g k96 (congrArg va_rf q97) dX6_twin_77 ?_
      refine lv_iload_n X.1 X.2.1 dX6_twin_80 rfl (lv_at hl 1 rfl) ?_
      have ho := aI_e hf
      clear hf
      obtain ⟨a98, v99, e100, k101, i102, q103, hf⟩ := ho
      cases e100
      refine q_iald X M k101 i102 dX6_twin_81 ?_
      rw [q103]
      have ho := tI_e hf
      clear hf
      obtain ⟨a104, w105, e106, k107, i108, q109, hf⟩ := ho
      cases e106
      refine q_iast X M hS k107 i108 dX6_twin_82 (fun H locs M hS => ?_)
      rw [q109] at M
      refine q_aload_n X dX6_twin_83 rfl (lv_at hl 2 rfl) ?_
      have ho := gR_e hf
      clear hf
      obtain ⟨a110, v111, e112, k113, q114, hf⟩ := ho
      cases e112
      refine q_get X M flX6_99.g k113 (congrArg va_rf q114) dX6_twin_84 ?_
      refine lv_iload_n X.1 X.2.1 dX6_twin_87 rfl (lv_at hl 0 rfl) ?_
      refine q_aload_n X dX6_twin_88 rfl (lv_at hl 2 rfl) ?_
      have ho := gR_e hf
      clear hf
      obtain ⟨a115, v116, e117, k118, q119, hf⟩ := ho
      cases e117
      refine q_get X M flX6_99.g k118 (congrArg va_rf q119) dX6_twin_89 ?_
      refine lv_iload_n X.1 X.2.1 dX6_twin_92 rfl (lv_at hl 1 rfl) ?_
      have ho := aI_e hf
      clear hf
      obtain ⟨a120, v121, e122, k123, i124, q125, hf⟩ := ho
      cases e122
      refine q_iald X M k123 i124 dX6_twin_93 ?_
      rw [q125]
      have ho := tI_e hf
      clear hf
      obtain ⟨a126, w127, e128, k129, i130, q131, hf⟩ := ho
      cases e128
      refine q_iast X M hS k129 i130 dX6_twin_94 (fun H locs M hS => ?_)
      rw [q131] at M
      refine q_aload_n X dX6_twin_95 rfl (lv_at hl 2 rfl) ?_
      have ho := gR_e hf
      clear hf
      obtain ⟨a132, v133, e134, k135, q136, hf⟩ := ho
      cases e134
      refine q_get X M flX6_102.g k135 (congrArg va_rf q136) dX6_twin_96 ?_
      refine lv_iload_n X.1 X.2.1 dX6_twin_99 rfl (lv_at hl 0 rfl) ?_
      refine q_aload_n X dX6_twin_100 rfl (lv_at hl 2 rfl) ?_
      have ho := gR_e hf
      clear hf
      obtain ⟨a137, v138, e139, k140, q141, hf⟩ := ho
      cases e139
      refine q_get X M flX6_102.g k140 (congrArg va_rf q141) dX6_twin_101 ?_
      refine lv_iload_n X.1 X.2.1 dX6_twin_104 rfl (lv_at hl 1 rfl) ?_
      have ho := aI_e hf
      clear hf
      obtain ⟨a142, v143, e144, k145, i146, q147, hf⟩ := ho
      cases e144
      refine q_iald X M k145 i146 dX6_twin_105 ?_
      rw [q147]
      have ho := tI_e hf
      clear hf
      obtain ⟨a148, w149, e150, k151, i152, q153, hf⟩ := ho
      cases e150
      refine q_iast X M hS k151 i152 dX6_twin_106 (fun H locs M hS => ?_)
      rw [q153] at M
      refine q_aload_n X dX6_twin_107 rfl (lv_at hl 2 rfl) ?_
      have ho := gR_e hf
      clear hf
      obtain ⟨a154, v155, e156, k157, q158, hf⟩ := ho
      cases e156
      refine q_get X M flX6_105.g k157 (congrArg va_rf q158) dX6_twin_108 ?_
      refine lv_iload_n X.1 X.2.1 dX6_twin_111 rfl (lv_at hl 0 rfl) ?_
      refine q_aload_n X dX6_twin_112 rfl (lv_at hl 2 rfl) ?_
      have ho := gR_e hf
      clear hf
      obtain ⟨a159, v160, e161, k162, q163, hf⟩ := ho
      cases e161
      refine q_get X M flX6_105.g k162 (congrArg va_rf q163) dX6_twin_113 ?_
      refine lv_iload_n X.1 X.2.1 dX6_twin_116 rfl (lv_at hl 1 rfl) ?_
      have ho := aI_e hf
      clear hf
      obtain ⟨a164, v165, e166, k167, i168, q169, hf⟩ := ho
      cases e166
      refine q_iald X M k167 i168 dX6_twin_117 ?_
      rw [q169]
      have ho := tI_e hf
      clear hf
      obtain ⟨a170, w171, e172, k173, i174, q175, hf⟩ := ho
      cases e172
      refine q_iast X M hS k173 i174 dX6_twin_118 (fun H locs M hS => ?_)
      rw [q175] at M
      refine q_aload_n X dX6_twin_119 rfl (lv_at hl 2 rfl) ?_
      have ho := gR_e hf
      clear hf
      obtain ⟨a176, v177, e178, k179, q180, hf⟩ := ho
      cases e178
      refine q_get X M flX6_108.g k179 (congrArg va_rf q180) dX6_twin_120 ?_
      refine lv_iload_n X.1 X.2.1 dX6_twin_123 rfl (lv_at hl 0 rfl) ?_
      refine q_aload_n X dX6_twin_124 rfl (lv_at hl 2 rfl) ?_
      have ho := gR_e hf
      clear hf
      obtain ⟨a181, v182, e183, k184, q185, hf⟩ := ho
      cases e183
      refine q_get X M flX6_108.g k184 (congrArg va_rf q185) dX6_twin_125 ?_
      refine lv_iload_n X.1 X.2.1 dX6_twin_128 rfl (lv_at hl 1 rfl) ?_
      have ho := aL_e hf
      clear hf
      obtain ⟨a186, v187, e188, k189, i190, q191, hf⟩ := ho
      cases e188
      refine q_lald X M k189 i190 dX6_twin_129 ?_
      rw [q191]
      have ho := tL_e hf
      clear hf
      obtain ⟨a192, w193, e194, k195, i196, q197, hf⟩ := ho
      cases e194
      refine q_last X M hS k195 i196 dX6_twin_130 (fun H locs M hS => ?_)
      rw [q197] at M
      refine q_aload_n X dX6_twin_131 rfl (lv_at hl 2 rfl) ?_
      have ho := gR_e hf
      clear hf
      obtain ⟨a198, v199, e200, k201, q202, hf⟩ := ho
      cases e200
      refine q_get X M flX6_111.g k201 (congrArg va_rf q202) dX6_twin_132 ?_
      refine lv_iload_n X.1 X.2.1 dX6_twin_135 rfl (lv_at hl 0 rfl) ?_
      refine q_aload_n X dX6_twin_136 rfl (lv_at hl 2 rfl) ?_
      have ho := gR_e hf
      clear hf
      obtain ⟨a203, v204, e205, k206, q207, hf⟩ := ho
      cases e205
      refine q_get X M flX6_111.g k206 (congrArg va_rf q207) dX6_twin_137 ?_
      refine lv_iload_n X.1 X.2.1 dX6_twin_140 rfl (lv_at hl 1 rfl) ?_
      have ho := aL_e hf
      clear hf
      obtain ⟨a208, v209, e210, k211, i212, q213, hf⟩ := ho
      cases e210
      refine q_lald X M k211 i212 dX6_twin_141 ?_
      rw [q213]
      have ho := tL_e hf
      clear hf
      obtain ⟨a214, w215, e216, k217, i218, q219, hf⟩ := ho
      cases e216
      refine q_last X M hS k217 i218 dX6_twin_142 (fun H locs M hS => ?_)
      rw [q219] at M
      refine q_aload_n X dX6_twin_143 rfl (lv_at hl 2 rfl) ?_
      have ho := gR_e hf
      clear hf
      obtain ⟨a220, v221, e222, k223, q224, hf⟩ := ho
      cases e222
      refine q_get X M flX6_84.g k223 (congrArg va_rf q224) dX6_twin_144 ?_
      refine lv_iload_n X.1 X.2.1 dX6_twin_147 rfl (lv_at hl 1 rfl) ?_
      have ho := aI_e hf
      clear hf
      obtain ⟨a225, v226, e227, k228, i229, q230, hf⟩ := ho
      cases e227
      refine q_iald X M k228 i229 dX6_twin_148 ?_
      rw [q230]
      refine lv_iconst (v := 3) X.1 X.2.1 dX6_twin_149 (by decide) ?_
      refine lv_icmp_ne (tgt := 366) X.1 X.2.1 dX6_twin_150 (by decide) (fun c231 => ?_) (fun c231 => ?_)
      · rw [if_neg c231] at hf
        exact (b_X6_twin_366 X) o v22 v60 w215 _ _ _ _ _ hf M hS (by omega) (by omega) (lv_sub hl [2, 1, 0] rfl)
      · rw [if_pos c231] at hf
        refine lv_iconst (v := 0) X.1 X.2.1 dX6_twin_153 (by decide) ?_
        refine lv_istore (i := 4) (lv' := [(4, .int 0), (3, .int v60), (2, .int v22), (0, va_rf (some o)), (1, .int x1)]) X.1 X.2.1 dX6_twin_154 hl (by decide) rfl (fun ls hl => ?_)
        exact (b_X6_twin_156 X (b_X6_twin_190 X) FU) o v22 v60 0 w215 _ _ _ _ _ hf M hS (by omega) (by omega) (lv_sub hl [3, 2, 1, 0] rfl)
    · rw [if_pos c15] at hf
      refine lv_bipush (v := (-2)) X.1 X.2.1 dX6_twin_26 (by decide) ?_
      obtain rfl := Option.some.inj hf
      exact q_iret X M hS (by omega) (by omega) dX6_twin_28
  · rw [if_pos c9] at hf
    refine lv_iconst (v := (-1)) X.1 X.2.1 dX6_twin_14 (by decide) ?_
    obtain rfl := Option.some.inj hf
    exact q_iret X M hS (by omega) (by omega) dX6_twin_15
theorem m_X6_twin {l : Launch} {D : va_G} {aC : Nat → ClassId} {b0 : Nat} {w : Wd} (o : Nat) (x1 : Int32) (v : Int32) (w' : Wd) (hf : f_X6_twin o x1 w = some (v, w')) : Ct l D aC b0 yX6_twin (Cond.code yX6_twin cX6_twin 5 (some .int) :: Gw) rX6_twin [va_rf (some o), .int x1] w (some (.int v)) w' :=
  q_met (by decide) (Nat.le_of_ble_eq_true rfl) (fun p e s m below meth c X M ls hl => e_X6_twin X (res := (v, w')) o x1 w s.heap [] 0 0 ls hf M va_S.rf (by decide) (by decide) hl)
abbrev rX6_copy : Room := { frames := 0, cells := 0, slots := 0, locals := 0 }
def f_X6_copy_83 (K119 : Nat → Int32 → Int32 → Int32 → Int32 → Int32 → Wd → Option (Unit × Wd)) : Nat → Nat → Int32 → Int32 → Int32 → Int32 → Int32 → Int32 → Wd → Option (Unit × Wd)
  | 0, _, _, _, _, _, _, _, _ => none
  | n + 1, o, x1, x2, x3, x4, x5, x6, w => if 4 ≤ x6 then (K119 o x1 x2 x3 x4 x5 w) else (gR w (some o) 7 20 (fun v92 => gR w (some o) 7 20 (fun v97 => aL w v97 101 ((4 * x4) + x6) (fun v102 => tL w v92 101 ((4 * x5) + x6) v102 (fun w108 => (f_X6_copy_83 K119 n) o x1 x2 x3 x4 x5 (x6 + 1) w108)))))
set_option maxHeartbeats 4000000 in
set_option maxRecDepth 100000 in
theorem b_X6_copy_83 {l : Launch} {D : va_G} {aC : Nat → ClassId} {b0 : Nat} {p : Program} {e : Env} {s : State} {m : MethodId} {args : Array Value} {below : List Frame} {meth : Method} {c : Code} (X : Cx D aC p s m args meth c cX6_copy RX6 7 "copy" none) {res : (Unit × Wd)} {K119 : Nat → Int32 → Int32 → Int32 → Int32 → Int32 → Wd → Option (Unit × Wd)} (hK119 : ∀ (o : Nat) (x1 : Int32) (x2 : Int32) (x3 : Int32) (x4 : Int32) (x5 : Int32) (w : Wd), BW l D aC b0 p e rX6_copy s m args below meth c (Qe D aC b0 below args s 0 0 none res.2) res 0 0 0 0 (K119 o x1 x2 x3 x4 x5 w) w 119 7 [(0, va_rf (some o)), (1, .int x1), (2, .int x2), (3, .int x3), (4, .int x4), (5, .int x5)] []) : ∀ (n : Nat) (o : Nat) (x1 : Int32) (x2 : Int32) (x3 : Int32) (x4 : Int32) (x5 : Int32) (x6 : Int32) (w : Wd), BW l D aC b0 p e rX6_copy s m args below meth c (Qe D aC b0 below args s 0 0 none res.2) res 0 0 0 0 (f_X6_copy_83 K119 n o x1 x2 x3 x4 x5 x6 w) w 83 7 [(0, va_rf (some o)), (1, .int x1), (2, .int x2), (3, .int x3), (4, .int x4), (5, .int x5), (6, .int x6)] [] := by
  intro n
  induction n with
  | zero =>
    intro o x1 x2 x3 x4 x5 x6 w H locs cells slots ls hf
    rw [f_X6_copy_83.eq_1] at hf
    cases hf
  | succ n ih =>
    intro o x1 x2 x3 x4 x5 x6 w H locs cells slots ls hf M hS hc hs hl
    rw [f_X6_copy_83.eq_2] at hf
    refine lv_iload X.1 X.2.1 dX6_copy_83 (lv_at hl 6 rfl) ?_
    refine lv_iconst (v := 4) X.1 X.2.1 dX6_copy_85 (by decide) ?_
    refine lv_icmp_ge (tgt := 119) X.1 X.2.1 dX6_copy_86 (by decide) (fun c90 => ?_) (fun c90 => ?_)
    · rw [if_pos c90] at hf
      exact hK119 o x1 x2 x3 x4 x5 w _ _ _ _ _ hf M hS (by omega) (by omega) (lv_sub hl [0, 1, 2, 3, 4, 5] rfl)
    · rw [if_neg c90] at hf
      refine q_aload_n X dX6_copy_89 rfl (lv_at hl 0 rfl) ?_
      have ho := gR_e hf
      clear hf
      obtain ⟨a91, v92, e93, k94, q95, hf⟩ := ho
      cases e93
      refine q_get X M flX6_50.g k94 (congrArg va_rf q95) dX6_copy_90 ?_
      refine lv_iconst (v := 4) X.1 X.2.1 dX6_copy_93 (by decide) ?_
      refine lv_iload X.1 X.2.1 dX6_copy_94 (lv_at hl 5 rfl) ?_
      refine lv_imul X.1 X.2.1 dX6_copy_96 ?_
      refine lv_iload X.1 X.2.1 dX6_copy_97 (lv_at hl 6 rfl) ?_
      refine lv_iadd X.1 X.2.1 dX6_copy_99 ?_
      refine q_aload_n X dX6_copy_100 rfl (lv_at hl 0 rfl) ?_
      have ho := gR_e hf
      clear hf
      obtain ⟨a96, v97, e98, k99, q100, hf⟩ := ho
      cases e98
      refine q_get X M flX6_50.g k99 (congrArg va_rf q100) dX6_copy_101 ?_
      refine lv_iconst (v := 4) X.1 X.2.1 dX6_copy_104 (by decide) ?_
      refine lv_iload X.1 X.2.1 dX6_copy_105 (lv_at hl 4 rfl) ?_
      refine lv_imul X.1 X.2.1 dX6_copy_107 ?_
      refine lv_iload X.1 X.2.1 dX6_copy_108 (lv_at hl 6 rfl) ?_
      refine lv_iadd X.1 X.2.1 dX6_copy_110 ?_
      have ho := aL_e hf
      clear hf
      obtain ⟨a101, v102, e103, k104, i105, q106, hf⟩ := ho
      cases e103
      refine q_lald X M k104 i105 dX6_copy_111 ?_
      rw [q106]
      have ho := tL_e hf
      clear hf
      obtain ⟨a107, w108, e109, k110, i111, q112, hf⟩ := ho
      cases e109
      refine q_last X M hS k110 i111 dX6_copy_112 (fun H locs M hS => ?_)
      rw [q112] at M
      refine lv_iinc (v := (x6 + 1)) (lv' := [(6, .int (x6 + 1)), (0, va_rf (some o)), (1, .int x1), (2, .int x2), (3, .int x3), (4, .int x4), (5, .int x5)]) X.1 X.2.1 dX6_copy_113 hl (k := 6) rfl rfl (by decide) rfl (fun ls hl => ?_)
      refine lv_goto (tgt := 83) X.1 X.2.1 dX6_copy_116 (by decide) ?_
      exact ih o x1 x2 x3 x4 x5 (x6 + 1) w108 _ _ _ _ _ hf M hS (by omega) (by omega) (lv_sub hl [1, 2, 3, 4, 5, 6, 0] rfl)
def f_X6_copy_122 (K239 : Nat → Int32 → Int32 → Int32 → Int32 → Int32 → Wd → Option (Unit × Wd)) : Nat → Nat → Int32 → Int32 → Int32 → Int32 → Int32 → Int32 → Wd → Option (Unit × Wd)
  | 0, _, _, _, _, _, _, _, _ => none
  | n + 1, o, x1, x2, x3, x4, x5, x6, w => if 12 ≤ x6 then (K239 o x1 x2 x3 x4 x5 w) else (gR w (some o) 7 22 (fun v115 => gR w (some o) 7 22 (fun v120 => aI w v120 100 ((12 * x4) + x6) (fun v125 => tI w v115 100 ((12 * x5) + x6) v125 (fun w131 => gR w131 (some o) 7 23 (fun v137 => gR w131 (some o) 7 23 (fun v142 => aI w131 v142 100 ((12 * x4) + x6) (fun v147 => tI w131 v137 100 ((12 * x5) + x6) v147 (fun w153 => gR w153 (some o) 7 24 (fun v159 => gR w153 (some o) 7 24 (fun v164 => aI w153 v164 100 ((12 * x4) + x6) (fun v169 => tI w153 v159 100 ((12 * x5) + x6) v169 (fun w175 => gR w175 (some o) 7 25 (fun v181 => gR w175 (some o) 7 25 (fun v186 => aL w175 v186 101 ((12 * x4) + x6) (fun v191 => tL w175 v181 101 ((12 * x5) + x6) v191 (fun w197 => (f_X6_copy_122 K239 n) o x1 x2 x3 x4 x5 (x6 + 1) w197)))))))))))))))))
set_option maxHeartbeats 4000000 in
set_option maxRecDepth 100000 in
theorem b_X6_copy_122 {l : Launch} {D : va_G} {aC : Nat → ClassId} {b0 : Nat} {p : Program} {e : Env} {s : State} {m : MethodId} {args : Array Value} {below : List Frame} {meth : Method} {c : Code} (X : Cx D aC p s m args meth c cX6_copy RX6 7 "copy" none) {res : (Unit × Wd)} {K239 : Nat → Int32 → Int32 → Int32 → Int32 → Int32 → Wd → Option (Unit × Wd)} (hK239 : ∀ (o : Nat) (x1 : Int32) (x2 : Int32) (x3 : Int32) (x4 : Int32) (x5 : Int32) (w : Wd), BW l D aC b0 p e rX6_copy s m args below meth c (Qe D aC b0 below args s 0 0 none res.2) res 0 0 0 0 (K239 o x1 x2 x3 x4 x5 w) w 239 7 [(0, va_rf (some o)), (1, .int x1), (2, .int x2), (3, .int x3), (4, .int x4), (5, .int x5)] []) : ∀ (n : Nat) (o : Nat) (x1 : Int32) (x2 : Int32) (x3 : Int32) (x4 : Int32) (x5 : Int32) (x6 : Int32) (w : Wd), BW l D aC b0 p e rX6_copy s m args below meth c (Qe D aC b0 below args s 0 0 none res.2) res 0 0 0 0 (f_X6_copy_122 K239 n o x1 x2 x3 x4 x5 x6 w) w 122 7 [(0, va_rf (some o)), (1, .int x1), (2, .int x2), (3, .int x3), (4, .int x4), (5, .int x5), (6, .int x6)] [] := by
  intro n
  induction n with
  | zero =>
    intro o x1 x2 x3 x4 x5 x6 w H locs cells slots ls hf
    rw [f_X6_copy_122.eq_1] at hf
    cases hf
  | succ n ih =>
    intro o x1 x2 x3 x4 x5 x6 w H locs cells slots ls hf M hS hc hs hl
    rw [f_X6_copy_122.eq_2] at hf
    refine lv_iload X.1 X.2.1 dX6_copy_122 (lv_at hl 6 rfl) ?_
    refine lv_bipush (v := 12) X.1 X.2.1 dX6_copy_124 (by decide) ?_
    refine lv_icmp_ge (tgt := 239) X.1 X.2.1 dX6_copy_126 (by decide) (fun c113 => ?_) (fun c113 => ?_)
    · rw [if_pos c113] at hf
      exact hK239 o x1 x2 x3 x4 x5 w _ _ _ _ _ hf M hS (by omega) (by omega) (lv_sub hl [0, 1, 2, 3, 4, 5] rfl)
    · rw [if_neg c113] at hf
      refine q_aload_n X dX6_copy_129 rfl (lv_at hl 0 rfl) ?_
      have ho := gR_e hf
      clear hf
      obtain ⟨a114, v115, e116, k117, q118, hf⟩ := ho
      cases e116
      refine q_get X M flX6_56.g k117 (congrArg va_rf q118) dX6_copy_130 ?_
      refine lv_bipush (v := 12) X.1 X.2.1 dX6_copy_133 (by decide) ?_
      refine lv_iload X.1 X.2.1 dX6_copy_135 (lv_at hl 5 rfl) ?_
      refine lv_imul X.1 X.2.1 dX6_copy_137 ?_
      refine lv_iload X.1 X.2.1 dX6_copy_138 (lv_at hl 6 rfl) ?_
      refine lv_iadd X.1 X.2.1 dX6_copy_140 ?_
      refine q_aload_n X dX6_copy_141 rfl (lv_at hl 0 rfl) ?_
      have ho := gR_e hf
      clear hf
      obtain ⟨a119, v120, e121, k122, q123, hf⟩ := ho
      cases e121
      refine q_get X M flX6_56.g k122 (congrArg va_rf q123) dX6_copy_142 ?_
      refine lv_bipush (v := 12) X.1 X.2.1 dX6_copy_145 (by decide) ?_
      refine lv_iload X.1 X.2.1 dX6_copy_147 (lv_at hl 4 rfl) ?_
      refine lv_imul X.1 X.2.1 dX6_copy_149 ?_
      refine lv_iload X.1 X.2.1 dX6_copy_150 (lv_at hl 6 rfl) ?_
      refine lv_iadd X.1 X.2.1 dX6_copy_152 ?_
      have ho := aI_e hf
      clear hf
      obtain ⟨a124, v125, e126, k127, i128, q129, hf⟩ := ho
      cases e126
      refine q_iald X M k127 i128 dX6_copy_153 ?_
      rw [q129]
      have ho := tI_e hf
      clear hf
      obtain ⟨a130, w131, e132, k133, i134, q135, hf⟩ := ho
      cases e132
      refine q_iast X M hS k133 i134 dX6_copy_154 (fun H locs M hS => ?_)
      rw [q135] at M
      refine q_aload_n X dX6_copy_155 rfl (lv_at hl 0 rfl) ?_
      have ho := gR_e hf
      clear hf
      obtain ⟨a136, v137, e138, k139, q140, hf⟩ := ho
      cases e138
      refine q_get X M flX6_59.g k139 (congrArg va_rf q140) dX6_copy_156 ?_
      refine lv_bipush (v := 12) X.1 X.2.1 dX6_copy_159 (by decide) ?_
      refine lv_iload X.1 X.2.1 dX6_copy_161 (lv_at hl 5 rfl) ?_
      refine lv_imul X.1 X.2.1 dX6_copy_163 ?_
      refine lv_iload X.1 X.2.1 dX6_copy_164 (lv_at hl 6 rfl) ?_
      refine lv_iadd X.1 X.2.1 dX6_copy_166 ?_
      refine q_aload_n X dX6_copy_167 rfl (lv_at hl 0 rfl) ?_
      have ho := gR_e hf
      clear hf
      obtain ⟨a141, v142, e143, k144, q145, hf⟩ := ho
      cases e143
      refine q_get X M flX6_59.g k144 (congrArg va_rf q145) dX6_copy_168 ?_
      refine lv_bipush (v := 12) X.1 X.2.1 dX6_copy_171 (by decide) ?_
      refine lv_iload X.1 X.2.1 dX6_copy_173 (lv_at hl 4 rfl) ?_
      refine lv_imul X.1 X.2.1 dX6_copy_175 ?_
      refine lv_iload X.1 X.2.1 dX6_copy_176 (lv_at hl 6 rfl) ?_
      refine lv_iadd X.1 X.2.1 dX6_copy_178 ?_
      have ho := aI_e hf
      clear hf
      obtain ⟨a146, v147, e148, k149, i150, q151, hf⟩ := ho
      cases e148
      refine q_iald X M k149 i150 dX6_copy_179 ?_
      rw [q151]
      have ho := tI_e hf
      clear hf
      obtain ⟨a152, w153, e154, k155, i156, q157, hf⟩ := ho
      cases e154
      refine q_iast X M hS k155 i156 dX6_copy_180 (fun H locs M hS => ?_)
      rw [q157] at M
      refine q_aload_n X dX6_copy_181 rfl (lv_at hl 0 rfl) ?_
      have ho := gR_e hf
      clear hf
      obtain ⟨a158, v159, e160, k161, q162, hf⟩ := ho
      cases e160
      refine q_get X M flX6_62.g k161 (congrArg va_rf q162) dX6_copy_182 ?_
      refine lv_bipush (v := 12) X.1 X.2.1 dX6_copy_185 (by decide) ?_
      refine lv_iload X.1 X.2.1 dX6_copy_187 (lv_at hl 5 rfl) ?_
      refine lv_imul X.1 X.2.1 dX6_copy_189 ?_
      refine lv_iload X.1 X.2.1 dX6_copy_190 (lv_at hl 6 rfl) ?_
      refine lv_iadd X.1 X.2.1 dX6_copy_192 ?_
      refine q_aload_n X dX6_copy_193 rfl (lv_at hl 0 rfl) ?_
      have ho := gR_e hf
      clear hf
      obtain ⟨a163, v164, e165, k166, q167, hf⟩ := ho
      cases e165
      refine q_get X M flX6_62.g k166 (congrArg va_rf q167) dX6_copy_194 ?_
      refine lv_bipush (v := 12) X.1 X.2.1 dX6_copy_197 (by decide) ?_
      refine lv_iload X.1 X.2.1 dX6_copy_199 (lv_at hl 4 rfl) ?_
      refine lv_imul X.1 X.2.1 dX6_copy_201 ?_
      refine lv_iload X.1 X.2.1 dX6_copy_202 (lv_at hl 6 rfl) ?_
      refine lv_iadd X.1 X.2.1 dX6_copy_204 ?_
      have ho := aI_e hf
      clear hf
      obtain ⟨a168, v169, e170, k171, i172, q173, hf⟩ := ho
      cases e170
      refine q_iald X M k171 i172 dX6_copy_205 ?_
      rw [q173]
      have ho := tI_e hf
      clear hf
      obtain ⟨a174, w175, e176, k177, i178, q179, hf⟩ := ho
      cases e176
      refine q_iast X M hS k177 i178 dX6_copy_206 (fun H locs M hS => ?_)
      rw [q179] at M
      refine q_aload_n X dX6_copy_207 rfl (lv_at hl 0 rfl) ?_
      have ho := gR_e hf
      clear hf
      obtain ⟨a180, v181, e182, k183, q184, hf⟩ := ho
      cases e182
      refine q_get X M flX6_65.g k183 (congrArg va_rf q184) dX6_copy_208 ?_
      refine lv_bipush (v := 12) X.1 X.2.1 dX6_copy_211 (by decide) ?_
      refine lv_iload X.1 X.2.1 dX6_copy_213 (lv_at hl 5 rfl) ?_
      refine lv_imul X.1 X.2.1 dX6_copy_215 ?_
      refine lv_iload X.1 X.2.1 dX6_copy_216 (lv_at hl 6 rfl) ?_
      refine lv_iadd X.1 X.2.1 dX6_copy_218 ?_
      refine q_aload_n X dX6_copy_219 rfl (lv_at hl 0 rfl) ?_
      have ho := gR_e hf
      clear hf
      obtain ⟨a185, v186, e187, k188, q189, hf⟩ := ho
      cases e187
      refine q_get X M flX6_65.g k188 (congrArg va_rf q189) dX6_copy_220 ?_
      refine lv_bipush (v := 12) X.1 X.2.1 dX6_copy_223 (by decide) ?_
      refine lv_iload X.1 X.2.1 dX6_copy_225 (lv_at hl 4 rfl) ?_
      refine lv_imul X.1 X.2.1 dX6_copy_227 ?_
      refine lv_iload X.1 X.2.1 dX6_copy_228 (lv_at hl 6 rfl) ?_
      refine lv_iadd X.1 X.2.1 dX6_copy_230 ?_
      have ho := aL_e hf
      clear hf
      obtain ⟨a190, v191, e192, k193, i194, q195, hf⟩ := ho
      cases e192
      refine q_lald X M k193 i194 dX6_copy_231 ?_
      rw [q195]
      have ho := tL_e hf
      clear hf
      obtain ⟨a196, w197, e198, k199, i200, q201, hf⟩ := ho
      cases e198
      refine q_last X M hS k199 i200 dX6_copy_232 (fun H locs M hS => ?_)
      rw [q201] at M
      refine lv_iinc (v := (x6 + 1)) (lv' := [(6, .int (x6 + 1)), (0, va_rf (some o)), (1, .int x1), (2, .int x2), (3, .int x3), (4, .int x4), (5, .int x5)]) X.1 X.2.1 dX6_copy_233 hl (k := 6) rfl rfl (by decide) rfl (fun ls hl => ?_)
      refine lv_goto (tgt := 122) X.1 X.2.1 dX6_copy_236 (by decide) ?_
      exact ih o x1 x2 x3 x4 x5 (x6 + 1) w197 _ _ _ _ _ hf M hS (by omega) (by omega) (lv_sub hl [1, 2, 3, 4, 5, 6, 0] rfl)
def f_X6_copy_242 (K307 : Nat → Int32 → Int32 → Int32 → Wd → Option (Unit × Wd)) : Nat → Nat → Int32 → Int32 → Int32 → Int32 → Int32 → Int32 → Wd → Option (Unit × Wd)
  | 0, _, _, _, _, _, _, _, _ => none
  | n + 1, o, x1, x2, x3, x4, x5, x6, w => if 6 ≤ x6 then (K307 o x1 x2 x3 w) else (gR w (some o) 7 26 (fun v204 => gR w (some o) 7 26 (fun v209 => aI w v209 100 ((6 * x4) + x6) (fun v214 => tI w v204 100 ((6 * x5) + x6) v214 (fun w220 => gR w220 (some o) 7 27 (fun v226 => gR w220 (some o) 7 27 (fun v231 => aI w220 v231 100 ((6 * x4) + x6) (fun v236 => tI w220 v226 100 ((6 * x5) + x6) v236 (fun w242 => (f_X6_copy_242 K307 n) o x1 x2 x3 x4 x5 (x6 + 1) w242)))))))))
set_option maxHeartbeats 4000000 in
set_option maxRecDepth 100000 in
theorem b_X6_copy_242 {l : Launch} {D : va_G} {aC : Nat → ClassId} {b0 : Nat} {p : Program} {e : Env} {s : State} {m : MethodId} {args : Array Value} {below : List Frame} {meth : Method} {c : Code} (X : Cx D aC p s m args meth c cX6_copy RX6 7 "copy" none) {res : (Unit × Wd)} {K307 : Nat → Int32 → Int32 → Int32 → Wd → Option (Unit × Wd)} (hK307 : ∀ (o : Nat) (x1 : Int32) (x2 : Int32) (x3 : Int32) (w : Wd), BW l D aC b0 p e rX6_copy s m args below meth c (Qe D aC b0 below args s 0 0 none res.2) res 0 0 0 0 (K307 o x1 x2 x3 w) w 307 7 [(0, va_rf (some o)), (1, .int x1), (2, .int x2), (3, .int x3)] []) : ∀ (n : Nat) (o : Nat) (x1 : Int32) (x2 : Int32) (x3 : Int32) (x4 : Int32) (x5 : Int32) (x6 : Int32) (w : Wd), BW l D aC b0 p e rX6_copy s m args below meth c (Qe D aC b0 below args s 0 0 none res.2) res 0 0 0 0 (f_X6_copy_242 K307 n o x1 x2 x3 x4 x5 x6 w) w 242 7 [(0, va_rf (some o)), (1, .int x1), (2, .int x2), (3, .int x3), (4, .int x4), (5, .int x5), (6, .int x6)] [] := by
  intro n
  induction n with
  | zero =>
    intro o x1 x2 x3 x4 x5 x6 w H locs cells slots ls hf
    rw [f_X6_copy_242.eq_1] at hf
    cases hf
  | succ n ih =>
    intro o x1 x2 x3 x4 x5 x6 w H locs cells slots ls hf M hS hc hs hl
    rw [f_X6_copy_242.eq_2] at hf
    refine lv_iload X.1 X.2.1 dX6_copy_242 (lv_at hl 6 rfl) ?_
    refine lv_bipush (v := 6) X.1 X.2.1 dX6_copy_244 (by decide) ?_
    refine lv_icmp_ge (tgt := 307) X.1 X.2.1 dX6_copy_246 (by decide) (fun c202 => ?_) (fun c202 => ?_)
    · rw [if_pos c202] at hf
      exact hK307 o x1 x2 x3 w _ _ _ _ _ hf M hS (by omega) (by omega) (lv_sub hl [0, 1, 2, 3] rfl)
    · rw [if_neg c202] at hf
      refine q_aload_n X dX6_copy_249 rfl (lv_at hl 0 rfl) ?_
      have ho := gR_e hf
      clear hf
      obtain ⟨a203, v204, e205, k206, q207, hf⟩ := ho
      cases e205
      refine q_get X M flX6_68.g k206 (congrArg va_rf q207) dX6_copy_250 ?_
      refine lv_bipush (v := 6) X.1 X.2.1 dX6_copy_253 (by decide) ?_
      refine lv_iload X.1 X.2.1 dX6_copy_255 (lv_at hl 5 rfl) ?_
      refine lv_imul X.1 X.2.1 dX6_copy_257 ?_
      refine lv_iload X.1 X.2.1 dX6_copy_258 (lv_at hl 6 rfl) ?_
      refine lv_iadd X.1 X.2.1 dX6_copy_260 ?_
      refine q_aload_n X dX6_copy_261 rfl (lv_at hl 0 rfl) ?_
      have ho := gR_e hf
      clear hf
      obtain ⟨a208, v209, e210, k211, q212, hf⟩ := ho
      cases e210
      refine q_get X M flX6_68.g k211 (congrArg va_rf q212) dX6_copy_262 ?_
      refine lv_bipush (v := 6) X.1 X.2.1 dX6_copy_265 (by decide) ?_
      refine lv_iload X.1 X.2.1 dX6_copy_267 (lv_at hl 4 rfl) ?_
      refine lv_imul X.1 X.2.1 dX6_copy_269 ?_
      refine lv_iload X.1 X.2.1 dX6_copy_270 (lv_at hl 6 rfl) ?_
      refine lv_iadd X.1 X.2.1 dX6_copy_272 ?_
      have ho := aI_e hf
      clear hf
      obtain ⟨a213, v214, e215, k216, i217, q218, hf⟩ := ho
      cases e215
      refine q_iald X M k216 i217 dX6_copy_273 ?_
      rw [q218]
      have ho := tI_e hf
      clear hf
      obtain ⟨a219, w220, e221, k222, i223, q224, hf⟩ := ho
      cases e221
      refine q_iast X M hS k222 i223 dX6_copy_274 (fun H locs M hS => ?_)
      rw [q224] at M
      refine q_aload_n X dX6_copy_275 rfl (lv_at hl 0 rfl) ?_
      have ho := gR_e hf
      clear hf
      obtain ⟨a225, v226, e227, k228, q229, hf⟩ := ho
      cases e227
      refine q_get X M flX6_71.g k228 (congrArg va_rf q229) dX6_copy_276 ?_
      refine lv_bipush (v := 6) X.1 X.2.1 dX6_copy_279 (by decide) ?_
      refine lv_iload X.1 X.2.1 dX6_copy_281 (lv_at hl 5 rfl) ?_
      refine lv_imul X.1 X.2.1 dX6_copy_283 ?_
      refine lv_iload X.1 X.2.1 dX6_copy_284 (lv_at hl 6 rfl) ?_
      refine lv_iadd X.1 X.2.1 dX6_copy_286 ?_
      refine q_aload_n X dX6_copy_287 rfl (lv_at hl 0 rfl) ?_
      have ho := gR_e hf
      clear hf
      obtain ⟨a230, v231, e232, k233, q234, hf⟩ := ho
      cases e232
      refine q_get X M flX6_71.g k233 (congrArg va_rf q234) dX6_copy_288 ?_
      refine lv_bipush (v := 6) X.1 X.2.1 dX6_copy_291 (by decide) ?_
      refine lv_iload X.1 X.2.1 dX6_copy_293 (lv_at hl 4 rfl) ?_
      refine lv_imul X.1 X.2.1 dX6_copy_295 ?_
      refine lv_iload X.1 X.2.1 dX6_copy_296 (lv_at hl 6 rfl) ?_
      refine lv_iadd X.1 X.2.1 dX6_copy_298 ?_
      have ho := aI_e hf
      clear hf
      obtain ⟨a235, v236, e237, k238, i239, q240, hf⟩ := ho
      cases e237
      refine q_iald X M k238 i239 dX6_copy_299 ?_
      rw [q240]
      have ho := tI_e hf
      clear hf
      obtain ⟨a241, w242, e243, k244, i245, q246, hf⟩ := ho
      cases e243
      refine q_iast X M hS k244 i245 dX6_copy_300 (fun H locs M hS => ?_)
      rw [q246] at M
      refine lv_iinc (v := (x6 + 1)) (lv' := [(6, .int (x6 + 1)), (0, va_rf (some o)), (1, .int x1), (2, .int x2), (3, .int x3), (4, .int x4), (5, .int x5)]) X.1 X.2.1 dX6_copy_301 hl (k := 6) rfl rfl (by decide) rfl (fun ls hl => ?_)
      refine lv_goto (tgt := 242) X.1 X.2.1 dX6_copy_304 (by decide) ?_
      exact ih o x1 x2 x3 x4 x5 (x6 + 1) w242 _ _ _ _ _ hf M hS (by omega) (by omega) (lv_sub hl [1, 2, 3, 4, 5, 6, 0] rfl)
def f_X6_copy_307 (K2 : Nat → Int32 → Int32 → Int32 → Wd → Option (Unit × Wd)) (o : Nat) (x1 : Int32) (x2 : Int32) (x3 : Int32) (w : Wd) : Option (Unit × Wd) := K2 o x1 x2 (x3 + 1) w
set_option maxHeartbeats 4000000 in
set_option maxRecDepth 100000 in
theorem b_X6_copy_307 {l : Launch} {D : va_G} {aC : Nat → ClassId} {b0 : Nat} {p : Program} {e : Env} {s : State} {m : MethodId} {args : Array Value} {below : List Frame} {meth : Method} {c : Code} (X : Cx D aC p s m args meth c cX6_copy RX6 7 "copy" none) {res : (Unit × Wd)} {K2 : Nat → Int32 → Int32 → Int32 → Wd → Option (Unit × Wd)} (hK2 : ∀ (o : Nat) (x1 : Int32) (x2 : Int32) (x3 : Int32) (w : Wd), BW l D aC b0 p e rX6_copy s m args below meth c (Qe D aC b0 below args s 0 0 none res.2) res 0 0 0 0 (K2 o x1 x2 x3 w) w 2 7 [(0, va_rf (some o)), (1, .int x1), (2, .int x2), (3, .int x3)] []) : ∀ (o : Nat) (x1 : Int32) (x2 : Int32) (x3 : Int32) (w : Wd), BW l D aC b0 p e rX6_copy s m args below meth c (Qe D aC b0 below args s 0 0 none res.2) res 0 0 0 0 (f_X6_copy_307 K2 o x1 x2 x3 w) w 307 7 [(0, va_rf (some o)), (1, .int x1), (2, .int x2), (3, .int x3)] [] := by
  intro o x1 x2 x3 w H locs cells slots ls hf M hS hc hs hl
  unfold f_X6_copy_307 at hf
  refine lv_iinc (v := (x3 + 1)) (lv' := [(3, .int (x3 + 1)), (0, va_rf (some o)), (1, .int x1), (2, .int x2)]) X.1 X.2.1 dX6_copy_307 hl (k := 3) rfl rfl (by decide) rfl (fun ls hl => ?_)
  refine lv_goto (tgt := 2) X.1 X.2.1 dX6_copy_310 (by decide) ?_
  exact hK2 o x1 x2 (x3 + 1) w _ _ _ _ _ hf M hS (by omega) (by omega) (lv_sub hl [1, 2, 3, 0] rfl)
def f_X6_copy_239 (K2 : Nat → Int32 → Int32 → Int32 → Wd → Option (Unit × Wd)) (o : Nat) (x1 : Int32) (x2 : Int32) (x3 : Int32) (x4 : Int32) (x5 : Int32) (w : Wd) : Option (Unit × Wd) := (f_X6_copy_242 (f_X6_copy_307 K2) FU) o x1 x2 x3 x4 x5 0 w
set_option maxHeartbeats 4000000 in
set_option maxRecDepth 100000 in
theorem b_X6_copy_239 {l : Launch} {D : va_G} {aC : Nat → ClassId} {b0 : Nat} {p : Program} {e : Env} {s : State} {m : MethodId} {args : Array Value} {below : List Frame} {meth : Method} {c : Code} (X : Cx D aC p s m args meth c cX6_copy RX6 7 "copy" none) {res : (Unit × Wd)} {K2 : Nat → Int32 → Int32 → Int32 → Wd → Option (Unit × Wd)} (hK2 : ∀ (o : Nat) (x1 : Int32) (x2 : Int32) (x3 : Int32) (w : Wd), BW l D aC b0 p e rX6_copy s m args below meth c (Qe D aC b0 below args s 0 0 none res.2) res 0 0 0 0 (K2 o x1 x2 x3 w) w 2 7 [(0, va_rf (some o)), (1, .int x1), (2, .int x2), (3, .int x3)] []) : ∀ (o : Nat) (x1 : Int32) (x2 : Int32) (x3 : Int32) (x4 : Int32) (x5 : Int32) (w : Wd), BW l D aC b0 p e rX6_copy s m args below meth c (Qe D aC b0 below args s 0 0 none res.2) res 0 0 0 0 (f_X6_copy_239 K2 o x1 x2 x3 x4 x5 w) w 239 7 [(0, va_rf (some o)), (1, .int x1), (2, .int x2), (3, .int x3), (4, .int x4), (5, .int x5)] [] := by
  intro o x1 x2 x3 x4 x5 w H locs cells slots ls hf M hS hc hs hl
  unfold f_X6_copy_239 at hf
  refine lv_iconst (v := 0) X.1 X.2.1 dX6_copy_239 (by decide) ?_
  refine lv_istore (i := 6) (lv' := [(6, .int 0), (0, va_rf (some o)), (1, .int x1), (2, .int x2), (3, .int x3), (4, .int x4), (5, .int x5)]) X.1 X.2.1 dX6_copy_240 hl (by decide) rfl (fun ls hl => ?_)
  exact (b_X6_copy_242 X (b_X6_copy_307 X hK2) FU) o x1 x2 x3 x4 x5 0 w _ _ _ _ _ hf M hS (by omega) (by omega) (lv_sub hl [1, 2, 3, 4, 5, 6, 0] rfl)
def f_X6_copy_119 (K2 : Nat → Int32 → Int32 → Int32 → Wd → Option (Unit × Wd)) (o : Nat) (x1 : Int32) (x2 : Int32) (x3 : Int32) (x4 : Int32) (x5 : Int32) (w : Wd) : Option (Unit × Wd) := (f_X6_copy_122 (f_X6_copy_239 K2) FU) o x1 x2 x3 x4 x5 0 w
set_option maxHeartbeats 4000000 in
set_option maxRecDepth 100000 in
theorem b_X6_copy_119 {l : Launch} {D : va_G} {aC : Nat → ClassId} {b0 : Nat} {p : Program} {e : Env} {s : State} {m : MethodId} {args : Array Value} {below : List Frame} {meth : Method} {c : Code} (X : Cx D aC p s m args meth c cX6_copy RX6 7 "copy" none) {res : (Unit × Wd)} {K2 : Nat → Int32 → Int32 → Int32 → Wd → Option (Unit × Wd)} (hK2 : ∀ (o : Nat) (x1 : Int32) (x2 : Int32) (x3 : Int32) (w : Wd), BW l D aC b0 p e rX6_copy s m args below meth c (Qe D aC b0 below args s 0 0 none res.2) res 0 0 0 0 (K2 o x1 x2 x3 w) w 2 7 [(0, va_rf (some o)), (1, .int x1), (2, .int x2), (3, .int x3)] []) : ∀ (o : Nat) (x1 : Int32) (x2 : Int32) (x3 : Int32) (x4 : Int32) (x5 : Int32) (w : Wd), BW l D aC b0 p e rX6_copy s m args below meth c (Qe D aC b0 below args s 0 0 none res.2) res 0 0 0 0 (f_X6_copy_119 K2 o x1 x2 x3 x4 x5 w) w 119 7 [(0, va_rf (some o)), (1, .int x1), (2, .int x2), (3, .int x3), (4, .int x4), (5, .int x5)] [] := by
  intro o x1 x2 x3 x4 x5 w H locs cells slots ls hf M hS hc hs hl
  unfold f_X6_copy_119 at hf
  refine lv_iconst (v := 0) X.1 X.2.1 dX6_copy_119 (by decide) ?_
  refine lv_istore (i := 6) (lv' := [(6, .int 0), (0, va_rf (some o)), (1, .int x1), (2, .int x2), (3, .int x3), (4, .int x4), (5, .int x5)]) X.1 X.2.1 dX6_copy_120 hl (by decide) rfl (fun ls hl => ?_)
  exact (b_X6_copy_122 X (b_X6_copy_239 X hK2) FU) o x1 x2 x3 x4 x5 0 w _ _ _ _ _ hf M hS (by omega) (by omega) (lv_sub hl [1, 2, 3, 4, 5, 6, 0] rfl)
def f_X6_copy_2 : Nat → Nat → Int32 → Int32 → Int32 → Wd → Option (Unit × Wd)
  | 0, _, _, _, _, _ => none
  | n + 1, o, x1, x2, x3, w => if 8 ≤ x3 then (some ((), w)) else (gR w (some o) 7 17 (fun v3 => gR w (some o) 7 17 (fun v8 => aI w v8 100 ((8 * x1) + x3) (fun v13 => tI w v3 100 ((8 * x2) + x3) v13 (fun w19 => gR w19 (some o) 7 18 (fun v25 => gR w19 (some o) 7 18 (fun v30 => aI w19 v30 100 ((8 * x1) + x3) (fun v35 => tI w19 v25 100 ((8 * x2) + x3) v35 (fun w41 => gR w41 (some o) 7 19 (fun v47 => gR w41 (some o) 7 19 (fun v52 => aI w41 v52 100 ((8 * x1) + x3) (fun v57 => tI w41 v47 100 ((8 * x2) + x3) v57 (fun w63 => gR w63 (some o) 7 21 (fun v69 => gR w63 (some o) 7 21 (fun v74 => aI w63 v74 100 ((8 * x1) + x3) (fun v79 => tI w63 v69 100 ((8 * x2) + x3) v79 (fun w85 => (f_X6_copy_83 (f_X6_copy_119 (f_X6_copy_2 n)) FU) o x1 x2 x3 ((8 * x1) + x3) ((8 * x2) + x3) 0 w85)))))))))))))))))
set_option maxHeartbeats 4000000 in
set_option maxRecDepth 100000 in
theorem b_X6_copy_2 {l : Launch} {D : va_G} {aC : Nat → ClassId} {b0 : Nat} {p : Program} {e : Env} {s : State} {m : MethodId} {args : Array Value} {below : List Frame} {meth : Method} {c : Code} (X : Cx D aC p s m args meth c cX6_copy RX6 7 "copy" none) {res : (Unit × Wd)} : ∀ (n : Nat) (o : Nat) (x1 : Int32) (x2 : Int32) (x3 : Int32) (w : Wd), BW l D aC b0 p e rX6_copy s m args below meth c (Qe D aC b0 below args s 0 0 none res.2) res 0 0 0 0 (f_X6_copy_2 n o x1 x2 x3 w) w 2 7 [(0, va_rf (some o)), (1, .int x1), (2, .int x2), (3, .int x3)] [] := by
  intro n
  induction n with
  | zero =>
    intro o x1 x2 x3 w H locs cells slots ls hf
    rw [f_X6_copy_2.eq_1] at hf
    cases hf
  | succ n ih =>
    intro o x1 x2 x3 w H locs cells slots ls hf M hS hc hs hl
    rw [f_X6_copy_2.eq_2] at hf
    refine lv_iload_n X.1 X.2.1 dX6_copy_2 rfl (lv_at hl 3 rfl) ?_
    refine lv_bipush (v := 8) X.1 X.2.1 dX6_copy_3 (by decide) ?_
    refine lv_icmp_ge (tgt := 313) X.1 X.2.1 dX6_copy_5 (by decide) (fun c1 => ?_) (fun c1 => ?_)
    · rw [if_pos c1] at hf
      obtain rfl := Option.some.inj hf
      exact q_vret X M hS (by omega) (by omega) dX6_copy_313
    · rw [if_neg c1] at hf
      refine lv_bipush (v := 8) X.1 X.2.1 dX6_copy_8 (by decide) ?_
      refine lv_iload_n X.1 X.2.1 dX6_copy_10 rfl (lv_at hl 1 rfl) ?_
      refine lv_imul X.1 X.2.1 dX6_copy_11 ?_
      refine lv_iload_n X.1 X.2.1 dX6_copy_12 rfl (lv_at hl 3 rfl) ?_
      refine lv_iadd X.1 X.2.1 dX6_copy_13 ?_
      refine lv_istore (i := 4) (lv' := [(4, .int ((8 * x1) + x3)), (0, va_rf (some o)), (1, .int x1), (2, .int x2), (3, .int x3)]) X.1 X.2.1 dX6_copy_14 hl (by decide) rfl (fun ls hl => ?_)
      refine lv_bipush (v := 8) X.1 X.2.1 dX6_copy_16 (by decide) ?_
      refine lv_iload_n X.1 X.2.1 dX6_copy_18 rfl (lv_at hl 3 rfl) ?_
      refine lv_imul X.1 X.2.1 dX6_copy_19 ?_
      refine lv_iload_n X.1 X.2.1 dX6_copy_20 rfl (lv_at hl 4 rfl) ?_
      refine lv_iadd X.1 X.2.1 dX6_copy_21 ?_
      refine lv_istore (i := 5) (lv' := [(5, .int ((8 * x2) + x3)), (4, .int ((8 * x1) + x3)), (0, va_rf (some o)), (1, .int x1), (2, .int x2), (3, .int x3)]) X.1 X.2.1 dX6_copy_22 hl (by decide) rfl (fun ls hl => ?_)
      refine q_aload_n X dX6_copy_24 rfl (lv_at hl 2 rfl) ?_
      have ho := gR_e hf
      clear hf
      obtain ⟨a2, v3, e4, k5, q6, hf⟩ := ho
      cases e4
      refine q_get X M flX6_41.g k5 (congrArg va_rf q6) dX6_copy_25 ?_
      refine lv_iload X.1 X.2.1 dX6_copy_28 (lv_at hl 0 rfl) ?_
      refine q_aload_n X dX6_copy_30 rfl (lv_at hl 2 rfl) ?_
      have ho := gR_e hf
      clear hf
      obtain ⟨a7, v8, e9, k10, q11, hf⟩ := ho
      cases e9
      refine q_get X M flX6_41.g k10 (congrArg va_rf q11) dX6_copy_31 ?_
      refine lv_iload X.1 X.2.1 dX6_copy_34 (lv_at hl 1 rfl) ?_
      have ho := aI_e hf
      clear hf
      obtain ⟨a12, v13, e14, k15, i16, q17, hf⟩ := ho
      cases e14
      refine q_iald X M k15 i16 dX6_copy_36 ?_
      rw [q17]
      have ho := tI_e hf
      clear hf
      obtain ⟨a18, w19, e20, k21, i22, q23, hf⟩ := ho
      cases e20
      refine q_iast X M hS k21 i22 dX6_copy_37 (fun H locs M hS => ?_)
      rw [q23] at M
      refine q_aload_n X dX6_copy_38 rfl (lv_at hl 2 rfl) ?_
      have ho := gR_e hf
      clear hf
      obtain ⟨a24, v25, e26, k27, q28, hf⟩ := ho
      cases e26
      refine q_get X M flX6_44.g k27 (congrArg va_rf q28) dX6_copy_39 ?_
      refine lv_iload X.1 X.2.1 dX6_copy_42 (lv_at hl 0 rfl) ?_
      refine q_aload_n X dX6_copy_44 rfl (lv_at hl 2 rfl) ?_
      have ho := gR_e hf
      clear hf
      obtain ⟨a29, v30, e31, k32, q33, hf⟩ := ho
      cases e31
      refine q_get X M flX6_44.g k32 (congrArg va_rf q33) dX6_copy_45 ?_
      refine lv_iload X.1 X.2.1 dX6_copy_48 (lv_at hl 1 rfl) ?_
      have ho := aI_e hf
      clear hf
      obtain ⟨a34, v35, e36, k37, i38, q39, hf⟩ := ho
      cases e36
      refine q_iald X M k37 i38 dX6_copy_50 ?_
      rw [q39]
      have ho := tI_e hf
      clear hf
      obtain ⟨a40, w41, e42, k43, i44, q45, hf⟩ := ho
      cases e42
      refine q_iast X M hS k43 i44 dX6_copy_51 (fun H locs M hS => ?_)
      rw [q45] at M
      refine q_aload_n X dX6_copy_52 rfl (lv_at hl 2 rfl) ?_
      have ho := gR_e hf
      clear hf
      obtain ⟨a46, v47, e48, k49, q50, hf⟩ := ho
      cases e48
      refine q_get X M flX6_47.g k49 (congrArg va_rf q50) dX6_copy_53 ?_
      refine lv_iload X.1 X.2.1 dX6_copy_56 (lv_at hl 0 rfl) ?_
      refine q_aload_n X dX6_copy_58 rfl (lv_at hl 2 rfl) ?_
      have ho := gR_e hf
      clear hf
      obtain ⟨a51, v52, e53, k54, q55, hf⟩ := ho
      cases e53
      refine q_get X M flX6_47.g k54 (congrArg va_rf q55) dX6_copy_59 ?_
      refine lv_iload X.1 X.2.1 dX6_copy_62 (lv_at hl 1 rfl) ?_
      have ho := aI_e hf
      clear hf
      obtain ⟨a56, v57, e58, k59, i60, q61, hf⟩ := ho
      cases e58
      refine q_iald X M k59 i60 dX6_copy_64 ?_
      rw [q61]
      have ho := tI_e hf
      clear hf
      obtain ⟨a62, w63, e64, k65, i66, q67, hf⟩ := ho
      cases e64
      refine q_iast X M hS k65 i66 dX6_copy_65 (fun H locs M hS => ?_)
      rw [q67] at M
      refine q_aload_n X dX6_copy_66 rfl (lv_at hl 2 rfl) ?_
      have ho := gR_e hf
      clear hf
      obtain ⟨a68, v69, e70, k71, q72, hf⟩ := ho
      cases e70
      refine q_get X M flX6_53.g k71 (congrArg va_rf q72) dX6_copy_67 ?_
      refine lv_iload X.1 X.2.1 dX6_copy_70 (lv_at hl 0 rfl) ?_
      refine q_aload_n X dX6_copy_72 rfl (lv_at hl 2 rfl) ?_
      have ho := gR_e hf
      clear hf
      obtain ⟨a73, v74, e75, k76, q77, hf⟩ := ho
      cases e75
      refine q_get X M flX6_53.g k76 (congrArg va_rf q77) dX6_copy_73 ?_
      refine lv_iload X.1 X.2.1 dX6_copy_76 (lv_at hl 1 rfl) ?_
      have ho := aI_e hf
      clear hf
      obtain ⟨a78, v79, e80, k81, i82, q83, hf⟩ := ho
      cases e80
      refine q_iald X M k81 i82 dX6_copy_78 ?_
      rw [q83]
      have ho := tI_e hf
      clear hf
      obtain ⟨a84, w85, e86, k87, i88, q89, hf⟩ := ho
      cases e86
      refine q_iast X M hS k87 i88 dX6_copy_79 (fun H locs M hS => ?_)
      rw [q89] at M
      refine lv_iconst (v := 0) X.1 X.2.1 dX6_copy_80 (by decide) ?_
      refine lv_istore (i := 6) (lv' := [(6, .int 0), (5, .int ((8 * x2) + x3)), (4, .int ((8 * x1) + x3)), (0, va_rf (some o)), (1, .int x1), (2, .int x2), (3, .int x3)]) X.1 X.2.1 dX6_copy_81 hl (by decide) rfl (fun ls hl => ?_)
      exact (b_X6_copy_83 X (b_X6_copy_119 X ih) FU) o x1 x2 x3 ((8 * x1) + x3) ((8 * x2) + x3) 0 w85 _ _ _ _ _ hf M hS (by omega) (by omega) (lv_sub hl [3, 4, 5, 6, 2, 1, 0] rfl)
def f_X6_copy (o : Nat) (x1 : Int32) (x2 : Int32) (w : Wd) : Option (Unit × Wd) := (f_X6_copy_2 FU) o x1 x2 0 w
set_option maxHeartbeats 4000000 in
set_option maxRecDepth 100000 in
theorem e_X6_copy {l : Launch} {D : va_G} {aC : Nat → ClassId} {b0 : Nat} {p : Program} {e : Env} {s : State} {m : MethodId} {args : Array Value} {below : List Frame} {meth : Method} {c : Code} (X : Cx D aC p s m args meth c cX6_copy RX6 7 "copy" none) {res : (Unit × Wd)} (o : Nat) (x1 : Int32) (x2 : Int32) (w : Wd) : BW l D aC b0 p e rX6_copy s m args below meth c (Qe D aC b0 below args s 0 0 none res.2) res 0 0 0 0 (f_X6_copy o x1 x2 w) w 0 7 [(0, va_rf (some o)), (1, .int x1), (2, .int x2)] [] := by
  intro H locs cells slots ls hf M hS hc hs hl
  unfold f_X6_copy at hf
  refine lv_iconst (v := 0) X.1 X.2.1 dX6_copy_0 (by decide) ?_
  refine lv_istore_n (i := 3) (lv' := [(3, .int 0), (0, va_rf (some o)), (1, .int x1), (2, .int x2)]) X.1 X.2.1 dX6_copy_1 rfl hl (by decide) rfl (fun ls hl => ?_)
  exact (b_X6_copy_2 X FU) o x1 x2 0 w _ _ _ _ _ hf M hS (by omega) (by omega) (lv_sub hl [1, 2, 3, 0] rfl)
theorem m_X6_copy {l : Launch} {D : va_G} {aC : Nat → ClassId} {b0 : Nat} {w : Wd} (o : Nat) (x1 : Int32) (x2 : Int32) (v : Unit) (w' : Wd) (hf : f_X6_copy o x1 x2 w = some (v, w')) : Ct l D aC b0 yX6_copy (Cond.code yX6_copy cX6_copy 7 none :: Gw) rX6_copy [va_rf (some o), .int x1, .int x2] w none w' :=
  q_met (by decide) (Nat.le_of_ble_eq_true rfl) (fun p e s m below meth c X M ls hl => e_X6_copy X (res := (v, w')) o x1 x2 w s.heap [] 0 0 ls hf M va_S.rf (by decide) (by decide) hl)
