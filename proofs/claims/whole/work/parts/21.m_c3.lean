abbrev rX6_effect : Room := { frames := 0, cells := 0, slots := 0, locals := 0 }
def f_X6_effect_98 (o : Nat) (x2 : Int32) (x3 : Int64) (w : Wd) : Option (Int64 × Wd) := gR w (some o) 7 39 (fun v94 => aL w v94 101 x2 (fun v99 => if (lg_cmp x3 v99) = 0 then (some (1, w)) else (some (0, w))))
set_option maxHeartbeats 4000000 in
set_option maxRecDepth 100000 in
theorem b_X6_effect_98 {l : Launch} {D : va_G} {aC : Nat → ClassId} {b0 : Nat} {p : Program} {e : Env} {s : State} {m : MethodId} {args : Array Value} {below : List Frame} {meth : Method} {c : Code} (X : Cx D aC p s m args meth c cX6_effect RX6 5 "effect" (some .long)) {res : (Int64 × Wd)} : ∀ (o : Nat) (x2 : Int32) (x3 : Int64) (w : Wd), BW l D aC b0 p e rX6_effect s m args below meth c (Qe D aC b0 below args s 0 0 (some (.long res.1)) res.2) res 0 0 0 0 (f_X6_effect_98 o x2 x3 w) w 98 5 [(0, va_rf (some o)), (2, .int x2), (3, .long x3)] [] := by
  intro o x2 x3 w H locs cells slots ls hf M hS hc hs hl
  unfold f_X6_effect_98 at hf
  refine lv_lload_n X.1 X.2.1 dX6_effect_98 rfl (lv_at hl 2 rfl) ?_
  refine q_aload_n X dX6_effect_99 rfl (lv_at hl 0 rfl) ?_
  have ho := gR_e hf
  clear hf
  obtain ⟨a93, v94, e95, k96, q97, hf⟩ := ho
  cases e95
  refine q_get X M flX6_108.g k96 (congrArg va_rf q97) dX6_effect_100 ?_
  refine lv_iload_n X.1 X.2.1 dX6_effect_103 rfl (lv_at hl 1 rfl) ?_
  have ho := aL_e hf
  clear hf
  obtain ⟨a98, v99, e100, k101, i102, q103, hf⟩ := ho
  cases e100
  refine q_lald X M k101 i102 dX6_effect_104 ?_
  rw [q103]
  refine W.lcmp X.1 X.2.1 dX6_effect_105 ?_
  refine lv_if_ne (tgt := 113) X.1 X.2.1 dX6_effect_106 (by decide) (fun c104 => ?_) (fun c104 => ?_)
  · rw [if_neg c104] at hf
    refine lv_lconst (v := 0) X.1 X.2.1 dX6_effect_113 (by decide) ?_
    obtain rfl := Option.some.inj hf
    exact q_lret X M hS (by omega) (by omega) dX6_effect_114
  · rw [if_pos c104] at hf
    refine lv_lconst (v := 1) X.1 X.2.1 dX6_effect_109 (by decide) ?_
    refine lv_goto (tgt := 114) X.1 X.2.1 dX6_effect_110 (by decide) ?_
    obtain rfl := Option.some.inj hf
    exact q_lret X M hS (by omega) (by omega) dX6_effect_114
def f_X6_effect (o : Nat) (x1 : Int32) (x2 : Int32) (w : Wd) : Option (Int64 × Wd) := gR w (some o) 7 20 (fun v2 => aL w v2 101 x1 (fun v7 => gR w (some o) 7 38 (fun v13 => aI w v13 100 x2 (fun v18 => if v18 = 0 then (gR w (some o) 7 20 (fun v25 => gR w (some o) 7 39 (fun v30 => aL w v30 101 x2 (fun v35 => tL w v25 101 x1 v35 (fun w41 => some (v7, w41)))))) else if v18 = 1 then (gR w (some o) 7 20 (fun v48 => gR w (some o) 7 39 (fun v53 => aL w v53 101 x2 (fun v58 => tL w v48 101 x1 (v7 + v58) (fun w64 => gR w64 (some o) 7 20 (fun v70 => aL w64 v70 101 x1 (fun v75 => some (v75, w64)))))))) else if v18 = 2 then (gR w (some o) 7 39 (fun v82 => aL w v82 101 x2 (fun v87 => if (lg_cmp v7 v87) = 0 then (gR w (some o) 7 20 (fun v106 => gR w (some o) 7 40 (fun v111 => aL w v111 101 x2 (fun v116 => tL w v106 101 x1 v116 (fun w122 => (f_X6_effect_98) o x2 v7 w122))))) else ((f_X6_effect_98) o x2 v7 w)))) else (gR w (some o) 7 20 (fun v128 => gR w (some o) 7 39 (fun v133 => aL w v133 101 x2 (fun v138 => tL w v128 101 x1 (v7 * v138) (fun w144 => gR w144 (some o) 7 20 (fun v150 => aL w144 v150 101 x1 (fun v155 => some (v155, w144))))))))))))
set_option maxHeartbeats 4000000 in
set_option maxRecDepth 100000 in
theorem e_X6_effect {l : Launch} {D : va_G} {aC : Nat → ClassId} {b0 : Nat} {p : Program} {e : Env} {s : State} {m : MethodId} {args : Array Value} {below : List Frame} {meth : Method} {c : Code} (X : Cx D aC p s m args meth c cX6_effect RX6 5 "effect" (some .long)) {res : (Int64 × Wd)} (o : Nat) (x1 : Int32) (x2 : Int32) (w : Wd) : BW l D aC b0 p e rX6_effect s m args below meth c (Qe D aC b0 below args s 0 0 (some (.long res.1)) res.2) res 0 0 0 0 (f_X6_effect o x1 x2 w) w 0 5 [(0, va_rf (some o)), (1, .int x1), (2, .int x2)] [] := by
  intro H locs cells slots ls hf M hS hc hs hl
  unfold f_X6_effect at hf
  refine q_aload_n X dX6_effect_0 rfl (lv_at hl 0 rfl) ?_
  have ho := gR_e hf
  clear hf
  obtain ⟨a1, v2, e3, k4, q5, hf⟩ := ho
  cases e3
  refine q_get X M flX6_50.g k4 (congrArg va_rf q5) dX6_effect_1 ?_
  refine lv_iload_n X.1 X.2.1 dX6_effect_4 rfl (lv_at hl 1 rfl) ?_
  have ho := aL_e hf
  clear hf
  obtain ⟨a6, v7, e8, k9, i10, q11, hf⟩ := ho
  cases e8
  refine q_lald X M k9 i10 dX6_effect_5 ?_
  rw [q11]
  refine lv_lstore_n (i := 3) (lv' := [(3, .long v7), (0, va_rf (some o)), (1, .int x1), (2, .int x2)]) X.1 X.2.1 dX6_effect_6 rfl hl (by decide) rfl (fun ls hl => ?_)
  refine q_aload_n X dX6_effect_7 rfl (lv_at hl 1 rfl) ?_
  have ho := gR_e hf
  clear hf
  obtain ⟨a12, v13, e14, k15, q16, hf⟩ := ho
  cases e14
  refine q_get X M flX6_105.g k15 (congrArg va_rf q16) dX6_effect_8 ?_
  refine lv_iload_n X.1 X.2.1 dX6_effect_11 rfl (lv_at hl 3 rfl) ?_
  have ho := aI_e hf
  clear hf
  obtain ⟨a17, v18, e19, k20, i21, q22, hf⟩ := ho
  cases e19
  refine q_iald X M k20 i21 dX6_effect_12 ?_
  rw [q22]
  by_cases c23 : v18 = 0
  · rw [if_pos c23] at hf
    refine lv_tableIn (tgt := 40) (off := 27) X.1 X.2.1 dX6_effect_13 (by rw [c23]; decide) (by rw [c23]; decide) (by rw [c23]; rfl) (by decide) ?_
    refine q_aload_n X dX6_effect_40 rfl (lv_at hl 1 rfl) ?_
    have ho := gR_e hf
    clear hf
    obtain ⟨a24, v25, e26, k27, q28, hf⟩ := ho
    cases e26
    refine q_get X M flX6_50.g k27 (congrArg va_rf q28) dX6_effect_41 ?_
    refine lv_iload_n X.1 X.2.1 dX6_effect_44 rfl (lv_at hl 2 rfl) ?_
    refine q_aload_n X dX6_effect_45 rfl (lv_at hl 1 rfl) ?_
    have ho := gR_e hf
    clear hf
    obtain ⟨a29, v30, e31, k32, q33, hf⟩ := ho
    cases e31
    refine q_get X M flX6_108.g k32 (congrArg va_rf q33) dX6_effect_46 ?_
    refine lv_iload_n X.1 X.2.1 dX6_effect_49 rfl (lv_at hl 3 rfl) ?_
    have ho := aL_e hf
    clear hf
    obtain ⟨a34, v35, e36, k37, i38, q39, hf⟩ := ho
    cases e36
    refine q_lald X M k37 i38 dX6_effect_50 ?_
    rw [q39]
    have ho := tL_e hf
    clear hf
    obtain ⟨a40, w41, e42, k43, i44, q45, hf⟩ := ho
    cases e42
    refine q_last X M hS k43 i44 dX6_effect_51 (fun H locs M hS => ?_)
    rw [q45] at M
    refine lv_lload_n X.1 X.2.1 dX6_effect_52 rfl (lv_at hl 0 rfl) ?_
    obtain rfl := Option.some.inj hf
    exact q_lret X M hS (by omega) (by omega) dX6_effect_53
  rw [if_neg c23] at hf
  by_cases c46 : v18 = 1
  · rw [if_pos c46] at hf
    refine lv_tableIn (tgt := 54) (off := 41) X.1 X.2.1 dX6_effect_13 (by rw [c46]; decide) (by rw [c46]; decide) (by rw [c46]; rfl) (by decide) ?_
    refine q_aload_n X dX6_effect_54 rfl (lv_at hl 1 rfl) ?_
    have ho := gR_e hf
    clear hf
    obtain ⟨a47, v48, e49, k50, q51, hf⟩ := ho
    cases e49
    refine q_get X M flX6_50.g k50 (congrArg va_rf q51) dX6_effect_55 ?_
    refine lv_iload_n X.1 X.2.1 dX6_effect_58 rfl (lv_at hl 2 rfl) ?_
    refine lv_lload_n X.1 X.2.1 dX6_effect_59 rfl (lv_at hl 0 rfl) ?_
    refine q_aload_n X dX6_effect_60 rfl (lv_at hl 1 rfl) ?_
    have ho := gR_e hf
    clear hf
    obtain ⟨a52, v53, e54, k55, q56, hf⟩ := ho
    cases e54
    refine q_get X M flX6_108.g k55 (congrArg va_rf q56) dX6_effect_61 ?_
    refine lv_iload_n X.1 X.2.1 dX6_effect_64 rfl (lv_at hl 3 rfl) ?_
    have ho := aL_e hf
    clear hf
    obtain ⟨a57, v58, e59, k60, i61, q62, hf⟩ := ho
    cases e59
    refine q_lald X M k60 i61 dX6_effect_65 ?_
    rw [q62]
    refine lv_ladd X.1 X.2.1 dX6_effect_66 ?_
    have ho := tL_e hf
    clear hf
    obtain ⟨a63, w64, e65, k66, i67, q68, hf⟩ := ho
    cases e65
    refine q_last X M hS k66 i67 dX6_effect_67 (fun H locs M hS => ?_)
    rw [q68] at M
    refine q_aload_n X dX6_effect_68 rfl (lv_at hl 1 rfl) ?_
    have ho := gR_e hf
    clear hf
    obtain ⟨a69, v70, e71, k72, q73, hf⟩ := ho
    cases e71
    refine q_get X M flX6_50.g k72 (congrArg va_rf q73) dX6_effect_69 ?_
    refine lv_iload_n X.1 X.2.1 dX6_effect_72 rfl (lv_at hl 2 rfl) ?_
    have ho := aL_e hf
    clear hf
    obtain ⟨a74, v75, e76, k77, i78, q79, hf⟩ := ho
    cases e76
    refine q_lald X M k77 i78 dX6_effect_73 ?_
    rw [q79]
    obtain rfl := Option.some.inj hf
    exact q_lret X M hS (by omega) (by omega) dX6_effect_74
  rw [if_neg c46] at hf
  by_cases c80 : v18 = 2
  · rw [if_pos c80] at hf
    refine lv_tableIn (tgt := 75) (off := 62) X.1 X.2.1 dX6_effect_13 (by rw [c80]; decide) (by rw [c80]; decide) (by rw [c80]; rfl) (by decide) ?_
    refine lv_lload_n X.1 X.2.1 dX6_effect_75 rfl (lv_at hl 0 rfl) ?_
    refine q_aload_n X dX6_effect_76 rfl (lv_at hl 1 rfl) ?_
    have ho := gR_e hf
    clear hf
    obtain ⟨a81, v82, e83, k84, q85, hf⟩ := ho
    cases e83
    refine q_get X M flX6_108.g k84 (congrArg va_rf q85) dX6_effect_77 ?_
    refine lv_iload_n X.1 X.2.1 dX6_effect_80 rfl (lv_at hl 3 rfl) ?_
    have ho := aL_e hf
    clear hf
    obtain ⟨a86, v87, e88, k89, i90, q91, hf⟩ := ho
    cases e88
    refine q_lald X M k89 i90 dX6_effect_81 ?_
    rw [q91]
    refine W.lcmp X.1 X.2.1 dX6_effect_82 ?_
    refine lv_if_ne (tgt := 98) X.1 X.2.1 dX6_effect_83 (by decide) (fun c92 => ?_) (fun c92 => ?_)
    · rw [if_neg c92] at hf
      exact (b_X6_effect_98 X) o x2 v7 w _ _ _ _ _ hf M hS (by omega) (by omega) (lv_sub hl [1, 3, 0] rfl)
    · rw [if_pos c92] at hf
      refine q_aload_n X dX6_effect_86 rfl (lv_at hl 1 rfl) ?_
      have ho := gR_e hf
      clear hf
      obtain ⟨a105, v106, e107, k108, q109, hf⟩ := ho
      cases e107
      refine q_get X M flX6_50.g k108 (congrArg va_rf q109) dX6_effect_87 ?_
      refine lv_iload_n X.1 X.2.1 dX6_effect_90 rfl (lv_at hl 2 rfl) ?_
      refine q_aload_n X dX6_effect_91 rfl (lv_at hl 1 rfl) ?_
      have ho := gR_e hf
      clear hf
      obtain ⟨a110, v111, e112, k113, q114, hf⟩ := ho
      cases e112
      refine q_get X M flX6_111.g k113 (congrArg va_rf q114) dX6_effect_92 ?_
      refine lv_iload_n X.1 X.2.1 dX6_effect_95 rfl (lv_at hl 3 rfl) ?_
      have ho := aL_e hf
      clear hf
      obtain ⟨a115, v116, e117, k118, i119, q120, hf⟩ := ho
      cases e117
      refine q_lald X M k118 i119 dX6_effect_96 ?_
      rw [q120]
      have ho := tL_e hf
      clear hf
      obtain ⟨a121, w122, e123, k124, i125, q126, hf⟩ := ho
      cases e123
      refine q_last X M hS k124 i125 dX6_effect_97 (fun H locs M hS => ?_)
      rw [q126] at M
      exact (b_X6_effect_98 X) o x2 v7 w122 _ _ _ _ _ hf M hS (by omega) (by omega) (lv_sub hl [1, 3, 0] rfl)
  rw [if_neg c80] at hf
  have ht13 : v18.toInt < 0 ∨ 2 < v18.toInt := by
    have g0 : v18.toInt ≠ 0 := by simpa using ne_i c23
    have g1 : v18.toInt ≠ 1 := by simpa using ne_i c46
    have g2 : v18.toInt ≠ 2 := by simpa using ne_i c80
    omega
  refine lv_tableOut (tgt := 115) X.1 X.2.1 dX6_effect_13 ht13 (by decide) ?_
  refine q_aload_n X dX6_effect_115 rfl (lv_at hl 1 rfl) ?_
  have ho := gR_e hf
  clear hf
  obtain ⟨a127, v128, e129, k130, q131, hf⟩ := ho
  cases e129
  refine q_get X M flX6_50.g k130 (congrArg va_rf q131) dX6_effect_116 ?_
  refine lv_iload_n X.1 X.2.1 dX6_effect_119 rfl (lv_at hl 2 rfl) ?_
  refine lv_lload_n X.1 X.2.1 dX6_effect_120 rfl (lv_at hl 0 rfl) ?_
  refine q_aload_n X dX6_effect_121 rfl (lv_at hl 1 rfl) ?_
  have ho := gR_e hf
  clear hf
  obtain ⟨a132, v133, e134, k135, q136, hf⟩ := ho
  cases e134
  refine q_get X M flX6_108.g k135 (congrArg va_rf q136) dX6_effect_122 ?_
  refine lv_iload_n X.1 X.2.1 dX6_effect_125 rfl (lv_at hl 3 rfl) ?_
  have ho := aL_e hf
  clear hf
  obtain ⟨a137, v138, e139, k140, i141, q142, hf⟩ := ho
  cases e139
  refine q_lald X M k140 i141 dX6_effect_126 ?_
  rw [q142]
  refine lv_lmul X.1 X.2.1 dX6_effect_127 ?_
  have ho := tL_e hf
  clear hf
  obtain ⟨a143, w144, e145, k146, i147, q148, hf⟩ := ho
  cases e145
  refine q_last X M hS k146 i147 dX6_effect_128 (fun H locs M hS => ?_)
  rw [q148] at M
  refine q_aload_n X dX6_effect_129 rfl (lv_at hl 1 rfl) ?_
  have ho := gR_e hf
  clear hf
  obtain ⟨a149, v150, e151, k152, q153, hf⟩ := ho
  cases e151
  refine q_get X M flX6_50.g k152 (congrArg va_rf q153) dX6_effect_130 ?_
  refine lv_iload_n X.1 X.2.1 dX6_effect_133 rfl (lv_at hl 2 rfl) ?_
  have ho := aL_e hf
  clear hf
  obtain ⟨a154, v155, e156, k157, i158, q159, hf⟩ := ho
  cases e156
  refine q_lald X M k157 i158 dX6_effect_134 ?_
  rw [q159]
  obtain rfl := Option.some.inj hf
  exact q_lret X M hS (by omega) (by omega) dX6_effect_135
theorem m_X6_effect {l : Launch} {D : va_G} {aC : Nat → ClassId} {b0 : Nat} {w : Wd} (o : Nat) (x1 : Int32) (x2 : Int32) (v : Int64) (w' : Wd) (hf : f_X6_effect o x1 x2 w = some (v, w')) : Ct l D aC b0 yX6_effect (Cond.code yX6_effect cX6_effect 5 (some .long) :: Gw) rX6_effect [va_rf (some o), .int x1, .int x2] w (some (.long v)) w' :=
  q_met (by decide) (Nat.le_of_ble_eq_true rfl) (fun p e s m below meth c X M ls hl => e_X6_effect X (res := (v, w')) o x1 x2 w s.heap [] 0 0 ls hf M va_S.rf (by decide) (by decide) hl)
abbrev rX6_asked : Room := { frames := 3, cells := 0, slots := 0, locals := 69 }
def f_X6_asked_245 (K162 : Nat → Int32 → Int32 → Int32 → Int32 → Int32 → Wd → Option (Unit × Wd)) (o : Nat) (x1 : Int32) (x2 : Int32) (x3 : Int32) (x4 : Int32) (x5 : Int32) (w : Wd) : Option (Unit × Wd) := K162 o x1 x2 x3 x4 (x5 + 1) w
set_option maxHeartbeats 4000000 in
set_option maxRecDepth 100000 in
theorem b_X6_asked_245 {l : Launch} {D : va_G} {aC : Nat → ClassId} {b0 : Nat} {p : Program} {e : Env} {s : State} {m : MethodId} {args : Array Value} {below : List Frame} {meth : Method} {c : Code} (X : Cx D aC p s m args meth c cX6_asked RX6 8 "asked" none) {res : (Unit × Wd)} {K162 : Nat → Int32 → Int32 → Int32 → Int32 → Int32 → Wd → Option (Unit × Wd)} (hK162 : ∀ (o : Nat) (x1 : Int32) (x2 : Int32) (x3 : Int32) (x4 : Int32) (x5 : Int32) (w : Wd), BW l D aC b0 p e rX6_asked s m args below meth c (Qe D aC b0 below args s 0 0 none res.2) res 0 0 0 0 (K162 o x1 x2 x3 x4 x5 w) w 162 8 [(0, va_rf (some o)), (1, .int x1), (2, .int x2), (3, .int x3), (4, .int x4), (5, .int x5)] []) : ∀ (o : Nat) (x1 : Int32) (x2 : Int32) (x3 : Int32) (x4 : Int32) (x5 : Int32) (w : Wd), BW l D aC b0 p e rX6_asked s m args below meth c (Qe D aC b0 below args s 0 0 none res.2) res 0 0 0 0 (f_X6_asked_245 K162 o x1 x2 x3 x4 x5 w) w 245 8 [(0, va_rf (some o)), (1, .int x1), (2, .int x2), (3, .int x3), (4, .int x4), (5, .int x5)] [] := by
  intro o x1 x2 x3 x4 x5 w H locs cells slots ls hf M hS hc hs hl
  unfold f_X6_asked_245 at hf
  refine lv_iinc (v := (x5 + 1)) (lv' := [(5, .int (x5 + 1)), (0, va_rf (some o)), (1, .int x1), (2, .int x2), (3, .int x3), (4, .int x4)]) X.1 X.2.1 dX6_asked_245 hl (k := 5) rfl rfl (by decide) rfl (fun ls hl => ?_)
  refine lv_goto (tgt := 162) X.1 X.2.1 dX6_asked_248 (by decide) ?_
  exact hK162 o x1 x2 x3 x4 (x5 + 1) w _ _ _ _ _ hf M hS (by omega) (by omega) (lv_sub hl [1, 2, 3, 4, 5, 0] rfl)
def f_X6_asked_162 (K251 : Nat → Int32 → Int32 → Int32 → Int32 → Wd → Option (Unit × Wd)) (K230 : Nat → Int32 → Int32 → Int32 → Wd → Option (Unit × Wd)) : Nat → Nat → Int32 → Int32 → Int32 → Int32 → Int32 → Wd → Option (Unit × Wd)
  | 0, _, _, _, _, _, _, _ => none
  | n + 1, o, x1, x2, x3, x4, x5, w => gR w (some o) 7 21 (fun v116 => aI w v116 100 x4 (fun v121 => if v121 ≤ x5 then (K251 o x1 x2 x3 x4 w) else (gR w (some o) 7 22 (fun v128 => aI w v128 100 ((12 * x4) + x5) (fun v133 => if v133 = x3 then (gR w (some o) 7 23 (fun v140 => aI w v140 100 ((12 * x4) + x5) (fun v145 => gR w (some o) 7 34 (fun v151 => aI w v151 100 x1 (fun v156 => if v145 = v156 then (gR w (some o) 7 24 (fun v163 => aI w v163 100 ((12 * x4) + x5) (fun v168 => gR w (some o) 7 35 (fun v174 => aI w v174 100 x1 (fun v179 => if v168 = v179 then (K230 o x1 x2 ((12 * x4) + x5) w) else ((f_X6_asked_245 (f_X6_asked_162 K251 K230 n)) o x1 x2 x3 x4 x5 w)))))) else ((f_X6_asked_245 (f_X6_asked_162 K251 K230 n)) o x1 x2 x3 x4 x5 w)))))) else ((f_X6_asked_245 (f_X6_asked_162 K251 K230 n)) o x1 x2 x3 x4 x5 w))))))
set_option maxHeartbeats 4000000 in
set_option maxRecDepth 100000 in
theorem b_X6_asked_162 {l : Launch} {D : va_G} {aC : Nat → ClassId} {b0 : Nat} {p : Program} {e : Env} {s : State} {m : MethodId} {args : Array Value} {below : List Frame} {meth : Method} {c : Code} (X : Cx D aC p s m args meth c cX6_asked RX6 8 "asked" none) {res : (Unit × Wd)} {K251 : Nat → Int32 → Int32 → Int32 → Int32 → Wd → Option (Unit × Wd)} {K230 : Nat → Int32 → Int32 → Int32 → Wd → Option (Unit × Wd)} (hK251 : ∀ (o : Nat) (x1 : Int32) (x2 : Int32) (x3 : Int32) (x4 : Int32) (w : Wd), BW l D aC b0 p e rX6_asked s m args below meth c (Qe D aC b0 below args s 0 0 none res.2) res 0 0 0 0 (K251 o x1 x2 x3 x4 w) w 251 8 [(0, va_rf (some o)), (1, .int x1), (2, .int x2), (3, .int x3), (4, .int x4)] []) (hK230 : ∀ (o : Nat) (x1 : Int32) (x2 : Int32) (x6 : Int32) (w : Wd), BW l D aC b0 p e rX6_asked s m args below meth c (Qe D aC b0 below args s 0 0 none res.2) res 0 0 0 0 (K230 o x1 x2 x6 w) w 230 8 [(0, va_rf (some o)), (1, .int x1), (2, .int x2), (6, .int x6)] []) : ∀ (n : Nat) (o : Nat) (x1 : Int32) (x2 : Int32) (x3 : Int32) (x4 : Int32) (x5 : Int32) (w : Wd), BW l D aC b0 p e rX6_asked s m args below meth c (Qe D aC b0 below args s 0 0 none res.2) res 0 0 0 0 (f_X6_asked_162 K251 K230 n o x1 x2 x3 x4 x5 w) w 162 8 [(0, va_rf (some o)), (1, .int x1), (2, .int x2), (3, .int x3), (4, .int x4), (5, .int x5)] [] := by
  intro n
  induction n with
  | zero =>
    intro o x1 x2 x3 x4 x5 w H locs cells slots ls hf
    rw [f_X6_asked_162.eq_1] at hf
    cases hf
  | succ n ih =>
    intro o x1 x2 x3 x4 x5 w H locs cells slots ls hf M hS hc hs hl
    rw [f_X6_asked_162.eq_2] at hf
    refine lv_iload X.1 X.2.1 dX6_asked_162 (lv_at hl 5 rfl) ?_
    refine q_aload_n X dX6_asked_164 rfl (lv_at hl 0 rfl) ?_
    have ho := gR_e hf
    clear hf
    obtain ⟨a115, v116, e117, k118, q119, hf⟩ := ho
    cases e117
    refine q_get X M flX6_53.g k118 (congrArg va_rf q119) dX6_asked_165 ?_
    refine lv_iload X.1 X.2.1 dX6_asked_168 (lv_at hl 4 rfl) ?_
    have ho := aI_e hf
    clear hf
    obtain ⟨a120, v121, e122, k123, i124, q125, hf⟩ := ho
    cases e122
    refine q_iald X M k123 i124 dX6_asked_170 ?_
    rw [q125]
    refine lv_icmp_ge (tgt := 251) X.1 X.2.1 dX6_asked_171 (by decide) (fun c126 => ?_) (fun c126 => ?_)
    · rw [if_pos c126] at hf
      exact hK251 o x1 x2 x3 x4 w _ _ _ _ _ hf M hS (by omega) (by omega) (lv_sub hl [0, 1, 2, 3, 4] rfl)
    · rw [if_neg c126] at hf
      refine lv_bipush (v := 12) X.1 X.2.1 dX6_asked_174 (by decide) ?_
      refine lv_iload X.1 X.2.1 dX6_asked_176 (lv_at hl 4 rfl) ?_
      refine lv_imul X.1 X.2.1 dX6_asked_178 ?_
      refine lv_iload X.1 X.2.1 dX6_asked_179 (lv_at hl 5 rfl) ?_
      refine lv_iadd X.1 X.2.1 dX6_asked_181 ?_
      refine lv_istore (i := 6) (lv' := [(6, .int ((12 * x4) + x5)), (0, va_rf (some o)), (1, .int x1), (2, .int x2), (3, .int x3), (4, .int x4), (5, .int x5)]) X.1 X.2.1 dX6_asked_182 hl (by decide) rfl (fun ls hl => ?_)
      refine q_aload_n X dX6_asked_184 rfl (lv_at hl 1 rfl) ?_
      have ho := gR_e hf
      clear hf
      obtain ⟨a127, v128, e129, k130, q131, hf⟩ := ho
      cases e129
      refine q_get X M flX6_56.g k130 (congrArg va_rf q131) dX6_asked_185 ?_
      refine lv_iload X.1 X.2.1 dX6_asked_188 (lv_at hl 0 rfl) ?_
      have ho := aI_e hf
      clear hf
      obtain ⟨a132, v133, e134, k135, i136, q137, hf⟩ := ho
      cases e134
      refine q_iald X M k135 i136 dX6_asked_190 ?_
      rw [q137]
      refine lv_iload_n X.1 X.2.1 dX6_asked_191 rfl (lv_at hl 4 rfl) ?_
      refine lv_icmp_ne (tgt := 245) X.1 X.2.1 dX6_asked_192 (by decide) (fun c138 => ?_) (fun c138 => ?_)
      · rw [if_neg c138] at hf
        exact (b_X6_asked_245 X ih) o x1 x2 x3 x4 x5 w _ _ _ _ _ hf M hS (by omega) (by omega) (lv_sub hl [1, 2, 3, 4, 5, 6] rfl)
      · rw [if_pos c138] at hf
        refine q_aload_n X dX6_asked_195 rfl (lv_at hl 1 rfl) ?_
        have ho := gR_e hf
        clear hf
        obtain ⟨a139, v140, e141, k142, q143, hf⟩ := ho
        cases e141
        refine q_get X M flX6_59.g k142 (congrArg va_rf q143) dX6_asked_196 ?_
        refine lv_iload X.1 X.2.1 dX6_asked_199 (lv_at hl 0 rfl) ?_
        have ho := aI_e hf
        clear hf
        obtain ⟨a144, v145, e146, k147, i148, q149, hf⟩ := ho
        cases e146
        refine q_iald X M k147 i148 dX6_asked_201 ?_
        rw [q149]
        refine q_aload_n X dX6_asked_202 rfl (lv_at hl 1 rfl) ?_
        have ho := gR_e hf
        clear hf
        obtain ⟨a150, v151, e152, k153, q154, hf⟩ := ho
        cases e152
        refine q_get X M flX6_93.g k153 (congrArg va_rf q154) dX6_asked_203 ?_
        refine lv_iload_n X.1 X.2.1 dX6_asked_206 rfl (lv_at hl 2 rfl) ?_
        have ho := aI_e hf
        clear hf
        obtain ⟨a155, v156, e157, k158, i159, q160, hf⟩ := ho
        cases e157
        refine q_iald X M k158 i159 dX6_asked_207 ?_
        rw [q160]
        refine lv_icmp_ne (tgt := 245) X.1 X.2.1 dX6_asked_208 (by decide) (fun c161 => ?_) (fun c161 => ?_)
        · rw [if_neg c161] at hf
          exact (b_X6_asked_245 X ih) o x1 x2 x3 x4 x5 w _ _ _ _ _ hf M hS (by omega) (by omega) (lv_sub hl [1, 2, 3, 4, 5, 6] rfl)
        · rw [if_pos c161] at hf
          refine q_aload_n X dX6_asked_211 rfl (lv_at hl 1 rfl) ?_
          have ho := gR_e hf
          clear hf
          obtain ⟨a162, v163, e164, k165, q166, hf⟩ := ho
          cases e164
          refine q_get X M flX6_62.g k165 (congrArg va_rf q166) dX6_asked_212 ?_
          refine lv_iload X.1 X.2.1 dX6_asked_215 (lv_at hl 0 rfl) ?_
          have ho := aI_e hf
          clear hf
          obtain ⟨a167, v168, e169, k170, i171, q172, hf⟩ := ho
          cases e169
          refine q_iald X M k170 i171 dX6_asked_217 ?_
          rw [q172]
          refine q_aload_n X dX6_asked_218 rfl (lv_at hl 1 rfl) ?_
          have ho := gR_e hf
          clear hf
          obtain ⟨a173, v174, e175, k176, q177, hf⟩ := ho
          cases e175
          refine q_get X M flX6_96.g k176 (congrArg va_rf q177) dX6_asked_219 ?_
          refine lv_iload_n X.1 X.2.1 dX6_asked_222 rfl (lv_at hl 2 rfl) ?_
          have ho := aI_e hf
          clear hf
          obtain ⟨a178, v179, e180, k181, i182, q183, hf⟩ := ho
          cases e180
          refine q_iald X M k181 i182 dX6_asked_223 ?_
          rw [q183]
          refine lv_icmp_eq (tgt := 230) X.1 X.2.1 dX6_asked_224 (by decide) (fun c184 => ?_) (fun c184 => ?_)
          · rw [if_pos c184] at hf
            exact hK230 o x1 x2 ((12 * x4) + x5) w _ _ _ _ _ hf M hS (by omega) (by omega) (lv_sub hl [1, 2, 3, 0] rfl)
          · rw [if_neg c184] at hf
            refine lv_goto (tgt := 245) X.1 X.2.1 dX6_asked_227 (by decide) ?_
            exact (b_X6_asked_245 X ih) o x1 x2 x3 x4 x5 w _ _ _ _ _ hf M hS (by omega) (by omega) (lv_sub hl [1, 2, 3, 4, 5, 6] rfl)
def f_X6_asked_251 (o : Nat) (x1 : Int32) (x2 : Int32) (x3 : Int32) (x4 : Int32) (w : Wd) : Option (Unit × Wd) := gR w (some o) 7 21 (fun v186 => aI w v186 100 x4 (fun v191 => if v191 = 12 then (chk w (some o) 7 (fun a339 => bnd (f_X6_answer a339 x2 x1 2 0 w) (fun v336 w337 => some ((), w337)))) else (gR w (some o) 7 37 (fun v198 => aI w v198 100 x1 (fun v203 => chk w (some o) 7 (fun a211 => bnd (f_X6_effect a211 ((4 * x4) + (v203 / 8)) x1 w) (fun v208 w209 => gR w209 (some o) 7 21 (fun v215 => aI w209 v215 100 x4 (fun v220 => gR w209 (some o) 7 21 (fun v226 => aI w209 v226 100 x4 (fun v231 => tI w209 v226 100 x4 (v231 + 1) (fun w237 => gR w237 (some o) 7 22 (fun v243 => tI w237 v243 100 ((12 * x4) + v220) x3 (fun w248 => gR w248 (some o) 7 23 (fun v254 => gR w248 (some o) 7 34 (fun v259 => aI w248 v259 100 x1 (fun v264 => tI w248 v254 100 ((12 * x4) + v220) v264 (fun w270 => gR w270 (some o) 7 24 (fun v276 => gR w270 (some o) 7 35 (fun v281 => aI w270 v281 100 x1 (fun v286 => tI w270 v276 100 ((12 * x4) + v220) v286 (fun w292 => gR w292 (some o) 7 25 (fun v298 => tL w292 v298 101 ((12 * x4) + v220) v208 (fun w303 => gI w303 (some o) 7 4 (fun v309 => pI w303 (some o) 7 4 (v309 + 1) (fun w314 => gR w314 (some o) 7 29 (fun v319 => tZ w314 v319 102 x2 1 (fun w324 => chk w324 (some o) 7 (fun a333 => bnd (f_X6_answer a333 x2 x1 0 v208 w324) (fun v330 w331 => some ((), w331)))))))))))))))))))))))))))))))
set_option maxHeartbeats 4000000 in
set_option maxRecDepth 100000 in
theorem b_X6_asked_251 {l : Launch} {D : va_G} {aC : Nat → ClassId} {b0 : Nat} {p : Program} {e : Env} {s : State} {m : MethodId} {args : Array Value} {below : List Frame} {meth : Method} {c : Code} (X : Cx D aC p s m args meth c cX6_asked RX6 8 "asked" none) {res : (Unit × Wd)} : ∀ (o : Nat) (x1 : Int32) (x2 : Int32) (x3 : Int32) (x4 : Int32) (w : Wd), BW l D aC b0 p e rX6_asked s m args below meth c (Qe D aC b0 below args s 0 0 none res.2) res 0 0 0 0 (f_X6_asked_251 o x1 x2 x3 x4 w) w 251 8 [(0, va_rf (some o)), (1, .int x1), (2, .int x2), (3, .int x3), (4, .int x4)] [] := by
  intro o x1 x2 x3 x4 w H locs cells slots ls hf M hS hc hs hl
  unfold f_X6_asked_251 at hf
  refine q_aload_n X dX6_asked_251 rfl (lv_at hl 0 rfl) ?_
  have ho := gR_e hf
  clear hf
  obtain ⟨a185, v186, e187, k188, q189, hf⟩ := ho
  cases e187
  refine q_get X M flX6_53.g k188 (congrArg va_rf q189) dX6_asked_252 ?_
  refine lv_iload X.1 X.2.1 dX6_asked_255 (lv_at hl 4 rfl) ?_
  have ho := aI_e hf
  clear hf
  obtain ⟨a190, v191, e192, k193, i194, q195, hf⟩ := ho
  cases e192
  refine q_iald X M k193 i194 dX6_asked_257 ?_
  rw [q195]
  refine lv_bipush (v := 12) X.1 X.2.1 dX6_asked_258 (by decide) ?_
  refine lv_icmp_ne (tgt := 272) X.1 X.2.1 dX6_asked_260 (by decide) (fun c196 => ?_) (fun c196 => ?_)
  · rw [if_neg c196] at hf
    refine q_aload_n X dX6_asked_272 rfl (lv_at hl 0 rfl) ?_
    refine lv_iconst (v := 4) X.1 X.2.1 dX6_asked_273 (by decide) ?_
    refine lv_iload X.1 X.2.1 dX6_asked_274 (lv_at hl 4 rfl) ?_
    refine lv_imul X.1 X.2.1 dX6_asked_276 ?_
    refine q_aload_n X dX6_asked_277 rfl (lv_at hl 0 rfl) ?_
    have ho := gR_e hf
    clear hf
    obtain ⟨a197, v198, e199, k200, q201, hf⟩ := ho
    cases e199
    refine q_get X M flX6_102.g k200 (congrArg va_rf q201) dX6_asked_278 ?_
    refine lv_iload_n X.1 X.2.1 dX6_asked_281 rfl (lv_at hl 1 rfl) ?_
    have ho := aI_e hf
    clear hf
    obtain ⟨a202, v203, e204, k205, i206, q207, hf⟩ := ho
    cases e204
    refine q_iald X M k205 i206 dX6_asked_282 ?_
    rw [q207]
    refine lv_bipush (v := 8) X.1 X.2.1 dX6_asked_283 (by decide) ?_
    refine lv_idiv X.1 X.2.1 dX6_asked_285 (by decide) ?_
    refine lv_iadd X.1 X.2.1 dX6_asked_286 ?_
    refine lv_iload_n X.1 X.2.1 dX6_asked_287 rfl (lv_at hl 1 rfl) ?_
    have ho := chk_e hf
    clear hf
    obtain ⟨a211, e212, k213, hf⟩ := ho
    cases e212
    have ho := bnd_e hf
    clear hf
    obtain ⟨v208, w209, q210, hf⟩ := ho
    refine q_cV X M hS hl.1 (ci := 6) (r := (RX6, TX6, 53)) (As := [.int ((4 * x4) + (v203 / 8)), .int x1]) (m_X6_effect o ((4 * x4) + (v203 / 8)) x1 _ _ q210) mlX6_221 gm_462 gm_463 rfl (by decide) k213 rfl ⟨(Nat.le_of_ble_eq_true rfl), (Nat.le_of_ble_eq_true rfl)⟩ (rest := []) rfl (Nat.le_of_ble_eq_true rfl) (mc := 0) (ms := 0) (MC := 0) (MS := 0) rfl rfl rfl rfl (by omega) (by omega) dX6_asked_288 (st2 := [.long v208]) rfl (fun H locs M hS => ?_)
    refine lv_lstore (i := 5) (lv' := [(5, .long v208), (0, va_rf (some o)), (1, .int x1), (2, .int x2), (3, .int x3), (4, .int x4)]) X.1 X.2.1 dX6_asked_291 hl (by decide) rfl (fun ls hl => ?_)
    refine lv_bipush (v := 12) X.1 X.2.1 dX6_asked_293 (by decide) ?_
    refine lv_iload X.1 X.2.1 dX6_asked_295 (lv_at hl 5 rfl) ?_
    refine lv_imul X.1 X.2.1 dX6_asked_297 ?_
    refine q_aload_n X dX6_asked_298 rfl (lv_at hl 1 rfl) ?_
    have ho := gR_e hf
    clear hf
    obtain ⟨a214, v215, e216, k217, q218, hf⟩ := ho
    cases e216
    refine q_get X M flX6_53.g k217 (congrArg va_rf q218) dX6_asked_299 ?_
    refine lv_iload X.1 X.2.1 dX6_asked_302 (lv_at hl 5 rfl) ?_
    have ho := aI_e hf
    clear hf
    obtain ⟨a219, v220, e221, k222, i223, q224, hf⟩ := ho
    cases e221
    refine q_iald X M k222 i223 dX6_asked_304 ?_
    rw [q224]
    refine lv_iadd X.1 X.2.1 dX6_asked_305 ?_
    refine lv_istore (i := 7) (lv' := [(7, .int ((12 * x4) + v220)), (5, .long v208), (0, va_rf (some o)), (1, .int x1), (2, .int x2), (3, .int x3), (4, .int x4)]) X.1 X.2.1 dX6_asked_306 hl (by decide) rfl (fun ls hl => ?_)
    refine q_aload_n X dX6_asked_308 rfl (lv_at hl 2 rfl) ?_
    have ho := gR_e hf
    clear hf
    obtain ⟨a225, v226, e227, k228, q229, hf⟩ := ho
    cases e227
    refine q_get X M flX6_53.g k228 (congrArg va_rf q229) dX6_asked_309 ?_
    refine lv_iload X.1 X.2.1 dX6_asked_312 (lv_at hl 6 rfl) ?_
    refine lv_dup2_11 X.1 X.2.1 dX6_asked_314 rfl (cat1 _) ?_
    have ho := aI_e hf
    clear hf
    obtain ⟨a230, v231, e232, k233, i234, q235, hf⟩ := ho
    cases e232
    refine q_iald X M k233 i234 dX6_asked_315 ?_
    rw [q235]
    refine lv_iconst (v := 1) X.1 X.2.1 dX6_asked_316 (by decide) ?_
    refine lv_iadd X.1 X.2.1 dX6_asked_317 ?_
    have ho := tI_e hf
    clear hf
    obtain ⟨a236, w237, e238, k239, i240, q241, hf⟩ := ho
    cases e238
    refine q_iast X M hS k239 i240 dX6_asked_318 (fun H locs M hS => ?_)
    rw [q241] at M
    refine q_aload_n X dX6_asked_319 rfl (lv_at hl 2 rfl) ?_
    have ho := gR_e hf
    clear hf
    obtain ⟨a242, v243, e244, k245, q246, hf⟩ := ho
    cases e244
    refine q_get X M flX6_56.g k245 (congrArg va_rf q246) dX6_asked_320 ?_
    refine lv_iload X.1 X.2.1 dX6_asked_323 (lv_at hl 0 rfl) ?_
    refine lv_iload_n X.1 X.2.1 dX6_asked_325 rfl (lv_at hl 5 rfl) ?_
    have ho := tI_e hf
    clear hf
    obtain ⟨a247, w248, e249, k250, i251, q252, hf⟩ := ho
    cases e249
    refine q_iast X M hS k250 i251 dX6_asked_326 (fun H locs M hS => ?_)
    rw [q252] at M
    refine q_aload_n X dX6_asked_327 rfl (lv_at hl 2 rfl) ?_
    have ho := gR_e hf
    clear hf
    obtain ⟨a253, v254, e255, k256, q257, hf⟩ := ho
    cases e255
    refine q_get X M flX6_59.g k256 (congrArg va_rf q257) dX6_asked_328 ?_
    refine lv_iload X.1 X.2.1 dX6_asked_331 (lv_at hl 0 rfl) ?_
    refine q_aload_n X dX6_asked_333 rfl (lv_at hl 2 rfl) ?_
    have ho := gR_e hf
    clear hf
    obtain ⟨a258, v259, e260, k261, q262, hf⟩ := ho
    cases e260
    refine q_get X M flX6_93.g k261 (congrArg va_rf q262) dX6_asked_334 ?_
    refine lv_iload_n X.1 X.2.1 dX6_asked_337 rfl (lv_at hl 3 rfl) ?_
    have ho := aI_e hf
    clear hf
    obtain ⟨a263, v264, e265, k266, i267, q268, hf⟩ := ho
    cases e265
    refine q_iald X M k266 i267 dX6_asked_338 ?_
    rw [q268]
    have ho := tI_e hf
    clear hf
    obtain ⟨a269, w270, e271, k272, i273, q274, hf⟩ := ho
    cases e271
    refine q_iast X M hS k272 i273 dX6_asked_339 (fun H locs M hS => ?_)
    rw [q274] at M
    refine q_aload_n X dX6_asked_340 rfl (lv_at hl 2 rfl) ?_
    have ho := gR_e hf
    clear hf
    obtain ⟨a275, v276, e277, k278, q279, hf⟩ := ho
    cases e277
    refine q_get X M flX6_62.g k278 (congrArg va_rf q279) dX6_asked_341 ?_
    refine lv_iload X.1 X.2.1 dX6_asked_344 (lv_at hl 0 rfl) ?_
    refine q_aload_n X dX6_asked_346 rfl (lv_at hl 2 rfl) ?_
    have ho := gR_e hf
    clear hf
    obtain ⟨a280, v281, e282, k283, q284, hf⟩ := ho
    cases e282
    refine q_get X M flX6_96.g k283 (congrArg va_rf q284) dX6_asked_347 ?_
    refine lv_iload_n X.1 X.2.1 dX6_asked_350 rfl (lv_at hl 3 rfl) ?_
    have ho := aI_e hf
    clear hf
    obtain ⟨a285, v286, e287, k288, i289, q290, hf⟩ := ho
    cases e287
    refine q_iald X M k288 i289 dX6_asked_351 ?_
    rw [q290]
    have ho := tI_e hf
    clear hf
    obtain ⟨a291, w292, e293, k294, i295, q296, hf⟩ := ho
    cases e293
    refine q_iast X M hS k294 i295 dX6_asked_352 (fun H locs M hS => ?_)
    rw [q296] at M
    refine q_aload_n X dX6_asked_353 rfl (lv_at hl 2 rfl) ?_
    have ho := gR_e hf
    clear hf
    obtain ⟨a297, v298, e299, k300, q301, hf⟩ := ho
    cases e299
    refine q_get X M flX6_65.g k300 (congrArg va_rf q301) dX6_asked_354 ?_
    refine lv_iload X.1 X.2.1 dX6_asked_357 (lv_at hl 0 rfl) ?_
    refine lv_lload X.1 X.2.1 dX6_asked_359 (lv_at hl 1 rfl) ?_
    have ho := tL_e hf
    clear hf
    obtain ⟨a302, w303, e304, k305, i306, q307, hf⟩ := ho
    cases e304
    refine q_last X M hS k305 i306 dX6_asked_361 (fun H locs M hS => ?_)
    rw [q307] at M
    refine q_aload_n X dX6_asked_362 rfl (lv_at hl 2 rfl) ?_
    refine lv_dup X.1 X.2.1 dX6_asked_363 rfl ?_
    have ho := gI_e hf
    clear hf
    obtain ⟨a308, v309, e310, k311, q312, hf⟩ := ho
    cases e310
    refine q_get X M flX6_225.g k311 (congrArg Value.int q312) dX6_asked_364 ?_
    refine lv_iconst (v := 1) X.1 X.2.1 dX6_asked_367 (by decide) ?_
    refine lv_iadd X.1 X.2.1 dX6_asked_368 ?_
    have ho := pI_e hf
    clear hf
    obtain ⟨a313, w314, e315, k316, q317, hf⟩ := ho
    cases e315
    refine q_putI X M hS flX6_225 (Or.inl rfl) k316 dX6_asked_369 (fun H locs M hS => ?_)
    rw [q317] at M
    refine q_aload_n X dX6_asked_372 rfl (lv_at hl 2 rfl) ?_
    have ho := gR_e hf
    clear hf
    obtain ⟨a318, v319, e320, k321, q322, hf⟩ := ho
    cases e320
    refine q_get X M flX6_78.g k321 (congrArg va_rf q322) dX6_asked_373 ?_
    refine lv_iload_n X.1 X.2.1 dX6_asked_376 rfl (lv_at hl 4 rfl) ?_
    refine lv_iconst (v := 1) X.1 X.2.1 dX6_asked_377 (by decide) ?_
    have ho := tZ_e hf
    clear hf
    obtain ⟨a323, w324, e325, k326, i327, z329, q328, hf⟩ := ho
    cases e325
    refine q_zast X M hS k326 z329 i327 dX6_asked_378 (fun H locs M hS => ?_)
    rw [q328] at M
    refine q_aload_n X dX6_asked_379 rfl (lv_at hl 2 rfl) ?_
    refine lv_iload_n X.1 X.2.1 dX6_asked_380 rfl (lv_at hl 4 rfl) ?_
    refine lv_iload_n X.1 X.2.1 dX6_asked_381 rfl (lv_at hl 3 rfl) ?_
    refine lv_iconst (v := 0) X.1 X.2.1 dX6_asked_382 (by decide) ?_
    refine lv_lload X.1 X.2.1 dX6_asked_383 (lv_at hl 1 rfl) ?_
    have ho := chk_e hf
    clear hf
    obtain ⟨a333, e334, k335, hf⟩ := ho
    cases e334
    have ho := bnd_e hf
    clear hf
    obtain ⟨v330, w331, q332, hf⟩ := ho
    refine q_cV X M hS hl.1 (ci := 6) (r := (RX6, TX6, 53)) (As := [.int x2, .int x1, .int 0, .long v208]) (m_X6_answer o x2 x1 0 v208 _ _ q332) mlX6_213 gm_446 gm_447 rfl (by decide) k335 rfl ⟨(Nat.le_of_ble_eq_true rfl), (Nat.le_of_ble_eq_true rfl)⟩ (rest := []) rfl (Nat.le_of_ble_eq_true rfl) (mc := 0) (ms := 0) (MC := 0) (MS := 0) rfl rfl rfl rfl (by omega) (by omega) dX6_asked_385 (st2 := []) rfl (fun H locs M hS => ?_)
    obtain rfl := Option.some.inj hf
    exact q_vret X M hS (by omega) (by omega) dX6_asked_388
  · rw [if_pos c196] at hf
    refine q_aload_n X dX6_asked_263 rfl (lv_at hl 0 rfl) ?_
    refine lv_iload_n X.1 X.2.1 dX6_asked_264 rfl (lv_at hl 2 rfl) ?_
    refine lv_iload_n X.1 X.2.1 dX6_asked_265 rfl (lv_at hl 1 rfl) ?_
    refine lv_iconst (v := 2) X.1 X.2.1 dX6_asked_266 (by decide) ?_
    refine lv_lconst (v := 0) X.1 X.2.1 dX6_asked_267 (by decide) ?_
    have ho := chk_e hf
    clear hf
    obtain ⟨a339, e340, k341, hf⟩ := ho
    cases e340
    have ho := bnd_e hf
    clear hf
    obtain ⟨v336, w337, q338, hf⟩ := ho
    refine q_cV X M hS hl.1 (ci := 6) (r := (RX6, TX6, 53)) (As := [.int x2, .int x1, .int 2, .long 0]) (m_X6_answer o x2 x1 2 0 _ _ q338) mlX6_213 gm_446 gm_447 rfl (by decide) k341 rfl ⟨(Nat.le_of_ble_eq_true rfl), (Nat.le_of_ble_eq_true rfl)⟩ (rest := []) rfl (Nat.le_of_ble_eq_true rfl) (mc := 0) (ms := 0) (MC := 0) (MS := 0) rfl rfl rfl rfl (by omega) (by omega) dX6_asked_268 (st2 := []) rfl (fun H locs M hS => ?_)
    obtain rfl := Option.some.inj hf
    exact q_vret X M hS (by omega) (by omega) dX6_asked_271
def f_X6_asked_230 (o : Nat) (x1 : Int32) (x2 : Int32) (x6 : Int32) (w : Wd) : Option (Unit × Wd) := gR w (some o) 7 25 (fun v343 => aL w v343 101 x6 (fun v348 => chk w (some o) 7 (fun a356 => bnd (f_X6_answer a356 x2 x1 0 v348 w) (fun v353 w354 => some ((), w354)))))
set_option maxHeartbeats 4000000 in
set_option maxRecDepth 100000 in
theorem b_X6_asked_230 {l : Launch} {D : va_G} {aC : Nat → ClassId} {b0 : Nat} {p : Program} {e : Env} {s : State} {m : MethodId} {args : Array Value} {below : List Frame} {meth : Method} {c : Code} (X : Cx D aC p s m args meth c cX6_asked RX6 8 "asked" none) {res : (Unit × Wd)} : ∀ (o : Nat) (x1 : Int32) (x2 : Int32) (x6 : Int32) (w : Wd), BW l D aC b0 p e rX6_asked s m args below meth c (Qe D aC b0 below args s 0 0 none res.2) res 0 0 0 0 (f_X6_asked_230 o x1 x2 x6 w) w 230 8 [(0, va_rf (some o)), (1, .int x1), (2, .int x2), (6, .int x6)] [] := by
  intro o x1 x2 x6 w H locs cells slots ls hf M hS hc hs hl
  unfold f_X6_asked_230 at hf
  refine q_aload_n X dX6_asked_230 rfl (lv_at hl 0 rfl) ?_
  refine lv_iload_n X.1 X.2.1 dX6_asked_231 rfl (lv_at hl 2 rfl) ?_
  refine lv_iload_n X.1 X.2.1 dX6_asked_232 rfl (lv_at hl 1 rfl) ?_
  refine lv_iconst (v := 0) X.1 X.2.1 dX6_asked_233 (by decide) ?_
  refine q_aload_n X dX6_asked_234 rfl (lv_at hl 0 rfl) ?_
  have ho := gR_e hf
  clear hf
  obtain ⟨a342, v343, e344, k345, q346, hf⟩ := ho
  cases e344
  refine q_get X M flX6_65.g k345 (congrArg va_rf q346) dX6_asked_235 ?_
  refine lv_iload X.1 X.2.1 dX6_asked_238 (lv_at hl 3 rfl) ?_
  have ho := aL_e hf
  clear hf
  obtain ⟨a347, v348, e349, k350, i351, q352, hf⟩ := ho
  cases e349
  refine q_lald X M k350 i351 dX6_asked_240 ?_
  rw [q352]
  have ho := chk_e hf
  clear hf
  obtain ⟨a356, e357, k358, hf⟩ := ho
  cases e357
  have ho := bnd_e hf
  clear hf
  obtain ⟨v353, w354, q355, hf⟩ := ho
  refine q_cV X M hS hl.1 (ci := 6) (r := (RX6, TX6, 53)) (As := [.int x2, .int x1, .int 0, .long v348]) (m_X6_answer o x2 x1 0 v348 _ _ q355) mlX6_213 gm_446 gm_447 rfl (by decide) k358 rfl ⟨(Nat.le_of_ble_eq_true rfl), (Nat.le_of_ble_eq_true rfl)⟩ (rest := []) rfl (Nat.le_of_ble_eq_true rfl) (mc := 0) (ms := 0) (MC := 0) (MS := 0) rfl rfl rfl rfl (by omega) (by omega) dX6_asked_241 (st2 := []) rfl (fun H locs M hS => ?_)
  obtain rfl := Option.some.inj hf
  exact q_vret X M hS (by omega) (by omega) dX6_asked_244
def f_X6_asked_105 (y0 : Option Nat) (y1 : Int32) (y2 : Int32) (y3 : Int32) (y4 : Int64) (w : Wd) : Option (Unit × Wd) := chk w y0 7 (fun a403 => bnd (f_X6_answer a403 y1 y2 y3 y4 w) (fun v400 w401 => some ((), w401)))
set_option maxHeartbeats 4000000 in
set_option maxRecDepth 100000 in
theorem b_X6_asked_105 {l : Launch} {D : va_G} {aC : Nat → ClassId} {b0 : Nat} {p : Program} {e : Env} {s : State} {m : MethodId} {args : Array Value} {below : List Frame} {meth : Method} {c : Code} (X : Cx D aC p s m args meth c cX6_asked RX6 8 "asked" none) {res : (Unit × Wd)} : ∀ (y0 : Option Nat) (y1 : Int32) (y2 : Int32) (y3 : Int32) (y4 : Int64) (w : Wd), BW l D aC b0 p e rX6_asked s m args below meth c (Qe D aC b0 below args s 0 0 none res.2) res 0 0 0 0 (f_X6_asked_105 y0 y1 y2 y3 y4 w) w 105 8 [] [.long y4, .int y3, .int y2, .int y1, va_rf y0] := by
  intro y0 y1 y2 y3 y4 w H locs cells slots ls hf M hS hc hs hl
  unfold f_X6_asked_105 at hf
  have ho := chk_e hf
  clear hf
  obtain ⟨a403, e404, k405, hf⟩ := ho
  cases e404
  have ho := bnd_e hf
  clear hf
  obtain ⟨v400, w401, q402, hf⟩ := ho
  refine q_cV X M hS hl.1 (ci := 6) (r := (RX6, TX6, 53)) (As := [.int y1, .int y2, .int y3, .long y4]) (m_X6_answer a403 y1 y2 y3 y4 _ _ q402) mlX6_213 gm_446 gm_447 rfl (by decide) k405 rfl ⟨(Nat.le_of_ble_eq_true rfl), (Nat.le_of_ble_eq_true rfl)⟩ (rest := []) rfl (Nat.le_of_ble_eq_true rfl) (mc := 0) (ms := 0) (MC := 0) (MS := 0) rfl rfl rfl rfl (by omega) (by omega) dX6_asked_105 (st2 := []) rfl (fun H locs M hS => ?_)
  obtain rfl := Option.some.inj hf
  exact q_vret X M hS (by omega) (by omega) dX6_asked_108
def f_X6_asked_82 (o : Nat) (x4 : Int32) (y0 : Option Nat) (y1 : Int32) (y2 : Int32) (y3 : Int32) (w : Wd) : Option (Unit × Wd) := gR w (some o) 7 17 (fun v378 => aI w v378 100 x4 (fun v383 => if v383 = 2 then ((f_X6_asked_105) y0 y1 y2 y3 0 w) else (gR w (some o) 7 19 (fun v390 => aI w v390 100 x4 (fun v395 => (f_X6_asked_105) y0 y1 y2 y3 (v395.toInt64) w)))))
set_option maxHeartbeats 4000000 in
set_option maxRecDepth 100000 in
theorem b_X6_asked_82 {l : Launch} {D : va_G} {aC : Nat → ClassId} {b0 : Nat} {p : Program} {e : Env} {s : State} {m : MethodId} {args : Array Value} {below : List Frame} {meth : Method} {c : Code} (X : Cx D aC p s m args meth c cX6_asked RX6 8 "asked" none) {res : (Unit × Wd)} : ∀ (o : Nat) (x4 : Int32) (y0 : Option Nat) (y1 : Int32) (y2 : Int32) (y3 : Int32) (w : Wd), BW l D aC b0 p e rX6_asked s m args below meth c (Qe D aC b0 below args s 0 0 none res.2) res 0 0 0 0 (f_X6_asked_82 o x4 y0 y1 y2 y3 w) w 82 8 [(0, va_rf (some o)), (4, .int x4)] [.int y3, .int y2, .int y1, va_rf y0] := by
  intro o x4 y0 y1 y2 y3 w H locs cells slots ls hf M hS hc hs hl
  unfold f_X6_asked_82 at hf
  refine q_aload_n X dX6_asked_82 rfl (lv_at hl 0 rfl) ?_
  have ho := gR_e hf
  clear hf
  obtain ⟨a377, v378, e379, k380, q381, hf⟩ := ho
  cases e379
  refine q_get X M flX6_41.g k380 (congrArg va_rf q381) dX6_asked_83 ?_
  refine lv_iload X.1 X.2.1 dX6_asked_86 (lv_at hl 1 rfl) ?_
  have ho := aI_e hf
  clear hf
  obtain ⟨a382, v383, e384, k385, i386, q387, hf⟩ := ho
  cases e384
  refine q_iald X M k385 i386 dX6_asked_88 ?_
  rw [q387]
  refine lv_iconst (v := 2) X.1 X.2.1 dX6_asked_89 (by decide) ?_
  refine lv_icmp_ne (tgt := 97) X.1 X.2.1 dX6_asked_90 (by decide) (fun c388 => ?_) (fun c388 => ?_)
  · rw [if_neg c388] at hf
    refine q_aload_n X dX6_asked_97 rfl (lv_at hl 0 rfl) ?_
    have ho := gR_e hf
    clear hf
    obtain ⟨a389, v390, e391, k392, q393, hf⟩ := ho
    cases e391
    refine q_get X M flX6_47.g k392 (congrArg va_rf q393) dX6_asked_98 ?_
    refine lv_iload X.1 X.2.1 dX6_asked_101 (lv_at hl 1 rfl) ?_
    have ho := aI_e hf
    clear hf
    obtain ⟨a394, v395, e396, k397, i398, q399, hf⟩ := ho
    cases e396
    refine q_iald X M k397 i398 dX6_asked_103 ?_
    rw [q399]
    refine lv_i2l (v := v395.toInt64) X.1 X.2.1 dX6_asked_104 rfl ?_
    exact (b_X6_asked_105 X) y0 y1 y2 y3 (v395.toInt64) w _ _ _ _ _ hf M hS (by omega) (by omega) (lv_sub hl [] rfl)
  · rw [if_pos c388] at hf
    refine lv_lconst (v := 0) X.1 X.2.1 dX6_asked_93 (by decide) ?_
    refine lv_goto (tgt := 105) X.1 X.2.1 dX6_asked_94 (by decide) ?_
    exact (b_X6_asked_105 X) y0 y1 y2 y3 0 w _ _ _ _ _ hf M hS (by omega) (by omega) (lv_sub hl [] rfl)
def f_X6_asked (o : Nat) (x1 : Int32) (w : Wd) : Option (Unit × Wd) := gR w (some o) 7 32 (fun v2 => aI w v2 100 x1 (fun v7 => gR w (some o) 7 33 (fun v13 => aI w v13 100 x1 (fun v18 => gR w (some o) 7 37 (fun v24 => aI w v24 100 x1 (fun v29 => gR w (some o) 7 34 (fun v35 => aI w v35 100 x1 (fun v40 => chk w (some o) 7 (fun a48 => bnd (f_X6_isLive a48 v40 w) (fun v45 w46 => if v45 = 0 then (chk w46 (some o) 7 (fun a409 => bnd (f_X6_answer a409 v7 x1 3 0 w46) (fun v406 w407 => some ((), w407)))) else (gR w46 (some o) 7 17 (fun v53 => aI w46 v53 100 ((16 * v7) + (v29 - v29 / 8 * 8)) (fun v58 => if v58 = 1 then (gR w46 (some o) 7 34 (fun v65 => aI w46 v65 100 x1 (fun v70 => gR w46 (some o) 7 36 (fun v76 => aI w46 v76 100 x1 (fun v81 => chk w46 (some o) 7 (fun a89 => bnd (f_X6_know a89 v7 ((16 * v7) + (v29 - v29 / 8 * 8)) v18 v70 v81 w46) (fun v86 w87 => gR w87 (some o) 7 35 (fun v93 => aI w87 v93 100 x1 (fun v98 => gR w87 (some o) 7 27 (fun v104 => aI w87 v104 100 ((6 * ((16 * v7) + (v29 - v29 / 8 * 8))) + v18) (fun v109 => if v109 ≤ v98 then ((f_X6_asked_162 (f_X6_asked_251) (f_X6_asked_230) FU) o x1 v7 v18 ((16 * v7) + (v29 - v29 / 8 * 8)) 0 w87) else (chk w87 (some o) 7 (fun a362 => bnd (f_X6_answer a362 v7 x1 4 0 w87) (fun v359 w360 => some ((), w360))))))))))))))) else (gR w46 (some o) 7 17 (fun v366 => aI w46 v366 100 ((16 * v7) + (v29 - v29 / 8 * 8)) (fun v371 => if v371 = 2 then ((f_X6_asked_82) o ((16 * v7) + (v29 - v29 / 8 * 8)) (some o) v7 x1 2 w46) else ((f_X6_asked_82) o ((16 * v7) + (v29 - v29 / 8 * 8)) (some o) v7 x1 1 w46)))))))))))))))))
set_option maxHeartbeats 4000000 in
set_option maxRecDepth 100000 in
theorem e_X6_asked {l : Launch} {D : va_G} {aC : Nat → ClassId} {b0 : Nat} {p : Program} {e : Env} {s : State} {m : MethodId} {args : Array Value} {below : List Frame} {meth : Method} {c : Code} (X : Cx D aC p s m args meth c cX6_asked RX6 8 "asked" none) {res : (Unit × Wd)} (o : Nat) (x1 : Int32) (w : Wd) : BW l D aC b0 p e rX6_asked s m args below meth c (Qe D aC b0 below args s 0 0 none res.2) res 0 0 0 0 (f_X6_asked o x1 w) w 0 8 [(0, va_rf (some o)), (1, .int x1)] [] := by
  intro H locs cells slots ls hf M hS hc hs hl
  unfold f_X6_asked at hf
  refine q_aload_n X dX6_asked_0 rfl (lv_at hl 0 rfl) ?_
  have ho := gR_e hf
  clear hf
  obtain ⟨a1, v2, e3, k4, q5, hf⟩ := ho
  cases e3
  refine q_get X M flX6_87.g k4 (congrArg va_rf q5) dX6_asked_1 ?_
  refine lv_iload_n X.1 X.2.1 dX6_asked_4 rfl (lv_at hl 1 rfl) ?_
  have ho := aI_e hf
  clear hf
  obtain ⟨a6, v7, e8, k9, i10, q11, hf⟩ := ho
  cases e8
  refine q_iald X M k9 i10 dX6_asked_5 ?_
  rw [q11]
  refine lv_istore_n (i := 2) (lv' := [(2, .int v7), (0, va_rf (some o)), (1, .int x1)]) X.1 X.2.1 dX6_asked_6 rfl hl (by decide) rfl (fun ls hl => ?_)
  refine q_aload_n X dX6_asked_7 rfl (lv_at hl 1 rfl) ?_
  have ho := gR_e hf
  clear hf
  obtain ⟨a12, v13, e14, k15, q16, hf⟩ := ho
  cases e14
  refine q_get X M flX6_90.g k15 (congrArg va_rf q16) dX6_asked_8 ?_
  refine lv_iload_n X.1 X.2.1 dX6_asked_11 rfl (lv_at hl 2 rfl) ?_
  have ho := aI_e hf
  clear hf
  obtain ⟨a17, v18, e19, k20, i21, q22, hf⟩ := ho
  cases e19
  refine q_iald X M k20 i21 dX6_asked_12 ?_
  rw [q22]
  refine lv_istore_n (i := 3) (lv' := [(3, .int v18), (2, .int v7), (0, va_rf (some o)), (1, .int x1)]) X.1 X.2.1 dX6_asked_13 rfl hl (by decide) rfl (fun ls hl => ?_)
  refine lv_bipush (v := 16) X.1 X.2.1 dX6_asked_14 (by decide) ?_
  refine lv_iload_n X.1 X.2.1 dX6_asked_16 rfl (lv_at hl 1 rfl) ?_
  refine lv_imul X.1 X.2.1 dX6_asked_17 ?_
  refine q_aload_n X dX6_asked_18 rfl (lv_at hl 2 rfl) ?_
  have ho := gR_e hf
  clear hf
  obtain ⟨a23, v24, e25, k26, q27, hf⟩ := ho
  cases e25
  refine q_get X M flX6_102.g k26 (congrArg va_rf q27) dX6_asked_19 ?_
  refine lv_iload_n X.1 X.2.1 dX6_asked_22 rfl (lv_at hl 3 rfl) ?_
  have ho := aI_e hf
  clear hf
  obtain ⟨a28, v29, e30, k31, i32, q33, hf⟩ := ho
  cases e30
  refine q_iald X M k31 i32 dX6_asked_23 ?_
  rw [q33]
  refine lv_bipush (v := 8) X.1 X.2.1 dX6_asked_24 (by decide) ?_
  refine lv_irem X.1 X.2.1 dX6_asked_26 (by decide) ?_
  refine lv_iadd X.1 X.2.1 dX6_asked_27 ?_
  refine lv_istore (i := 4) (lv' := [(4, .int ((16 * v7) + (v29 - v29 / 8 * 8))), (3, .int v18), (2, .int v7), (0, va_rf (some o)), (1, .int x1)]) X.1 X.2.1 dX6_asked_28 hl (by decide) rfl (fun ls hl => ?_)
  refine q_aload_n X dX6_asked_30 rfl (lv_at hl 3 rfl) ?_
  refine q_aload_n X dX6_asked_31 rfl (lv_at hl 3 rfl) ?_
  have ho := gR_e hf
  clear hf
  obtain ⟨a34, v35, e36, k37, q38, hf⟩ := ho
  cases e36
  refine q_get X M flX6_93.g k37 (congrArg va_rf q38) dX6_asked_32 ?_
  refine lv_iload_n X.1 X.2.1 dX6_asked_35 rfl (lv_at hl 4 rfl) ?_
  have ho := aI_e hf
  clear hf
  obtain ⟨a39, v40, e41, k42, i43, q44, hf⟩ := ho
  cases e41
  refine q_iald X M k42 i43 dX6_asked_36 ?_
  rw [q44]
  have ho := chk_e hf
  clear hf
  obtain ⟨a48, e49, k50, hf⟩ := ho
  cases e49
  have ho := bnd_e hf
  clear hf
  obtain ⟨v45, w46, q47, hf⟩ := ho
  refine q_cV X M hS hl.1 (ci := 6) (r := (RX6, TX6, 53)) (As := [.int v40]) (m_X6_isLive o v40 _ _ q47) mlX6_179 gm_186 gm_187 rfl (by decide) k50 rfl ⟨(Nat.le_of_ble_eq_true rfl), (Nat.le_of_ble_eq_true rfl)⟩ (rest := []) rfl (Nat.le_of_ble_eq_true rfl) (mc := 0) (ms := 0) (MC := 0) (MS := 0) rfl rfl rfl rfl (by omega) (by omega) dX6_asked_37 (st2 := [.int v45]) rfl (fun H locs M hS => ?_)
  refine lv_if_ne (tgt := 52) X.1 X.2.1 dX6_asked_40 (by decide) (fun c51 => ?_) (fun c51 => ?_)
  · rw [if_neg c51] at hf
    refine q_aload_n X dX6_asked_52 rfl (lv_at hl 3 rfl) ?_
    have ho := gR_e hf
    clear hf
    obtain ⟨a52, v53, e54, k55, q56, hf⟩ := ho
    cases e54
    refine q_get X M flX6_41.g k55 (congrArg va_rf q56) dX6_asked_53 ?_
    refine lv_iload X.1 X.2.1 dX6_asked_56 (lv_at hl 0 rfl) ?_
    have ho := aI_e hf
    clear hf
    obtain ⟨a57, v58, e59, k60, i61, q62, hf⟩ := ho
    cases e59
    refine q_iald X M k60 i61 dX6_asked_58 ?_
    rw [q62]
    refine lv_iconst (v := 1) X.1 X.2.1 dX6_asked_59 (by decide) ?_
    refine lv_icmp_eq (tgt := 109) X.1 X.2.1 dX6_asked_60 (by decide) (fun c63 => ?_) (fun c63 => ?_)
    · rw [if_pos c63] at hf
      refine q_aload_n X dX6_asked_109 rfl (lv_at hl 3 rfl) ?_
      refine lv_iload_n X.1 X.2.1 dX6_asked_110 rfl (lv_at hl 2 rfl) ?_
      refine lv_iload X.1 X.2.1 dX6_asked_111 (lv_at hl 0 rfl) ?_
      refine lv_iload_n X.1 X.2.1 dX6_asked_113 rfl (lv_at hl 1 rfl) ?_
      refine q_aload_n X dX6_asked_114 rfl (lv_at hl 3 rfl) ?_
      have ho := gR_e hf
      clear hf
      obtain ⟨a64, v65, e66, k67, q68, hf⟩ := ho
      cases e66
      refine q_get X M flX6_93.g k67 (congrArg va_rf q68) dX6_asked_115 ?_
      refine lv_iload_n X.1 X.2.1 dX6_asked_118 rfl (lv_at hl 4 rfl) ?_
      have ho := aI_e hf
      clear hf
      obtain ⟨a69, v70, e71, k72, i73, q74, hf⟩ := ho
      cases e71
      refine q_iald X M k72 i73 dX6_asked_119 ?_
      rw [q74]
      refine q_aload_n X dX6_asked_120 rfl (lv_at hl 3 rfl) ?_
      have ho := gR_e hf
      clear hf
      obtain ⟨a75, v76, e77, k78, q79, hf⟩ := ho
      cases e77
      refine q_get X M flX6_99.g k78 (congrArg va_rf q79) dX6_asked_121 ?_
      refine lv_iload_n X.1 X.2.1 dX6_asked_124 rfl (lv_at hl 4 rfl) ?_
      have ho := aI_e hf
      clear hf
      obtain ⟨a80, v81, e82, k83, i84, q85, hf⟩ := ho
      cases e82
      refine q_iald X M k83 i84 dX6_asked_125 ?_
      rw [q85]
      have ho := chk_e hf
      clear hf
      obtain ⟨a89, e90, k91, hf⟩ := ho
      cases e90
      have ho := bnd_e hf
      clear hf
      obtain ⟨v86, w87, q88, hf⟩ := ho
      refine q_cV X M hS hl.1 (ci := 6) (r := (RX6, TX6, 53)) (As := [.int v7, .int ((16 * v7) + (v29 - v29 / 8 * 8)), .int v18, .int v70, .int v81]) (m_X6_know o v7 ((16 * v7) + (v29 - v29 / 8 * 8)) v18 v70 v81 _ _ q88) mlX6_217 gm_454 gm_455 rfl (by decide) k91 rfl ⟨(Nat.le_of_ble_eq_true rfl), (Nat.le_of_ble_eq_true rfl)⟩ (rest := []) rfl (Nat.le_of_ble_eq_true rfl) (mc := 0) (ms := 0) (MC := 0) (MS := 0) rfl rfl rfl rfl (by omega) (by omega) dX6_asked_126 (st2 := []) rfl (fun H locs M hS => ?_)
      refine q_aload_n X dX6_asked_129 rfl (lv_at hl 3 rfl) ?_
      have ho := gR_e hf
      clear hf
      obtain ⟨a92, v93, e94, k95, q96, hf⟩ := ho
      cases e94
      refine q_get X M flX6_96.g k95 (congrArg va_rf q96) dX6_asked_130 ?_
      refine lv_iload_n X.1 X.2.1 dX6_asked_133 rfl (lv_at hl 4 rfl) ?_
      have ho := aI_e hf
      clear hf
      obtain ⟨a97, v98, e99, k100, i101, q102, hf⟩ := ho
      cases e99
      refine q_iald X M k100 i101 dX6_asked_134 ?_
      rw [q102]
      refine q_aload_n X dX6_asked_135 rfl (lv_at hl 3 rfl) ?_
      have ho := gR_e hf
      clear hf
      obtain ⟨a103, v104, e105, k106, q107, hf⟩ := ho
      cases e105
      refine q_get X M flX6_71.g k106 (congrArg va_rf q107) dX6_asked_136 ?_
      refine lv_bipush (v := 6) X.1 X.2.1 dX6_asked_139 (by decide) ?_
      refine lv_iload X.1 X.2.1 dX6_asked_141 (lv_at hl 0 rfl) ?_
      refine lv_imul X.1 X.2.1 dX6_asked_143 ?_
      refine lv_iload_n X.1 X.2.1 dX6_asked_144 rfl (lv_at hl 1 rfl) ?_
      refine lv_iadd X.1 X.2.1 dX6_asked_145 ?_
      have ho := aI_e hf
      clear hf
      obtain ⟨a108, v109, e110, k111, i112, q113, hf⟩ := ho
      cases e110
      refine q_iald X M k111 i112 dX6_asked_146 ?_
      rw [q113]
      refine lv_icmp_ge (tgt := 159) X.1 X.2.1 dX6_asked_147 (by decide) (fun c114 => ?_) (fun c114 => ?_)
      · rw [if_pos c114] at hf
        refine lv_iconst (v := 0) X.1 X.2.1 dX6_asked_159 (by decide) ?_
        refine lv_istore (i := 5) (lv' := [(5, .int 0), (4, .int ((16 * v7) + (v29 - v29 / 8 * 8))), (3, .int v18), (2, .int v7), (0, va_rf (some o)), (1, .int x1)]) X.1 X.2.1 dX6_asked_160 hl (by decide) rfl (fun ls hl => ?_)
        exact (b_X6_asked_162 X (b_X6_asked_251 X) (b_X6_asked_230 X) FU) o x1 v7 v18 ((16 * v7) + (v29 - v29 / 8 * 8)) 0 w87 _ _ _ _ _ hf M hS (by omega) (by omega) (lv_sub hl [4, 5, 3, 2, 1, 0] rfl)
      · rw [if_neg c114] at hf
        refine q_aload_n X dX6_asked_150 rfl (lv_at hl 3 rfl) ?_
        refine lv_iload_n X.1 X.2.1 dX6_asked_151 rfl (lv_at hl 2 rfl) ?_
        refine lv_iload_n X.1 X.2.1 dX6_asked_152 rfl (lv_at hl 4 rfl) ?_
        refine lv_iconst (v := 4) X.1 X.2.1 dX6_asked_153 (by decide) ?_
        refine lv_lconst (v := 0) X.1 X.2.1 dX6_asked_154 (by decide) ?_
        have ho := chk_e hf
        clear hf
        obtain ⟨a362, e363, k364, hf⟩ := ho
        cases e363
        have ho := bnd_e hf
        clear hf
        obtain ⟨v359, w360, q361, hf⟩ := ho
        refine q_cV X M hS hl.1 (ci := 6) (r := (RX6, TX6, 53)) (As := [.int v7, .int x1, .int 4, .long 0]) (m_X6_answer o v7 x1 4 0 _ _ q361) mlX6_213 gm_446 gm_447 rfl (by decide) k364 rfl ⟨(Nat.le_of_ble_eq_true rfl), (Nat.le_of_ble_eq_true rfl)⟩ (rest := []) rfl (Nat.le_of_ble_eq_true rfl) (mc := 0) (ms := 0) (MC := 0) (MS := 0) rfl rfl rfl rfl (by omega) (by omega) dX6_asked_155 (st2 := []) rfl (fun H locs M hS => ?_)
        obtain rfl := Option.some.inj hf
        exact q_vret X M hS (by omega) (by omega) dX6_asked_158
    · rw [if_neg c63] at hf
      refine q_aload_n X dX6_asked_63 rfl (lv_at hl 3 rfl) ?_
      refine lv_iload_n X.1 X.2.1 dX6_asked_64 rfl (lv_at hl 2 rfl) ?_
      refine lv_iload_n X.1 X.2.1 dX6_asked_65 rfl (lv_at hl 4 rfl) ?_
      refine q_aload_n X dX6_asked_66 rfl (lv_at hl 3 rfl) ?_
      have ho := gR_e hf
      clear hf
      obtain ⟨a365, v366, e367, k368, q369, hf⟩ := ho
      cases e367
      refine q_get X M flX6_41.g k368 (congrArg va_rf q369) dX6_asked_67 ?_
      refine lv_iload X.1 X.2.1 dX6_asked_70 (lv_at hl 0 rfl) ?_
      have ho := aI_e hf
      clear hf
      obtain ⟨a370, v371, e372, k373, i374, q375, hf⟩ := ho
      cases e372
      refine q_iald X M k373 i374 dX6_asked_72 ?_
      rw [q375]
      refine lv_iconst (v := 2) X.1 X.2.1 dX6_asked_73 (by decide) ?_
      refine lv_icmp_ne (tgt := 81) X.1 X.2.1 dX6_asked_74 (by decide) (fun c376 => ?_) (fun c376 => ?_)
      · rw [if_neg c376] at hf
        refine lv_iconst (v := 1) X.1 X.2.1 dX6_asked_81 (by decide) ?_
        exact (b_X6_asked_82 X) o ((16 * v7) + (v29 - v29 / 8 * 8)) (some o) v7 x1 1 w46 _ _ _ _ _ hf M hS (by omega) (by omega) (lv_sub hl [3, 0] rfl)
      · rw [if_pos c376] at hf
        refine lv_iconst (v := 2) X.1 X.2.1 dX6_asked_77 (by decide) ?_
        refine lv_goto (tgt := 82) X.1 X.2.1 dX6_asked_78 (by decide) ?_
        exact (b_X6_asked_82 X) o ((16 * v7) + (v29 - v29 / 8 * 8)) (some o) v7 x1 2 w46 _ _ _ _ _ hf M hS (by omega) (by omega) (lv_sub hl [3, 0] rfl)
  · rw [if_pos c51] at hf
    refine q_aload_n X dX6_asked_43 rfl (lv_at hl 3 rfl) ?_
    refine lv_iload_n X.1 X.2.1 dX6_asked_44 rfl (lv_at hl 2 rfl) ?_
    refine lv_iload_n X.1 X.2.1 dX6_asked_45 rfl (lv_at hl 4 rfl) ?_
    refine lv_iconst (v := 3) X.1 X.2.1 dX6_asked_46 (by decide) ?_
    refine lv_lconst (v := 0) X.1 X.2.1 dX6_asked_47 (by decide) ?_
    have ho := chk_e hf
    clear hf
    obtain ⟨a409, e410, k411, hf⟩ := ho
    cases e410
    have ho := bnd_e hf
    clear hf
    obtain ⟨v406, w407, q408, hf⟩ := ho
    refine q_cV X M hS hl.1 (ci := 6) (r := (RX6, TX6, 53)) (As := [.int v7, .int x1, .int 3, .long 0]) (m_X6_answer o v7 x1 3 0 _ _ q408) mlX6_213 gm_446 gm_447 rfl (by decide) k411 rfl ⟨(Nat.le_of_ble_eq_true rfl), (Nat.le_of_ble_eq_true rfl)⟩ (rest := []) rfl (Nat.le_of_ble_eq_true rfl) (mc := 0) (ms := 0) (MC := 0) (MS := 0) rfl rfl rfl rfl (by omega) (by omega) dX6_asked_48 (st2 := []) rfl (fun H locs M hS => ?_)
    obtain rfl := Option.some.inj hf
    exact q_vret X M hS (by omega) (by omega) dX6_asked_51
theorem m_X6_asked {l : Launch} {D : va_G} {aC : Nat → ClassId} {b0 : Nat} {w : Wd} (o : Nat) (x1 : Int32) (v : Unit) (w' : Wd) (hf : f_X6_asked o x1 w = some (v, w')) : Ct l D aC b0 yX6_asked (Cond.code yX6_asked cX6_asked 8 none :: Gw) rX6_asked [va_rf (some o), .int x1] w none w' :=
  q_met (by decide) (Nat.le_of_ble_eq_true rfl) (fun p e s m below meth c X M ls hl => e_X6_asked X (res := (v, w')) o x1 w s.heap [] 0 0 ls hf M va_S.rf (by decide) (by decide) hl)
abbrev rX6_answered : Room := { frames := 3, cells := 0, slots := 0, locals := 64 }
def f_X6_answered_193 (K154 : Nat → Int32 → Int32 → Wd → Option (Unit × Wd)) (o : Nat) (x2 : Int32) (x4 : Int32) (w : Wd) : Option (Unit × Wd) := K154 o x2 (x4 + 1) w
set_option maxHeartbeats 4000000 in
set_option maxRecDepth 100000 in
theorem b_X6_answered_193 {l : Launch} {D : va_G} {aC : Nat → ClassId} {b0 : Nat} {p : Program} {e : Env} {s : State} {m : MethodId} {args : Array Value} {below : List Frame} {meth : Method} {c : Code} (X : Cx D aC p s m args meth c cX6_answered RX6 5 "answered" none) {res : (Unit × Wd)} {K154 : Nat → Int32 → Int32 → Wd → Option (Unit × Wd)} (hK154 : ∀ (o : Nat) (x2 : Int32) (x4 : Int32) (w : Wd), BW l D aC b0 p e rX6_answered s m args below meth c (Qe D aC b0 below args s 0 0 none res.2) res 0 0 0 0 (K154 o x2 x4 w) w 154 5 [(0, va_rf (some o)), (2, .int x2), (4, .int x4)] []) : ∀ (o : Nat) (x2 : Int32) (x4 : Int32) (w : Wd), BW l D aC b0 p e rX6_answered s m args below meth c (Qe D aC b0 below args s 0 0 none res.2) res 0 0 0 0 (f_X6_answered_193 K154 o x2 x4 w) w 193 5 [(0, va_rf (some o)), (2, .int x2), (4, .int x4)] [] := by
  intro o x2 x4 w H locs cells slots ls hf M hS hc hs hl
  unfold f_X6_answered_193 at hf
  refine lv_iinc (v := (x4 + 1)) (lv' := [(4, .int (x4 + 1)), (0, va_rf (some o)), (2, .int x2)]) X.1 X.2.1 dX6_answered_193 hl (k := 2) rfl rfl (by decide) rfl (fun ls hl => ?_)
  refine lv_goto (tgt := 154) X.1 X.2.1 dX6_answered_196 (by decide) ?_
  exact hK154 o x2 (x4 + 1) w _ _ _ _ _ hf M hS (by omega) (by omega) (lv_sub hl [1, 2, 0] rfl)
def f_X6_answered_154 : Nat → Nat → Int32 → Int32 → Wd → Option (Unit × Wd)
  | 0, _, _, _, _ => none
  | n + 1, o, x2, x4, w => gR w (some o) 7 9 (fun v113 => aI w v113 100 x2 (fun v118 => if v118 ≤ x4 then (some ((), w)) else (gR w (some o) 7 11 (fun v125 => aI w v125 100 ((60 * x2) + x4) (fun v130 => if v130 = 0 then (gR w (some o) 7 11 (fun v137 => tI w v137 100 ((60 * x2) + x4) 2 (fun w142 => (f_X6_answered_193 (f_X6_answered_154 n)) o x2 x4 w142))) else ((f_X6_answered_193 (f_X6_answered_154 n)) o x2 x4 w))))))
set_option maxHeartbeats 4000000 in
set_option maxRecDepth 100000 in
theorem b_X6_answered_154 {l : Launch} {D : va_G} {aC : Nat → ClassId} {b0 : Nat} {p : Program} {e : Env} {s : State} {m : MethodId} {args : Array Value} {below : List Frame} {meth : Method} {c : Code} (X : Cx D aC p s m args meth c cX6_answered RX6 5 "answered" none) {res : (Unit × Wd)} : ∀ (n : Nat) (o : Nat) (x2 : Int32) (x4 : Int32) (w : Wd), BW l D aC b0 p e rX6_answered s m args below meth c (Qe D aC b0 below args s 0 0 none res.2) res 0 0 0 0 (f_X6_answered_154 n o x2 x4 w) w 154 5 [(0, va_rf (some o)), (2, .int x2), (4, .int x4)] [] := by
  intro n
  induction n with
  | zero =>
    intro o x2 x4 w H locs cells slots ls hf
    rw [f_X6_answered_154.eq_1] at hf
    cases hf
  | succ n ih =>
    intro o x2 x4 w H locs cells slots ls hf M hS hc hs hl
    rw [f_X6_answered_154.eq_2] at hf
    refine lv_iload X.1 X.2.1 dX6_answered_154 (lv_at hl 2 rfl) ?_
    refine q_aload_n X dX6_answered_156 rfl (lv_at hl 0 rfl) ?_
    have ho := gR_e hf
    clear hf
    obtain ⟨a112, v113, e114, k115, q116, hf⟩ := ho
    cases e114
    refine q_get X M flX6_16.g k115 (congrArg va_rf q116) dX6_answered_157 ?_
    refine lv_iload_n X.1 X.2.1 dX6_answered_160 rfl (lv_at hl 1 rfl) ?_
    have ho := aI_e hf
    clear hf
    obtain ⟨a117, v118, e119, k120, i121, q122, hf⟩ := ho
    cases e119
    refine q_iald X M k120 i121 dX6_answered_161 ?_
    rw [q122]
    refine lv_icmp_ge (tgt := 199) X.1 X.2.1 dX6_answered_162 (by decide) (fun c123 => ?_) (fun c123 => ?_)
    · rw [if_pos c123] at hf
      obtain rfl := Option.some.inj hf
      exact q_vret X M hS (by omega) (by omega) dX6_answered_199
    · rw [if_neg c123] at hf
      refine q_aload_n X dX6_answered_165 rfl (lv_at hl 0 rfl) ?_
      have ho := gR_e hf
      clear hf
      obtain ⟨a124, v125, e126, k127, q128, hf⟩ := ho
      cases e126
      refine q_get X M flX6_22.g k127 (congrArg va_rf q128) dX6_answered_166 ?_
      refine lv_bipush (v := 60) X.1 X.2.1 dX6_answered_169 (by decide) ?_
      refine lv_iload_n X.1 X.2.1 dX6_answered_171 rfl (lv_at hl 1 rfl) ?_
      refine lv_imul X.1 X.2.1 dX6_answered_172 ?_
      refine lv_iload X.1 X.2.1 dX6_answered_173 (lv_at hl 2 rfl) ?_
      refine lv_iadd X.1 X.2.1 dX6_answered_175 ?_
      have ho := aI_e hf
      clear hf
      obtain ⟨a129, v130, e131, k132, i133, q134, hf⟩ := ho
      cases e131
      refine q_iald X M k132 i133 dX6_answered_176 ?_
      rw [q134]
      refine lv_if_ne (tgt := 193) X.1 X.2.1 dX6_answered_177 (by decide) (fun c135 => ?_) (fun c135 => ?_)
      · rw [if_neg c135] at hf
        exact (b_X6_answered_193 X ih) o x2 x4 w _ _ _ _ _ hf M hS (by omega) (by omega) (lv_sub hl [0, 1, 2] rfl)
      · rw [if_pos c135] at hf
        refine q_aload_n X dX6_answered_180 rfl (lv_at hl 0 rfl) ?_
        have ho := gR_e hf
        clear hf
        obtain ⟨a136, v137, e138, k139, q140, hf⟩ := ho
        cases e138
        refine q_get X M flX6_22.g k139 (congrArg va_rf q140) dX6_answered_181 ?_
        refine lv_bipush (v := 60) X.1 X.2.1 dX6_answered_184 (by decide) ?_
        refine lv_iload_n X.1 X.2.1 dX6_answered_186 rfl (lv_at hl 1 rfl) ?_
        refine lv_imul X.1 X.2.1 dX6_answered_187 ?_
        refine lv_iload X.1 X.2.1 dX6_answered_188 (lv_at hl 2 rfl) ?_
        refine lv_iadd X.1 X.2.1 dX6_answered_190 ?_
        refine lv_iconst (v := 2) X.1 X.2.1 dX6_answered_191 (by decide) ?_
        have ho := tI_e hf
        clear hf
        obtain ⟨a141, w142, e143, k144, i145, q146, hf⟩ := ho
        cases e143
        refine q_iast X M hS k144 i145 dX6_answered_192 (fun H locs M hS => ?_)
        rw [q146] at M
        exact (b_X6_answered_193 X ih) o x2 x4 w142 _ _ _ _ _ hf M hS (by omega) (by omega) (lv_sub hl [0, 1, 2] rfl)
def f_X6_answered (o : Nat) (x1 : Int32) (w : Wd) : Option (Unit × Wd) := gR w (some o) 7 32 (fun v2 => aI w v2 100 x1 (fun v7 => gR w (some o) 7 34 (fun v13 => aI w v13 100 x1 (fun v18 => gR w (some o) 7 7 (fun v24 => aI w v24 100 v7 (fun v29 => if v18 = v29 then (gR w (some o) 7 35 (fun v36 => aI w v36 100 x1 (fun v41 => chk w (some o) 7 (fun a49 => bnd (f_X6_isCall a49 v7 v41 w) (fun v46 w47 => if v46 = 0 then (some ((), w47)) else (gR w47 (some o) 7 35 (fun v54 => aI w47 v54 100 x1 (fun v59 => gR w47 (some o) 7 11 (fun v65 => aI w47 v65 100 (((60 * v7) + v59) - 1) (fun v70 => if v70 = 0 then (gR w47 (some o) 7 36 (fun v77 => aI w47 v77 100 x1 (fun v82 => if v82 = 0 then (gR w47 (some o) 7 11 (fun v181 => tI w47 v181 100 (((60 * v7) + v59) - 1) 1 (fun w186 => gR w186 (some o) 7 12 (fun v192 => gR w186 (some o) 7 39 (fun v197 => aL w186 v197 101 x1 (fun v202 => tL w186 v192 101 (((60 * v7) + v59) - 1) v202 (fun w208 => gI w208 (some o) 7 5 (fun v214 => pI w208 (some o) 7 5 (v214 + 1) (fun w219 => some ((), w219)))))))))) else (gR w47 (some o) 7 36 (fun v89 => aI w47 v89 100 x1 (fun v94 => if v94 = 1 then (gR w47 (some o) 7 10 (fun v148 => gR w47 (some o) 7 13 (fun v153 => aI w47 v153 100 (((60 * v7) + v59) - 1) (fun v158 => gR w47 (some o) 7 39 (fun v164 => aL w47 v164 101 x1 (fun v169 => tI w47 v148 100 ((8 * v7) + (v158 - v158 / 8 * 8)) (v169.toInt32) (fun w175 => some ((), w175)))))))) else (gR w47 (some o) 7 36 (fun v101 => aI w47 v101 100 x1 (fun v106 => if v106 = 3 then ((f_X6_answered_154 FU) o v7 0 w47) else (some ((), w47))))))))))) else (some ((), w47)))))))))))) else (some ((), w))))))))
set_option maxHeartbeats 4000000 in
set_option maxRecDepth 100000 in
theorem e_X6_answered {l : Launch} {D : va_G} {aC : Nat → ClassId} {b0 : Nat} {p : Program} {e : Env} {s : State} {m : MethodId} {args : Array Value} {below : List Frame} {meth : Method} {c : Code} (X : Cx D aC p s m args meth c cX6_answered RX6 5 "answered" none) {res : (Unit × Wd)} (o : Nat) (x1 : Int32) (w : Wd) : BW l D aC b0 p e rX6_answered s m args below meth c (Qe D aC b0 below args s 0 0 none res.2) res 0 0 0 0 (f_X6_answered o x1 w) w 0 5 [(0, va_rf (some o)), (1, .int x1)] [] := by
  intro H locs cells slots ls hf M hS hc hs hl
  unfold f_X6_answered at hf
  refine q_aload_n X dX6_answered_0 rfl (lv_at hl 0 rfl) ?_
  have ho := gR_e hf
  clear hf
  obtain ⟨a1, v2, e3, k4, q5, hf⟩ := ho
  cases e3
  refine q_get X M flX6_87.g k4 (congrArg va_rf q5) dX6_answered_1 ?_
  refine lv_iload_n X.1 X.2.1 dX6_answered_4 rfl (lv_at hl 1 rfl) ?_
  have ho := aI_e hf
  clear hf
  obtain ⟨a6, v7, e8, k9, i10, q11, hf⟩ := ho
  cases e8
  refine q_iald X M k9 i10 dX6_answered_5 ?_
  rw [q11]
  refine lv_istore_n (i := 2) (lv' := [(2, .int v7), (0, va_rf (some o)), (1, .int x1)]) X.1 X.2.1 dX6_answered_6 rfl hl (by decide) rfl (fun ls hl => ?_)
  refine q_aload_n X dX6_answered_7 rfl (lv_at hl 1 rfl) ?_
  have ho := gR_e hf
  clear hf
  obtain ⟨a12, v13, e14, k15, q16, hf⟩ := ho
  cases e14
  refine q_get X M flX6_93.g k15 (congrArg va_rf q16) dX6_answered_8 ?_
  refine lv_iload_n X.1 X.2.1 dX6_answered_11 rfl (lv_at hl 2 rfl) ?_
  have ho := aI_e hf
  clear hf
  obtain ⟨a17, v18, e19, k20, i21, q22, hf⟩ := ho
  cases e19
  refine q_iald X M k20 i21 dX6_answered_12 ?_
  rw [q22]
  refine q_aload_n X dX6_answered_13 rfl (lv_at hl 1 rfl) ?_
  have ho := gR_e hf
  clear hf
  obtain ⟨a23, v24, e25, k26, q27, hf⟩ := ho
  cases e25
  refine q_get X M flX6_7.g k26 (congrArg va_rf q27) dX6_answered_14 ?_
  refine lv_iload_n X.1 X.2.1 dX6_answered_17 rfl (lv_at hl 0 rfl) ?_
  have ho := aI_e hf
  clear hf
  obtain ⟨a28, v29, e30, k31, i32, q33, hf⟩ := ho
  cases e30
  refine q_iald X M k31 i32 dX6_answered_18 ?_
  rw [q33]
  refine lv_icmp_ne (tgt := 36) X.1 X.2.1 dX6_answered_19 (by decide) (fun c34 => ?_) (fun c34 => ?_)
  · rw [if_neg c34] at hf
    obtain rfl := Option.some.inj hf
    exact q_vret X M hS (by omega) (by omega) dX6_answered_36
  · rw [if_pos c34] at hf
    refine q_aload_n X dX6_answered_22 rfl (lv_at hl 1 rfl) ?_
    refine lv_iload_n X.1 X.2.1 dX6_answered_23 rfl (lv_at hl 0 rfl) ?_
    refine q_aload_n X dX6_answered_24 rfl (lv_at hl 1 rfl) ?_
    have ho := gR_e hf
    clear hf
    obtain ⟨a35, v36, e37, k38, q39, hf⟩ := ho
    cases e37
    refine q_get X M flX6_96.g k38 (congrArg va_rf q39) dX6_answered_25 ?_
    refine lv_iload_n X.1 X.2.1 dX6_answered_28 rfl (lv_at hl 2 rfl) ?_
    have ho := aI_e hf
    clear hf
    obtain ⟨a40, v41, e42, k43, i44, q45, hf⟩ := ho
    cases e42
    refine q_iald X M k43 i44 dX6_answered_29 ?_
    rw [q45]
    have ho := chk_e hf
    clear hf
    obtain ⟨a49, e50, k51, hf⟩ := ho
    cases e50
    have ho := bnd_e hf
    clear hf
    obtain ⟨v46, w47, q48, hf⟩ := ho
    refine q_cV X M hS hl.1 (ci := 6) (r := (RX6, TX6, 53)) (As := [.int v7, .int v41]) (m_X6_isCall o v7 v41 _ _ q48) mlX6_197 gm_286 gm_287 rfl (by decide) k51 rfl ⟨(Nat.le_of_ble_eq_true rfl), (Nat.le_of_ble_eq_true rfl)⟩ (rest := []) rfl (Nat.le_of_ble_eq_true rfl) (mc := 0) (ms := 0) (MC := 0) (MS := 0) rfl rfl rfl rfl (by omega) (by omega) dX6_answered_30 (st2 := [.int v46]) rfl (fun H locs M hS => ?_)
    refine lv_if_ne (tgt := 37) X.1 X.2.1 dX6_answered_33 (by decide) (fun c52 => ?_) (fun c52 => ?_)
    · rw [if_neg c52] at hf
      refine lv_bipush (v := 60) X.1 X.2.1 dX6_answered_37 (by decide) ?_
      refine lv_iload_n X.1 X.2.1 dX6_answered_39 rfl (lv_at hl 0 rfl) ?_
      refine lv_imul X.1 X.2.1 dX6_answered_40 ?_
      refine q_aload_n X dX6_answered_41 rfl (lv_at hl 1 rfl) ?_
      have ho := gR_e hf
      clear hf
      obtain ⟨a53, v54, e55, k56, q57, hf⟩ := ho
      cases e55
      refine q_get X M flX6_96.g k56 (congrArg va_rf q57) dX6_answered_42 ?_
      refine lv_iload_n X.1 X.2.1 dX6_answered_45 rfl (lv_at hl 2 rfl) ?_
      have ho := aI_e hf
      clear hf
      obtain ⟨a58, v59, e60, k61, i62, q63, hf⟩ := ho
      cases e60
      refine q_iald X M k61 i62 dX6_answered_46 ?_
      rw [q63]
      refine lv_iadd X.1 X.2.1 dX6_answered_47 ?_
      refine lv_iconst (v := 1) X.1 X.2.1 dX6_answered_48 (by decide) ?_
      refine lv_isub X.1 X.2.1 dX6_answered_49 ?_
      refine lv_istore_n (i := 3) (lv' := [(3, .int (((60 * v7) + v59) - 1)), (2, .int v7), (0, va_rf (some o)), (1, .int x1)]) X.1 X.2.1 dX6_answered_50 rfl hl (by decide) rfl (fun ls hl => ?_)
      refine q_aload_n X dX6_answered_51 rfl (lv_at hl 2 rfl) ?_
      have ho := gR_e hf
      clear hf
      obtain ⟨a64, v65, e66, k67, q68, hf⟩ := ho
      cases e66
      refine q_get X M flX6_22.g k67 (congrArg va_rf q68) dX6_answered_52 ?_
      refine lv_iload_n X.1 X.2.1 dX6_answered_55 rfl (lv_at hl 0 rfl) ?_
      have ho := aI_e hf
      clear hf
      obtain ⟨a69, v70, e71, k72, i73, q74, hf⟩ := ho
      cases e71
      refine q_iald X M k72 i73 dX6_answered_56 ?_
      rw [q74]
      refine lv_if_eq (tgt := 61) X.1 X.2.1 dX6_answered_57 (by decide) (fun c75 => ?_) (fun c75 => ?_)
      · rw [if_pos c75] at hf
        refine q_aload_n X dX6_answered_61 rfl (lv_at hl 2 rfl) ?_
        have ho := gR_e hf
        clear hf
        obtain ⟨a76, v77, e78, k79, q80, hf⟩ := ho
        cases e78
        refine q_get X M flX6_99.g k79 (congrArg va_rf q80) dX6_answered_62 ?_
        refine lv_iload_n X.1 X.2.1 dX6_answered_65 rfl (lv_at hl 3 rfl) ?_
        have ho := aI_e hf
        clear hf
        obtain ⟨a81, v82, e83, k84, i85, q86, hf⟩ := ho
        cases e83
        refine q_iald X M k84 i85 dX6_answered_66 ?_
        rw [q86]
        refine lv_if_ne (tgt := 102) X.1 X.2.1 dX6_answered_67 (by decide) (fun c87 => ?_) (fun c87 => ?_)
        · rw [if_neg c87] at hf
          refine q_aload_n X dX6_answered_102 rfl (lv_at hl 2 rfl) ?_
          have ho := gR_e hf
          clear hf
          obtain ⟨a88, v89, e90, k91, q92, hf⟩ := ho
          cases e90
          refine q_get X M flX6_99.g k91 (congrArg va_rf q92) dX6_answered_103 ?_
          refine lv_iload_n X.1 X.2.1 dX6_answered_106 rfl (lv_at hl 3 rfl) ?_
          have ho := aI_e hf
          clear hf
          obtain ⟨a93, v94, e95, k96, i97, q98, hf⟩ := ho
          cases e95
          refine q_iald X M k96 i97 dX6_answered_107 ?_
          rw [q98]
          refine lv_iconst (v := 1) X.1 X.2.1 dX6_answered_108 (by decide) ?_
          refine lv_icmp_ne (tgt := 141) X.1 X.2.1 dX6_answered_109 (by decide) (fun c99 => ?_) (fun c99 => ?_)
          · rw [if_neg c99] at hf
            refine q_aload_n X dX6_answered_141 rfl (lv_at hl 2 rfl) ?_
            have ho := gR_e hf
            clear hf
            obtain ⟨a100, v101, e102, k103, q104, hf⟩ := ho
            cases e102
            refine q_get X M flX6_99.g k103 (congrArg va_rf q104) dX6_answered_142 ?_
            refine lv_iload_n X.1 X.2.1 dX6_answered_145 rfl (lv_at hl 3 rfl) ?_
            have ho := aI_e hf
            clear hf
            obtain ⟨a105, v106, e107, k108, i109, q110, hf⟩ := ho
            cases e107
            refine q_iald X M k108 i109 dX6_answered_146 ?_
            rw [q110]
            refine lv_iconst (v := 3) X.1 X.2.1 dX6_answered_147 (by decide) ?_
            refine lv_icmp_ne (tgt := 199) X.1 X.2.1 dX6_answered_148 (by decide) (fun c111 => ?_) (fun c111 => ?_)
            · rw [if_neg c111] at hf
              obtain rfl := Option.some.inj hf
              exact q_vret X M hS (by omega) (by omega) dX6_answered_199
            · rw [if_pos c111] at hf
              refine lv_iconst (v := 0) X.1 X.2.1 dX6_answered_151 (by decide) ?_
              refine lv_istore (i := 4) (lv' := [(4, .int 0), (3, .int (((60 * v7) + v59) - 1)), (2, .int v7), (0, va_rf (some o)), (1, .int x1)]) X.1 X.2.1 dX6_answered_152 hl (by decide) rfl (fun ls hl => ?_)
              exact (b_X6_answered_154 X FU) o v7 0 w47 _ _ _ _ _ hf M hS (by omega) (by omega) (lv_sub hl [3, 2, 0] rfl)
          · rw [if_pos c99] at hf
            refine q_aload_n X dX6_answered_112 rfl (lv_at hl 2 rfl) ?_
            have ho := gR_e hf
            clear hf
            obtain ⟨a147, v148, e149, k150, q151, hf⟩ := ho
            cases e149
            refine q_get X M flX6_19.g k150 (congrArg va_rf q151) dX6_answered_113 ?_
            refine lv_bipush (v := 8) X.1 X.2.1 dX6_answered_116 (by decide) ?_
            refine lv_iload_n X.1 X.2.1 dX6_answered_118 rfl (lv_at hl 1 rfl) ?_
            refine lv_imul X.1 X.2.1 dX6_answered_119 ?_
            refine q_aload_n X dX6_answered_120 rfl (lv_at hl 2 rfl) ?_
            have ho := gR_e hf
            clear hf
            obtain ⟨a152, v153, e154, k155, q156, hf⟩ := ho
            cases e154
            refine q_get X M flX6_29.g k155 (congrArg va_rf q156) dX6_answered_121 ?_
            refine lv_iload_n X.1 X.2.1 dX6_answered_124 rfl (lv_at hl 0 rfl) ?_
            have ho := aI_e hf
            clear hf
            obtain ⟨a157, v158, e159, k160, i161, q162, hf⟩ := ho
            cases e159
            refine q_iald X M k160 i161 dX6_answered_125 ?_
            rw [q162]
            refine lv_bipush (v := 8) X.1 X.2.1 dX6_answered_126 (by decide) ?_
            refine lv_irem X.1 X.2.1 dX6_answered_128 (by decide) ?_
            refine lv_iadd X.1 X.2.1 dX6_answered_129 ?_
            refine q_aload_n X dX6_answered_130 rfl (lv_at hl 2 rfl) ?_
            have ho := gR_e hf
            clear hf
            obtain ⟨a163, v164, e165, k166, q167, hf⟩ := ho
            cases e165
            refine q_get X M flX6_108.g k166 (congrArg va_rf q167) dX6_answered_131 ?_
            refine lv_iload_n X.1 X.2.1 dX6_answered_134 rfl (lv_at hl 3 rfl) ?_
            have ho := aL_e hf
            clear hf
            obtain ⟨a168, v169, e170, k171, i172, q173, hf⟩ := ho
            cases e170
            refine q_lald X M k171 i172 dX6_answered_135 ?_
            rw [q173]
            refine lv_l2i (v := v169.toInt32) X.1 X.2.1 dX6_answered_136 rfl ?_
            have ho := tI_e hf
            clear hf
            obtain ⟨a174, w175, e176, k177, i178, q179, hf⟩ := ho
            cases e176
            refine q_iast X M hS k177 i178 dX6_answered_137 (fun H locs M hS => ?_)
            rw [q179] at M
            refine lv_goto (tgt := 199) X.1 X.2.1 dX6_answered_138 (by decide) ?_
            obtain rfl := Option.some.inj hf
            exact q_vret X M hS (by omega) (by omega) dX6_answered_199
        · rw [if_pos c87] at hf
          refine q_aload_n X dX6_answered_70 rfl (lv_at hl 2 rfl) ?_
          have ho := gR_e hf
          clear hf
          obtain ⟨a180, v181, e182, k183, q184, hf⟩ := ho
          cases e182
          refine q_get X M flX6_22.g k183 (congrArg va_rf q184) dX6_answered_71 ?_
          refine lv_iload_n X.1 X.2.1 dX6_answered_74 rfl (lv_at hl 0 rfl) ?_
          refine lv_iconst (v := 1) X.1 X.2.1 dX6_answered_75 (by decide) ?_
          have ho := tI_e hf
          clear hf
          obtain ⟨a185, w186, e187, k188, i189, q190, hf⟩ := ho
          cases e187
          refine q_iast X M hS k188 i189 dX6_answered_76 (fun H locs M hS => ?_)
          rw [q190] at M
          refine q_aload_n X dX6_answered_77 rfl (lv_at hl 2 rfl) ?_
          have ho := gR_e hf
          clear hf
          obtain ⟨a191, v192, e193, k194, q195, hf⟩ := ho
          cases e193
          refine q_get X M flX6_25.g k194 (congrArg va_rf q195) dX6_answered_78 ?_
          refine lv_iload_n X.1 X.2.1 dX6_answered_81 rfl (lv_at hl 0 rfl) ?_
          refine q_aload_n X dX6_answered_82 rfl (lv_at hl 2 rfl) ?_
          have ho := gR_e hf
          clear hf
          obtain ⟨a196, v197, e198, k199, q200, hf⟩ := ho
          cases e198
          refine q_get X M flX6_108.g k199 (congrArg va_rf q200) dX6_answered_83 ?_
          refine lv_iload_n X.1 X.2.1 dX6_answered_86 rfl (lv_at hl 3 rfl) ?_
          have ho := aL_e hf
          clear hf
          obtain ⟨a201, v202, e203, k204, i205, q206, hf⟩ := ho
          cases e203
          refine q_lald X M k204 i205 dX6_answered_87 ?_
          rw [q206]
          have ho := tL_e hf
          clear hf
          obtain ⟨a207, w208, e209, k210, i211, q212, hf⟩ := ho
          cases e209
          refine q_last X M hS k210 i211 dX6_answered_88 (fun H locs M hS => ?_)
          rw [q212] at M
          refine q_aload_n X dX6_answered_89 rfl (lv_at hl 2 rfl) ?_
          refine lv_dup X.1 X.2.1 dX6_answered_90 rfl ?_
          have ho := gI_e hf
          clear hf
          obtain ⟨a213, v214, e215, k216, q217, hf⟩ := ho
          cases e215
          refine q_get X M flX6_204.g k216 (congrArg Value.int q217) dX6_answered_91 ?_
          refine lv_iconst (v := 1) X.1 X.2.1 dX6_answered_94 (by decide) ?_
          refine lv_iadd X.1 X.2.1 dX6_answered_95 ?_
          have ho := pI_e hf
          clear hf
          obtain ⟨a218, w219, e220, k221, q222, hf⟩ := ho
          cases e220
          refine q_putI X M hS flX6_204 (Or.inl rfl) k221 dX6_answered_96 (fun H locs M hS => ?_)
          rw [q222] at M
          refine lv_goto (tgt := 199) X.1 X.2.1 dX6_answered_99 (by decide) ?_
          obtain rfl := Option.some.inj hf
          exact q_vret X M hS (by omega) (by omega) dX6_answered_199
      · rw [if_neg c75] at hf
        obtain rfl := Option.some.inj hf
        exact q_vret X M hS (by omega) (by omega) dX6_answered_60
    · rw [if_pos c52] at hf
      obtain rfl := Option.some.inj hf
      exact q_vret X M hS (by omega) (by omega) dX6_answered_36
theorem m_X6_answered {l : Launch} {D : va_G} {aC : Nat → ClassId} {b0 : Nat} {w : Wd} (o : Nat) (x1 : Int32) (v : Unit) (w' : Wd) (hf : f_X6_answered o x1 w = some (v, w')) : Ct l D aC b0 yX6_answered (Cond.code yX6_answered cX6_answered 5 none :: Gw) rX6_answered [va_rf (some o), .int x1] w none w' :=
  q_met (by decide) (Nat.le_of_ble_eq_true rfl) (fun p e s m below meth c X M ls hl => e_X6_answered X (res := (v, w')) o x1 w s.heap [] 0 0 ls hf M va_S.rf (by decide) (by decide) hl)
abbrev rX6_moved : Room := { frames := 2, cells := 0, slots := 0, locals := 43 }
def f_X6_moved_311 (o : Nat) (x1 : Int32) (x2 : Int32) (x3 : Int32) (w : Wd) : Option (Unit × Wd) := gR w (some o) 7 33 (fun v47 => aI w v47 100 x1 (fun v52 => chk w (some o) 7 (fun a60 => bnd (f_X6_letter a60 4 v52 x2 w) (fun v57 w58 => gR w58 (some o) 7 34 (fun v64 => gR w58 (some o) 7 34 (fun v69 => aI w58 v69 100 x1 (fun v74 => tI w58 v64 100 v57 v74 (fun w80 => gR w80 (some o) 7 37 (fun v86 => tI w80 v86 100 v57 x3 (fun w91 => gR w91 (some o) 7 35 (fun v97 => tI w91 v97 100 v57 x3 (fun w102 => chk w102 (some o) 7 (fun a110 => bnd (f_X6_sendFrom a110 x2 v57 w102) (fun v107 w108 => some ((), w108)))))))))))))))
set_option maxHeartbeats 4000000 in
set_option maxRecDepth 100000 in
theorem b_X6_moved_311 {l : Launch} {D : va_G} {aC : Nat → ClassId} {b0 : Nat} {p : Program} {e : Env} {s : State} {m : MethodId} {args : Array Value} {below : List Frame} {meth : Method} {c : Code} (X : Cx D aC p s m args meth c cX6_moved RX6 6 "moved" none) {res : (Unit × Wd)} : ∀ (o : Nat) (x1 : Int32) (x2 : Int32) (x3 : Int32) (w : Wd), BW l D aC b0 p e rX6_moved s m args below meth c (Qe D aC b0 below args s 0 0 none res.2) res 0 0 0 0 (f_X6_moved_311 o x1 x2 x3 w) w 311 6 [(0, va_rf (some o)), (1, .int x1), (2, .int x2), (3, .int x3)] [] := by
  intro o x1 x2 x3 w H locs cells slots ls hf M hS hc hs hl
  unfold f_X6_moved_311 at hf
  refine q_aload_n X dX6_moved_311 rfl (lv_at hl 0 rfl) ?_
  refine lv_iconst (v := 4) X.1 X.2.1 dX6_moved_312 (by decide) ?_
  refine q_aload_n X dX6_moved_313 rfl (lv_at hl 0 rfl) ?_
  have ho := gR_e hf
  clear hf
  obtain ⟨a46, v47, e48, k49, q50, hf⟩ := ho
  cases e48
  refine q_get X M flX6_90.g k49 (congrArg va_rf q50) dX6_moved_314 ?_
  refine lv_iload_n X.1 X.2.1 dX6_moved_317 rfl (lv_at hl 1 rfl) ?_
  have ho := aI_e hf
  clear hf
  obtain ⟨a51, v52, e53, k54, i55, q56, hf⟩ := ho
  cases e53
  refine q_iald X M k54 i55 dX6_moved_318 ?_
  rw [q56]
  refine lv_iload_n X.1 X.2.1 dX6_moved_319 rfl (lv_at hl 2 rfl) ?_
  have ho := chk_e hf
  clear hf
  obtain ⟨a60, e61, k62, hf⟩ := ho
  cases e61
  have ho := bnd_e hf
  clear hf
  obtain ⟨v57, w58, q59, hf⟩ := ho
  refine q_cV X M hS hl.1 (ci := 6) (r := (RX6, TX6, 53)) (As := [.int 4, .int v52, .int x2]) (m_X6_letter o 4 v52 x2 _ _ q59) mlX6_182 gm_258 gm_259 rfl (by decide) k62 rfl ⟨(Nat.le_of_ble_eq_true rfl), (Nat.le_of_ble_eq_true rfl)⟩ (rest := []) rfl (Nat.le_of_ble_eq_true rfl) (mc := 0) (ms := 0) (MC := 0) (MS := 0) rfl rfl rfl rfl (by omega) (by omega) dX6_moved_320 (st2 := [.int v57]) rfl (fun H locs M hS => ?_)
  refine lv_istore (i := 5) (lv' := [(5, .int v57), (0, va_rf (some o)), (1, .int x1), (2, .int x2), (3, .int x3)]) X.1 X.2.1 dX6_moved_323 hl (by decide) rfl (fun ls hl => ?_)
  refine q_aload_n X dX6_moved_325 rfl (lv_at hl 1 rfl) ?_
  have ho := gR_e hf
  clear hf
  obtain ⟨a63, v64, e65, k66, q67, hf⟩ := ho
  cases e65
  refine q_get X M flX6_93.g k66 (congrArg va_rf q67) dX6_moved_326 ?_
  refine lv_iload X.1 X.2.1 dX6_moved_329 (lv_at hl 0 rfl) ?_
  refine q_aload_n X dX6_moved_331 rfl (lv_at hl 1 rfl) ?_
  have ho := gR_e hf
  clear hf
  obtain ⟨a68, v69, e70, k71, q72, hf⟩ := ho
  cases e70
  refine q_get X M flX6_93.g k71 (congrArg va_rf q72) dX6_moved_332 ?_
  refine lv_iload_n X.1 X.2.1 dX6_moved_335 rfl (lv_at hl 2 rfl) ?_
  have ho := aI_e hf
  clear hf
  obtain ⟨a73, v74, e75, k76, i77, q78, hf⟩ := ho
  cases e75
  refine q_iald X M k76 i77 dX6_moved_336 ?_
  rw [q78]
  have ho := tI_e hf
  clear hf
  obtain ⟨a79, w80, e81, k82, i83, q84, hf⟩ := ho
  cases e81
  refine q_iast X M hS k82 i83 dX6_moved_337 (fun H locs M hS => ?_)
  rw [q84] at M
  refine q_aload_n X dX6_moved_338 rfl (lv_at hl 1 rfl) ?_
  have ho := gR_e hf
  clear hf
  obtain ⟨a85, v86, e87, k88, q89, hf⟩ := ho
  cases e87
  refine q_get X M flX6_102.g k88 (congrArg va_rf q89) dX6_moved_339 ?_
  refine lv_iload X.1 X.2.1 dX6_moved_342 (lv_at hl 0 rfl) ?_
  refine lv_iload_n X.1 X.2.1 dX6_moved_344 rfl (lv_at hl 4 rfl) ?_
  have ho := tI_e hf
  clear hf
  obtain ⟨a90, w91, e92, k93, i94, q95, hf⟩ := ho
  cases e92
  refine q_iast X M hS k93 i94 dX6_moved_345 (fun H locs M hS => ?_)
  rw [q95] at M
  refine q_aload_n X dX6_moved_346 rfl (lv_at hl 1 rfl) ?_
  have ho := gR_e hf
  clear hf
  obtain ⟨a96, v97, e98, k99, q100, hf⟩ := ho
  cases e98
  refine q_get X M flX6_96.g k99 (congrArg va_rf q100) dX6_moved_347 ?_
  refine lv_iload X.1 X.2.1 dX6_moved_350 (lv_at hl 0 rfl) ?_
  refine lv_iload_n X.1 X.2.1 dX6_moved_352 rfl (lv_at hl 4 rfl) ?_
  have ho := tI_e hf
  clear hf
  obtain ⟨a101, w102, e103, k104, i105, q106, hf⟩ := ho
  cases e103
  refine q_iast X M hS k104 i105 dX6_moved_353 (fun H locs M hS => ?_)
  rw [q106] at M
  refine q_aload_n X dX6_moved_354 rfl (lv_at hl 1 rfl) ?_
  refine lv_iload_n X.1 X.2.1 dX6_moved_355 rfl (lv_at hl 3 rfl) ?_
  refine lv_iload X.1 X.2.1 dX6_moved_356 (lv_at hl 0 rfl) ?_
  have ho := chk_e hf
  clear hf
  obtain ⟨a110, e111, k112, hf⟩ := ho
  cases e111
  have ho := bnd_e hf
  clear hf
  obtain ⟨v107, w108, q109, hf⟩ := ho
  refine q_cV X M hS hl.1 (ci := 6) (r := (RX6, TX6, 53)) (As := [.int x2, .int v57]) (m_X6_sendFrom o x2 v57 _ _ q109) mlX6_210 gm_450 gm_451 rfl (by decide) k112 rfl ⟨(Nat.le_of_ble_eq_true rfl), (Nat.le_of_ble_eq_true rfl)⟩ (rest := []) rfl (Nat.le_of_ble_eq_true rfl) (mc := 0) (ms := 0) (MC := 0) (MS := 0) rfl rfl rfl rfl (by omega) (by omega) dX6_moved_358 (st2 := []) rfl (fun H locs M hS => ?_)
  obtain rfl := Option.some.inj hf
  exact q_vret X M hS (by omega) (by omega) dX6_moved_361
def f_X6_moved_90 (K125 : Nat → Int32 → Int32 → Int32 → Int32 → Wd → Option (Unit × Wd)) : Nat → Nat → Int32 → Int32 → Int32 → Int32 → Int32 → Wd → Option (Unit × Wd)
  | 0, _, _, _, _, _, _, _ => none
  | n + 1, o, x1, x2, x3, x4, x5, w => if 4 ≤ x5 then (K125 o x1 x2 x3 x4 w) else (gR w (some o) 7 20 (fun v193 => gR w (some o) 7 41 (fun v198 => aL w v198 101 ((4 * x1) + x5) (fun v203 => tL w v193 101 ((4 * x4) + x5) v203 (fun w209 => (f_X6_moved_90 K125 n) o x1 x2 x3 x4 (x5 + 1) w209)))))
set_option maxHeartbeats 4000000 in
set_option maxRecDepth 100000 in
theorem b_X6_moved_90 {l : Launch} {D : va_G} {aC : Nat → ClassId} {b0 : Nat} {p : Program} {e : Env} {s : State} {m : MethodId} {args : Array Value} {below : List Frame} {meth : Method} {c : Code} (X : Cx D aC p s m args meth c cX6_moved RX6 6 "moved" none) {res : (Unit × Wd)} {K125 : Nat → Int32 → Int32 → Int32 → Int32 → Wd → Option (Unit × Wd)} (hK125 : ∀ (o : Nat) (x1 : Int32) (x2 : Int32) (x3 : Int32) (x4 : Int32) (w : Wd), BW l D aC b0 p e rX6_moved s m args below meth c (Qe D aC b0 below args s 0 0 none res.2) res 0 0 0 0 (K125 o x1 x2 x3 x4 w) w 125 6 [(0, va_rf (some o)), (1, .int x1), (2, .int x2), (3, .int x3), (4, .int x4)] []) : ∀ (n : Nat) (o : Nat) (x1 : Int32) (x2 : Int32) (x3 : Int32) (x4 : Int32) (x5 : Int32) (w : Wd), BW l D aC b0 p e rX6_moved s m args below meth c (Qe D aC b0 below args s 0 0 none res.2) res 0 0 0 0 (f_X6_moved_90 K125 n o x1 x2 x3 x4 x5 w) w 90 6 [(0, va_rf (some o)), (1, .int x1), (2, .int x2), (3, .int x3), (4, .int x4), (5, .int x5)] [] := by
  intro n
  induction n with
  | zero =>
    intro o x1 x2 x3 x4 x5 w H locs cells slots ls hf
    rw [f_X6_moved_90.eq_1] at hf
    cases hf
  | succ n ih =>
    intro o x1 x2 x3 x4 x5 w H locs cells slots ls hf M hS hc hs hl
    rw [f_X6_moved_90.eq_2] at hf
    refine lv_iload X.1 X.2.1 dX6_moved_90 (lv_at hl 5 rfl) ?_
    refine lv_iconst (v := 4) X.1 X.2.1 dX6_moved_92 (by decide) ?_
    refine lv_icmp_ge (tgt := 125) X.1 X.2.1 dX6_moved_93 (by decide) (fun c191 => ?_) (fun c191 => ?_)
    · rw [if_pos c191] at hf
      exact hK125 o x1 x2 x3 x4 w _ _ _ _ _ hf M hS (by omega) (by omega) (lv_sub hl [0, 1, 2, 3, 4] rfl)
    · rw [if_neg c191] at hf
      refine q_aload_n X dX6_moved_96 rfl (lv_at hl 0 rfl) ?_
      have ho := gR_e hf
      clear hf
      obtain ⟨a192, v193, e194, k195, q196, hf⟩ := ho
      cases e194
      refine q_get X M flX6_50.g k195 (congrArg va_rf q196) dX6_moved_97 ?_
      refine lv_iconst (v := 4) X.1 X.2.1 dX6_moved_100 (by decide) ?_
      refine lv_iload X.1 X.2.1 dX6_moved_101 (lv_at hl 4 rfl) ?_
      refine lv_imul X.1 X.2.1 dX6_moved_103 ?_
      refine lv_iload X.1 X.2.1 dX6_moved_104 (lv_at hl 5 rfl) ?_
      refine lv_iadd X.1 X.2.1 dX6_moved_106 ?_
      refine q_aload_n X dX6_moved_107 rfl (lv_at hl 0 rfl) ?_
      have ho := gR_e hf
      clear hf
      obtain ⟨a197, v198, e199, k200, q201, hf⟩ := ho
      cases e199
      refine q_get X M flX6_114.g k200 (congrArg va_rf q201) dX6_moved_108 ?_
      refine lv_iconst (v := 4) X.1 X.2.1 dX6_moved_111 (by decide) ?_
      refine lv_iload_n X.1 X.2.1 dX6_moved_112 rfl (lv_at hl 1 rfl) ?_
      refine lv_imul X.1 X.2.1 dX6_moved_113 ?_
      refine lv_iload X.1 X.2.1 dX6_moved_114 (lv_at hl 5 rfl) ?_
      refine lv_iadd X.1 X.2.1 dX6_moved_116 ?_
      have ho := aL_e hf
      clear hf
      obtain ⟨a202, v203, e204, k205, i206, q207, hf⟩ := ho
      cases e204
      refine q_lald X M k205 i206 dX6_moved_117 ?_
      rw [q207]
      have ho := tL_e hf
      clear hf
      obtain ⟨a208, w209, e210, k211, i212, q213, hf⟩ := ho
      cases e210
      refine q_last X M hS k211 i212 dX6_moved_118 (fun H locs M hS => ?_)
      rw [q213] at M
      refine lv_iinc (v := (x5 + 1)) (lv' := [(5, .int (x5 + 1)), (0, va_rf (some o)), (1, .int x1), (2, .int x2), (3, .int x3), (4, .int x4)]) X.1 X.2.1 dX6_moved_119 hl (k := 5) rfl rfl (by decide) rfl (fun ls hl => ?_)
      refine lv_goto (tgt := 90) X.1 X.2.1 dX6_moved_122 (by decide) ?_
      exact ih o x1 x2 x3 x4 (x5 + 1) w209 _ _ _ _ _ hf M hS (by omega) (by omega) (lv_sub hl [1, 2, 3, 4, 5, 0] rfl)
def f_X6_moved_128 (K245 : Nat → Int32 → Int32 → Int32 → Int32 → Wd → Option (Unit × Wd)) : Nat → Nat → Int32 → Int32 → Int32 → Int32 → Int32 → Wd → Option (Unit × Wd)
  | 0, _, _, _, _, _, _, _ => none
  | n + 1, o, x1, x2, x3, x4, x5, w => gR w (some o) 7 36 (fun v215 => aI w v215 100 x1 (fun v220 => if v220 ≤ x5 then (K245 o x1 x2 x3 x4 w) else (gR w (some o) 7 22 (fun v227 => gR w (some o) 7 42 (fun v232 => aI w v232 100 ((12 * x1) + x5) (fun v237 => tI w v227 100 ((12 * x4) + x5) v237 (fun w243 => gR w243 (some o) 7 23 (fun v249 => gR w243 (some o) 7 43 (fun v254 => aI w243 v254 100 ((12 * x1) + x5) (fun v259 => tI w243 v249 100 ((12 * x4) + x5) v259 (fun w265 => gR w265 (some o) 7 24 (fun v271 => gR w265 (some o) 7 44 (fun v276 => aI w265 v276 100 ((12 * x1) + x5) (fun v281 => tI w265 v271 100 ((12 * x4) + x5) v281 (fun w287 => gR w287 (some o) 7 25 (fun v293 => gR w287 (some o) 7 45 (fun v298 => aL w287 v298 101 ((12 * x1) + x5) (fun v303 => tL w287 v293 101 ((12 * x4) + x5) v303 (fun w309 => (f_X6_moved_128 K245 n) o x1 x2 x3 x4 (x5 + 1) w309)))))))))))))))))))
set_option maxHeartbeats 4000000 in
set_option maxRecDepth 100000 in
theorem b_X6_moved_128 {l : Launch} {D : va_G} {aC : Nat → ClassId} {b0 : Nat} {p : Program} {e : Env} {s : State} {m : MethodId} {args : Array Value} {below : List Frame} {meth : Method} {c : Code} (X : Cx D aC p s m args meth c cX6_moved RX6 6 "moved" none) {res : (Unit × Wd)} {K245 : Nat → Int32 → Int32 → Int32 → Int32 → Wd → Option (Unit × Wd)} (hK245 : ∀ (o : Nat) (x1 : Int32) (x2 : Int32) (x3 : Int32) (x4 : Int32) (w : Wd), BW l D aC b0 p e rX6_moved s m args below meth c (Qe D aC b0 below args s 0 0 none res.2) res 0 0 0 0 (K245 o x1 x2 x3 x4 w) w 245 6 [(0, va_rf (some o)), (1, .int x1), (2, .int x2), (3, .int x3), (4, .int x4)] []) : ∀ (n : Nat) (o : Nat) (x1 : Int32) (x2 : Int32) (x3 : Int32) (x4 : Int32) (x5 : Int32) (w : Wd), BW l D aC b0 p e rX6_moved s m args below meth c (Qe D aC b0 below args s 0 0 none res.2) res 0 0 0 0 (f_X6_moved_128 K245 n o x1 x2 x3 x4 x5 w) w 128 6 [(0, va_rf (some o)), (1, .int x1), (2, .int x2), (3, .int x3), (4, .int x4), (5, .int x5)] [] := by
  intro n
  induction n with
  | zero =>
    intro o x1 x2 x3 x4 x5 w H locs cells slots ls hf
    rw [f_X6_moved_128.eq_1] at hf
    cases hf
  | succ n ih =>
    intro o x1 x2 x3 x4 x5 w H locs cells slots ls hf M hS hc hs hl
    rw [f_X6_moved_128.eq_2] at hf
    refine lv_iload X.1 X.2.1 dX6_moved_128 (lv_at hl 5 rfl) ?_
    refine q_aload_n X dX6_moved_130 rfl (lv_at hl 0 rfl) ?_
    have ho := gR_e hf
    clear hf
    obtain ⟨a214, v215, e216, k217, q218, hf⟩ := ho
    cases e216
    refine q_get X M flX6_99.g k217 (congrArg va_rf q218) dX6_moved_131 ?_
    refine lv_iload_n X.1 X.2.1 dX6_moved_134 rfl (lv_at hl 1 rfl) ?_
    have ho := aI_e hf
    clear hf
    obtain ⟨a219, v220, e221, k222, i223, q224, hf⟩ := ho
    cases e221
    refine q_iald X M k222 i223 dX6_moved_135 ?_
    rw [q224]
    refine lv_icmp_ge (tgt := 245) X.1 X.2.1 dX6_moved_136 (by decide) (fun c225 => ?_) (fun c225 => ?_)
    · rw [if_pos c225] at hf
      exact hK245 o x1 x2 x3 x4 w _ _ _ _ _ hf M hS (by omega) (by omega) (lv_sub hl [0, 1, 2, 3, 4] rfl)
    · rw [if_neg c225] at hf
      refine q_aload_n X dX6_moved_139 rfl (lv_at hl 0 rfl) ?_
      have ho := gR_e hf
      clear hf
      obtain ⟨a226, v227, e228, k229, q230, hf⟩ := ho
      cases e228
      refine q_get X M flX6_56.g k229 (congrArg va_rf q230) dX6_moved_140 ?_
      refine lv_bipush (v := 12) X.1 X.2.1 dX6_moved_143 (by decide) ?_
      refine lv_iload X.1 X.2.1 dX6_moved_145 (lv_at hl 4 rfl) ?_
      refine lv_imul X.1 X.2.1 dX6_moved_147 ?_
      refine lv_iload X.1 X.2.1 dX6_moved_148 (lv_at hl 5 rfl) ?_
      refine lv_iadd X.1 X.2.1 dX6_moved_150 ?_
      refine q_aload_n X dX6_moved_151 rfl (lv_at hl 0 rfl) ?_
      have ho := gR_e hf
      clear hf
      obtain ⟨a231, v232, e233, k234, q235, hf⟩ := ho
      cases e233
      refine q_get X M flX6_118.g k234 (congrArg va_rf q235) dX6_moved_152 ?_
      refine lv_bipush (v := 12) X.1 X.2.1 dX6_moved_155 (by decide) ?_
      refine lv_iload_n X.1 X.2.1 dX6_moved_157 rfl (lv_at hl 1 rfl) ?_
      refine lv_imul X.1 X.2.1 dX6_moved_158 ?_
      refine lv_iload X.1 X.2.1 dX6_moved_159 (lv_at hl 5 rfl) ?_
      refine lv_iadd X.1 X.2.1 dX6_moved_161 ?_
      have ho := aI_e hf
      clear hf
      obtain ⟨a236, v237, e238, k239, i240, q241, hf⟩ := ho
      cases e238
      refine q_iald X M k239 i240 dX6_moved_162 ?_
      rw [q241]
      have ho := tI_e hf
      clear hf
      obtain ⟨a242, w243, e244, k245, i246, q247, hf⟩ := ho
      cases e244
      refine q_iast X M hS k245 i246 dX6_moved_163 (fun H locs M hS => ?_)
      rw [q247] at M
      refine q_aload_n X dX6_moved_164 rfl (lv_at hl 0 rfl) ?_
      have ho := gR_e hf
      clear hf
      obtain ⟨a248, v249, e250, k251, q252, hf⟩ := ho
      cases e250
      refine q_get X M flX6_59.g k251 (congrArg va_rf q252) dX6_moved_165 ?_
      refine lv_bipush (v := 12) X.1 X.2.1 dX6_moved_168 (by decide) ?_
      refine lv_iload X.1 X.2.1 dX6_moved_170 (lv_at hl 4 rfl) ?_
      refine lv_imul X.1 X.2.1 dX6_moved_172 ?_
      refine lv_iload X.1 X.2.1 dX6_moved_173 (lv_at hl 5 rfl) ?_
      refine lv_iadd X.1 X.2.1 dX6_moved_175 ?_
      refine q_aload_n X dX6_moved_176 rfl (lv_at hl 0 rfl) ?_
      have ho := gR_e hf
      clear hf
      obtain ⟨a253, v254, e255, k256, q257, hf⟩ := ho
      cases e255
      refine q_get X M flX6_121.g k256 (congrArg va_rf q257) dX6_moved_177 ?_
      refine lv_bipush (v := 12) X.1 X.2.1 dX6_moved_180 (by decide) ?_
      refine lv_iload_n X.1 X.2.1 dX6_moved_182 rfl (lv_at hl 1 rfl) ?_
      refine lv_imul X.1 X.2.1 dX6_moved_183 ?_
      refine lv_iload X.1 X.2.1 dX6_moved_184 (lv_at hl 5 rfl) ?_
      refine lv_iadd X.1 X.2.1 dX6_moved_186 ?_
      have ho := aI_e hf
      clear hf
      obtain ⟨a258, v259, e260, k261, i262, q263, hf⟩ := ho
      cases e260
      refine q_iald X M k261 i262 dX6_moved_187 ?_
      rw [q263]
      have ho := tI_e hf
      clear hf
      obtain ⟨a264, w265, e266, k267, i268, q269, hf⟩ := ho
      cases e266
      refine q_iast X M hS k267 i268 dX6_moved_188 (fun H locs M hS => ?_)
      rw [q269] at M
      refine q_aload_n X dX6_moved_189 rfl (lv_at hl 0 rfl) ?_
      have ho := gR_e hf
      clear hf
      obtain ⟨a270, v271, e272, k273, q274, hf⟩ := ho
      cases e272
      refine q_get X M flX6_62.g k273 (congrArg va_rf q274) dX6_moved_190 ?_
      refine lv_bipush (v := 12) X.1 X.2.1 dX6_moved_193 (by decide) ?_
      refine lv_iload X.1 X.2.1 dX6_moved_195 (lv_at hl 4 rfl) ?_
      refine lv_imul X.1 X.2.1 dX6_moved_197 ?_
      refine lv_iload X.1 X.2.1 dX6_moved_198 (lv_at hl 5 rfl) ?_
      refine lv_iadd X.1 X.2.1 dX6_moved_200 ?_
      refine q_aload_n X dX6_moved_201 rfl (lv_at hl 0 rfl) ?_
      have ho := gR_e hf
      clear hf
      obtain ⟨a275, v276, e277, k278, q279, hf⟩ := ho
      cases e277
      refine q_get X M flX6_124.g k278 (congrArg va_rf q279) dX6_moved_202 ?_
      refine lv_bipush (v := 12) X.1 X.2.1 dX6_moved_205 (by decide) ?_
      refine lv_iload_n X.1 X.2.1 dX6_moved_207 rfl (lv_at hl 1 rfl) ?_
      refine lv_imul X.1 X.2.1 dX6_moved_208 ?_
      refine lv_iload X.1 X.2.1 dX6_moved_209 (lv_at hl 5 rfl) ?_
      refine lv_iadd X.1 X.2.1 dX6_moved_211 ?_
      have ho := aI_e hf
      clear hf
      obtain ⟨a280, v281, e282, k283, i284, q285, hf⟩ := ho
      cases e282
      refine q_iald X M k283 i284 dX6_moved_212 ?_
      rw [q285]
      have ho := tI_e hf
      clear hf
      obtain ⟨a286, w287, e288, k289, i290, q291, hf⟩ := ho
      cases e288
      refine q_iast X M hS k289 i290 dX6_moved_213 (fun H locs M hS => ?_)
      rw [q291] at M
      refine q_aload_n X dX6_moved_214 rfl (lv_at hl 0 rfl) ?_
      have ho := gR_e hf
      clear hf
      obtain ⟨a292, v293, e294, k295, q296, hf⟩ := ho
      cases e294
      refine q_get X M flX6_65.g k295 (congrArg va_rf q296) dX6_moved_215 ?_
      refine lv_bipush (v := 12) X.1 X.2.1 dX6_moved_218 (by decide) ?_
      refine lv_iload X.1 X.2.1 dX6_moved_220 (lv_at hl 4 rfl) ?_
      refine lv_imul X.1 X.2.1 dX6_moved_222 ?_
      refine lv_iload X.1 X.2.1 dX6_moved_223 (lv_at hl 5 rfl) ?_
      refine lv_iadd X.1 X.2.1 dX6_moved_225 ?_
      refine q_aload_n X dX6_moved_226 rfl (lv_at hl 0 rfl) ?_
      have ho := gR_e hf
      clear hf
      obtain ⟨a297, v298, e299, k300, q301, hf⟩ := ho
      cases e299
      refine q_get X M flX6_127.g k300 (congrArg va_rf q301) dX6_moved_227 ?_
      refine lv_bipush (v := 12) X.1 X.2.1 dX6_moved_230 (by decide) ?_
      refine lv_iload_n X.1 X.2.1 dX6_moved_232 rfl (lv_at hl 1 rfl) ?_
      refine lv_imul X.1 X.2.1 dX6_moved_233 ?_
      refine lv_iload X.1 X.2.1 dX6_moved_234 (lv_at hl 5 rfl) ?_
      refine lv_iadd X.1 X.2.1 dX6_moved_236 ?_
      have ho := aL_e hf
      clear hf
      obtain ⟨a302, v303, e304, k305, i306, q307, hf⟩ := ho
      cases e304
      refine q_lald X M k305 i306 dX6_moved_237 ?_
      rw [q307]
      have ho := tL_e hf
      clear hf
      obtain ⟨a308, w309, e310, k311, i312, q313, hf⟩ := ho
      cases e310
      refine q_last X M hS k311 i312 dX6_moved_238 (fun H locs M hS => ?_)
      rw [q313] at M
      refine lv_iinc (v := (x5 + 1)) (lv' := [(5, .int (x5 + 1)), (0, va_rf (some o)), (1, .int x1), (2, .int x2), (3, .int x3), (4, .int x4)]) X.1 X.2.1 dX6_moved_239 hl (k := 5) rfl rfl (by decide) rfl (fun ls hl => ?_)
      refine lv_goto (tgt := 128) X.1 X.2.1 dX6_moved_242 (by decide) ?_
      exact ih o x1 x2 x3 x4 (x5 + 1) w309 _ _ _ _ _ hf M hS (by omega) (by omega) (lv_sub hl [1, 2, 3, 4, 5, 0] rfl)
def f_X6_moved_248 (K311 : Nat → Int32 → Int32 → Int32 → Wd → Option (Unit × Wd)) : Nat → Nat → Int32 → Int32 → Int32 → Int32 → Int32 → Wd → Option (Unit × Wd)
  | 0, _, _, _, _, _, _, _ => none
  | n + 1, o, x1, x2, x3, x4, x5, w => if 6 ≤ x5 then (K311 o x1 x2 x3 w) else (gR w (some o) 7 26 (fun v316 => gR w (some o) 7 46 (fun v321 => aI w v321 100 ((6 * x1) + x5) (fun v326 => tI w v316 100 ((6 * x4) + x5) v326 (fun w332 => gR w332 (some o) 7 27 (fun v338 => gR w332 (some o) 7 47 (fun v343 => aI w332 v343 100 ((6 * x1) + x5) (fun v348 => tI w332 v338 100 ((6 * x4) + x5) v348 (fun w354 => (f_X6_moved_248 K311 n) o x1 x2 x3 x4 (x5 + 1) w354)))))))))
set_option maxHeartbeats 4000000 in
set_option maxRecDepth 100000 in
theorem b_X6_moved_248 {l : Launch} {D : va_G} {aC : Nat → ClassId} {b0 : Nat} {p : Program} {e : Env} {s : State} {m : MethodId} {args : Array Value} {below : List Frame} {meth : Method} {c : Code} (X : Cx D aC p s m args meth c cX6_moved RX6 6 "moved" none) {res : (Unit × Wd)} {K311 : Nat → Int32 → Int32 → Int32 → Wd → Option (Unit × Wd)} (hK311 : ∀ (o : Nat) (x1 : Int32) (x2 : Int32) (x3 : Int32) (w : Wd), BW l D aC b0 p e rX6_moved s m args below meth c (Qe D aC b0 below args s 0 0 none res.2) res 0 0 0 0 (K311 o x1 x2 x3 w) w 311 6 [(0, va_rf (some o)), (1, .int x1), (2, .int x2), (3, .int x3)] []) : ∀ (n : Nat) (o : Nat) (x1 : Int32) (x2 : Int32) (x3 : Int32) (x4 : Int32) (x5 : Int32) (w : Wd), BW l D aC b0 p e rX6_moved s m args below meth c (Qe D aC b0 below args s 0 0 none res.2) res 0 0 0 0 (f_X6_moved_248 K311 n o x1 x2 x3 x4 x5 w) w 248 6 [(0, va_rf (some o)), (1, .int x1), (2, .int x2), (3, .int x3), (4, .int x4), (5, .int x5)] [] := by
  intro n
  induction n with
  | zero =>
    intro o x1 x2 x3 x4 x5 w H locs cells slots ls hf
    rw [f_X6_moved_248.eq_1] at hf
    cases hf
  | succ n ih =>
    intro o x1 x2 x3 x4 x5 w H locs cells slots ls hf M hS hc hs hl
    rw [f_X6_moved_248.eq_2] at hf
    refine lv_iload X.1 X.2.1 dX6_moved_248 (lv_at hl 5 rfl) ?_
    refine lv_bipush (v := 6) X.1 X.2.1 dX6_moved_250 (by decide) ?_
    refine lv_icmp_ge (tgt := 311) X.1 X.2.1 dX6_moved_252 (by decide) (fun c314 => ?_) (fun c314 => ?_)
    · rw [if_pos c314] at hf
      exact hK311 o x1 x2 x3 w _ _ _ _ _ hf M hS (by omega) (by omega) (lv_sub hl [0, 1, 2, 3] rfl)
    · rw [if_neg c314] at hf
      refine q_aload_n X dX6_moved_255 rfl (lv_at hl 0 rfl) ?_
      have ho := gR_e hf
      clear hf
      obtain ⟨a315, v316, e317, k318, q319, hf⟩ := ho
      cases e317
      refine q_get X M flX6_68.g k318 (congrArg va_rf q319) dX6_moved_256 ?_
      refine lv_bipush (v := 6) X.1 X.2.1 dX6_moved_259 (by decide) ?_
      refine lv_iload X.1 X.2.1 dX6_moved_261 (lv_at hl 4 rfl) ?_
      refine lv_imul X.1 X.2.1 dX6_moved_263 ?_
      refine lv_iload X.1 X.2.1 dX6_moved_264 (lv_at hl 5 rfl) ?_
      refine lv_iadd X.1 X.2.1 dX6_moved_266 ?_
      refine q_aload_n X dX6_moved_267 rfl (lv_at hl 0 rfl) ?_
      have ho := gR_e hf
      clear hf
      obtain ⟨a320, v321, e322, k323, q324, hf⟩ := ho
      cases e322
      refine q_get X M flX6_130.g k323 (congrArg va_rf q324) dX6_moved_268 ?_
      refine lv_bipush (v := 6) X.1 X.2.1 dX6_moved_271 (by decide) ?_
      refine lv_iload_n X.1 X.2.1 dX6_moved_273 rfl (lv_at hl 1 rfl) ?_
      refine lv_imul X.1 X.2.1 dX6_moved_274 ?_
      refine lv_iload X.1 X.2.1 dX6_moved_275 (lv_at hl 5 rfl) ?_
      refine lv_iadd X.1 X.2.1 dX6_moved_277 ?_
      have ho := aI_e hf
      clear hf
      obtain ⟨a325, v326, e327, k328, i329, q330, hf⟩ := ho
      cases e327
      refine q_iald X M k328 i329 dX6_moved_278 ?_
      rw [q330]
      have ho := tI_e hf
      clear hf
      obtain ⟨a331, w332, e333, k334, i335, q336, hf⟩ := ho
      cases e333
      refine q_iast X M hS k334 i335 dX6_moved_279 (fun H locs M hS => ?_)
      rw [q336] at M
      refine q_aload_n X dX6_moved_280 rfl (lv_at hl 0 rfl) ?_
      have ho := gR_e hf
      clear hf
      obtain ⟨a337, v338, e339, k340, q341, hf⟩ := ho
      cases e339
      refine q_get X M flX6_71.g k340 (congrArg va_rf q341) dX6_moved_281 ?_
      refine lv_bipush (v := 6) X.1 X.2.1 dX6_moved_284 (by decide) ?_
      refine lv_iload X.1 X.2.1 dX6_moved_286 (lv_at hl 4 rfl) ?_
      refine lv_imul X.1 X.2.1 dX6_moved_288 ?_
      refine lv_iload X.1 X.2.1 dX6_moved_289 (lv_at hl 5 rfl) ?_
      refine lv_iadd X.1 X.2.1 dX6_moved_291 ?_
      refine q_aload_n X dX6_moved_292 rfl (lv_at hl 0 rfl) ?_
      have ho := gR_e hf
      clear hf
      obtain ⟨a342, v343, e344, k345, q346, hf⟩ := ho
      cases e344
      refine q_get X M flX6_133.g k345 (congrArg va_rf q346) dX6_moved_293 ?_
      refine lv_bipush (v := 6) X.1 X.2.1 dX6_moved_296 (by decide) ?_
      refine lv_iload_n X.1 X.2.1 dX6_moved_298 rfl (lv_at hl 1 rfl) ?_
      refine lv_imul X.1 X.2.1 dX6_moved_299 ?_
      refine lv_iload X.1 X.2.1 dX6_moved_300 (lv_at hl 5 rfl) ?_
      refine lv_iadd X.1 X.2.1 dX6_moved_302 ?_
      have ho := aI_e hf
      clear hf
      obtain ⟨a347, v348, e349, k350, i351, q352, hf⟩ := ho
      cases e349
      refine q_iald X M k350 i351 dX6_moved_303 ?_
      rw [q352]
      have ho := tI_e hf
      clear hf
      obtain ⟨a353, w354, e355, k356, i357, q358, hf⟩ := ho
      cases e355
      refine q_iast X M hS k356 i357 dX6_moved_304 (fun H locs M hS => ?_)
      rw [q358] at M
      refine lv_iinc (v := (x5 + 1)) (lv' := [(5, .int (x5 + 1)), (0, va_rf (some o)), (1, .int x1), (2, .int x2), (3, .int x3), (4, .int x4)]) X.1 X.2.1 dX6_moved_305 hl (k := 5) rfl rfl (by decide) rfl (fun ls hl => ?_)
      refine lv_goto (tgt := 248) X.1 X.2.1 dX6_moved_308 (by decide) ?_
      exact ih o x1 x2 x3 x4 (x5 + 1) w354 _ _ _ _ _ hf M hS (by omega) (by omega) (lv_sub hl [1, 2, 3, 4, 5, 0] rfl)
def f_X6_moved_245 (o : Nat) (x1 : Int32) (x2 : Int32) (x3 : Int32) (x4 : Int32) (w : Wd) : Option (Unit × Wd) := (f_X6_moved_248 (f_X6_moved_311) FU) o x1 x2 x3 x4 0 w
set_option maxHeartbeats 4000000 in
set_option maxRecDepth 100000 in
theorem b_X6_moved_245 {l : Launch} {D : va_G} {aC : Nat → ClassId} {b0 : Nat} {p : Program} {e : Env} {s : State} {m : MethodId} {args : Array Value} {below : List Frame} {meth : Method} {c : Code} (X : Cx D aC p s m args meth c cX6_moved RX6 6 "moved" none) {res : (Unit × Wd)} : ∀ (o : Nat) (x1 : Int32) (x2 : Int32) (x3 : Int32) (x4 : Int32) (w : Wd), BW l D aC b0 p e rX6_moved s m args below meth c (Qe D aC b0 below args s 0 0 none res.2) res 0 0 0 0 (f_X6_moved_245 o x1 x2 x3 x4 w) w 245 6 [(0, va_rf (some o)), (1, .int x1), (2, .int x2), (3, .int x3), (4, .int x4)] [] := by
  intro o x1 x2 x3 x4 w H locs cells slots ls hf M hS hc hs hl
  unfold f_X6_moved_245 at hf
  refine lv_iconst (v := 0) X.1 X.2.1 dX6_moved_245 (by decide) ?_
  refine lv_istore (i := 5) (lv' := [(5, .int 0), (0, va_rf (some o)), (1, .int x1), (2, .int x2), (3, .int x3), (4, .int x4)]) X.1 X.2.1 dX6_moved_246 hl (by decide) rfl (fun ls hl => ?_)
  exact (b_X6_moved_248 X (b_X6_moved_311 X) FU) o x1 x2 x3 x4 0 w _ _ _ _ _ hf M hS (by omega) (by omega) (lv_sub hl [1, 2, 3, 4, 5, 0] rfl)
def f_X6_moved_125 (o : Nat) (x1 : Int32) (x2 : Int32) (x3 : Int32) (x4 : Int32) (w : Wd) : Option (Unit × Wd) := (f_X6_moved_128 (f_X6_moved_245) FU) o x1 x2 x3 x4 0 w
set_option maxHeartbeats 4000000 in
set_option maxRecDepth 100000 in
theorem b_X6_moved_125 {l : Launch} {D : va_G} {aC : Nat → ClassId} {b0 : Nat} {p : Program} {e : Env} {s : State} {m : MethodId} {args : Array Value} {below : List Frame} {meth : Method} {c : Code} (X : Cx D aC p s m args meth c cX6_moved RX6 6 "moved" none) {res : (Unit × Wd)} : ∀ (o : Nat) (x1 : Int32) (x2 : Int32) (x3 : Int32) (x4 : Int32) (w : Wd), BW l D aC b0 p e rX6_moved s m args below meth c (Qe D aC b0 below args s 0 0 none res.2) res 0 0 0 0 (f_X6_moved_125 o x1 x2 x3 x4 w) w 125 6 [(0, va_rf (some o)), (1, .int x1), (2, .int x2), (3, .int x3), (4, .int x4)] [] := by
  intro o x1 x2 x3 x4 w H locs cells slots ls hf M hS hc hs hl
  unfold f_X6_moved_125 at hf
  refine lv_iconst (v := 0) X.1 X.2.1 dX6_moved_125 (by decide) ?_
  refine lv_istore (i := 5) (lv' := [(5, .int 0), (0, va_rf (some o)), (1, .int x1), (2, .int x2), (3, .int x3), (4, .int x4)]) X.1 X.2.1 dX6_moved_126 hl (by decide) rfl (fun ls hl => ?_)
  exact (b_X6_moved_128 X (b_X6_moved_245 X) FU) o x1 x2 x3 x4 0 w _ _ _ _ _ hf M hS (by omega) (by omega) (lv_sub hl [1, 2, 3, 4, 5, 0] rfl)
def f_X6_moved (o : Nat) (x1 : Int32) (w : Wd) : Option (Unit × Wd) := gR w (some o) 7 32 (fun v2 => aI w v2 100 x1 (fun v7 => gR w (some o) 7 37 (fun v13 => aI w v13 100 x1 (fun v18 => gR w (some o) 7 34 (fun v24 => aI w v24 100 x1 (fun v29 => gR w (some o) 7 18 (fun v35 => aI w v35 100 ((16 * v7) + v18) (fun v40 => if v29 ≤ v40 then ((f_X6_moved_311) o x1 v7 v18 w) else (gR w (some o) 7 29 (fun v114 => tZ w v114 102 v7 1 (fun w119 => gR w119 (some o) 7 17 (fun v126 => tI w119 v126 100 ((16 * v7) + v18) 1 (fun w131 => gR w131 (some o) 7 18 (fun v137 => gR w131 (some o) 7 34 (fun v142 => aI w131 v142 100 x1 (fun v147 => tI w131 v137 100 ((16 * v7) + v18) v147 (fun w153 => gR w153 (some o) 7 19 (fun v159 => tI w153 v159 100 ((16 * v7) + v18) v7 (fun w164 => gR w164 (some o) 7 21 (fun v170 => gR w164 (some o) 7 36 (fun v175 => aI w164 v175 100 x1 (fun v180 => tI w164 v170 100 ((16 * v7) + v18) v180 (fun w186 => (f_X6_moved_90 (f_X6_moved_125) FU) o x1 v7 v18 ((16 * v7) + v18) 0 w186)))))))))))))))))))))))
set_option maxHeartbeats 4000000 in
set_option maxRecDepth 100000 in
theorem e_X6_moved {l : Launch} {D : va_G} {aC : Nat → ClassId} {b0 : Nat} {p : Program} {e : Env} {s : State} {m : MethodId} {args : Array Value} {below : List Frame} {meth : Method} {c : Code} (X : Cx D aC p s m args meth c cX6_moved RX6 6 "moved" none) {res : (Unit × Wd)} (o : Nat) (x1 : Int32) (w : Wd) : BW l D aC b0 p e rX6_moved s m args below meth c (Qe D aC b0 below args s 0 0 none res.2) res 0 0 0 0 (f_X6_moved o x1 w) w 0 6 [(0, va_rf (some o)), (1, .int x1)] [] := by
  intro H locs cells slots ls hf M hS hc hs hl
  unfold f_X6_moved at hf
  refine q_aload_n X dX6_moved_0 rfl (lv_at hl 0 rfl) ?_
  have ho := gR_e hf
  clear hf
  obtain ⟨a1, v2, e3, k4, q5, hf⟩ := ho
  cases e3
  refine q_get X M flX6_87.g k4 (congrArg va_rf q5) dX6_moved_1 ?_
  refine lv_iload_n X.1 X.2.1 dX6_moved_4 rfl (lv_at hl 1 rfl) ?_
  have ho := aI_e hf
  clear hf
  obtain ⟨a6, v7, e8, k9, i10, q11, hf⟩ := ho
  cases e8
  refine q_iald X M k9 i10 dX6_moved_5 ?_
  rw [q11]
  refine lv_istore_n (i := 2) (lv' := [(2, .int v7), (0, va_rf (some o)), (1, .int x1)]) X.1 X.2.1 dX6_moved_6 rfl hl (by decide) rfl (fun ls hl => ?_)
  refine q_aload_n X dX6_moved_7 rfl (lv_at hl 1 rfl) ?_
  have ho := gR_e hf
  clear hf
  obtain ⟨a12, v13, e14, k15, q16, hf⟩ := ho
  cases e14
  refine q_get X M flX6_102.g k15 (congrArg va_rf q16) dX6_moved_8 ?_
  refine lv_iload_n X.1 X.2.1 dX6_moved_11 rfl (lv_at hl 2 rfl) ?_
  have ho := aI_e hf
  clear hf
  obtain ⟨a17, v18, e19, k20, i21, q22, hf⟩ := ho
  cases e19
  refine q_iald X M k20 i21 dX6_moved_12 ?_
  rw [q22]
  refine lv_istore_n (i := 3) (lv' := [(3, .int v18), (2, .int v7), (0, va_rf (some o)), (1, .int x1)]) X.1 X.2.1 dX6_moved_13 rfl hl (by decide) rfl (fun ls hl => ?_)
  refine lv_bipush (v := 16) X.1 X.2.1 dX6_moved_14 (by decide) ?_
  refine lv_iload_n X.1 X.2.1 dX6_moved_16 rfl (lv_at hl 1 rfl) ?_
  refine lv_imul X.1 X.2.1 dX6_moved_17 ?_
  refine lv_iload_n X.1 X.2.1 dX6_moved_18 rfl (lv_at hl 0 rfl) ?_
  refine lv_iadd X.1 X.2.1 dX6_moved_19 ?_
  refine lv_istore (i := 4) (lv' := [(4, .int ((16 * v7) + v18)), (3, .int v18), (2, .int v7), (0, va_rf (some o)), (1, .int x1)]) X.1 X.2.1 dX6_moved_20 hl (by decide) rfl (fun ls hl => ?_)
  refine q_aload_n X dX6_moved_22 rfl (lv_at hl 3 rfl) ?_
  have ho := gR_e hf
  clear hf
  obtain ⟨a23, v24, e25, k26, q27, hf⟩ := ho
  cases e25
  refine q_get X M flX6_93.g k26 (congrArg va_rf q27) dX6_moved_23 ?_
  refine lv_iload_n X.1 X.2.1 dX6_moved_26 rfl (lv_at hl 4 rfl) ?_
  have ho := aI_e hf
  clear hf
  obtain ⟨a28, v29, e30, k31, i32, q33, hf⟩ := ho
  cases e30
  refine q_iald X M k31 i32 dX6_moved_27 ?_
  rw [q33]
  refine q_aload_n X dX6_moved_28 rfl (lv_at hl 3 rfl) ?_
  have ho := gR_e hf
  clear hf
  obtain ⟨a34, v35, e36, k37, q38, hf⟩ := ho
  cases e36
  refine q_get X M flX6_44.g k37 (congrArg va_rf q38) dX6_moved_29 ?_
  refine lv_iload X.1 X.2.1 dX6_moved_32 (lv_at hl 0 rfl) ?_
  have ho := aI_e hf
  clear hf
  obtain ⟨a39, v40, e41, k42, i43, q44, hf⟩ := ho
  cases e41
  refine q_iald X M k42 i43 dX6_moved_34 ?_
  rw [q44]
  refine lv_icmp_le (tgt := 311) X.1 X.2.1 dX6_moved_35 (by decide) (fun c45 => ?_) (fun c45 => ?_)
  · rw [if_pos c45] at hf
    exact (b_X6_moved_311 X) o x1 v7 v18 w _ _ _ _ _ hf M hS (by omega) (by omega) (lv_sub hl [3, 4, 2, 1] rfl)
  · rw [if_neg c45] at hf
    refine q_aload_n X dX6_moved_38 rfl (lv_at hl 3 rfl) ?_
    have ho := gR_e hf
    clear hf
    obtain ⟨a113, v114, e115, k116, q117, hf⟩ := ho
    cases e115
    refine q_get X M flX6_78.g k116 (congrArg va_rf q117) dX6_moved_39 ?_
    refine lv_iload_n X.1 X.2.1 dX6_moved_42 rfl (lv_at hl 2 rfl) ?_
    refine lv_iconst (v := 1) X.1 X.2.1 dX6_moved_43 (by decide) ?_
    have ho := tZ_e hf
    clear hf
    obtain ⟨a118, w119, e120, k121, i122, z124, q123, hf⟩ := ho
    cases e120
    refine q_zast X M hS k121 z124 i122 dX6_moved_44 (fun H locs M hS => ?_)
    rw [q123] at M
    refine q_aload_n X dX6_moved_45 rfl (lv_at hl 3 rfl) ?_
    have ho := gR_e hf
    clear hf
    obtain ⟨a125, v126, e127, k128, q129, hf⟩ := ho
    cases e127
    refine q_get X M flX6_41.g k128 (congrArg va_rf q129) dX6_moved_46 ?_
    refine lv_iload X.1 X.2.1 dX6_moved_49 (lv_at hl 0 rfl) ?_
    refine lv_iconst (v := 1) X.1 X.2.1 dX6_moved_51 (by decide) ?_
    have ho := tI_e hf
    clear hf
    obtain ⟨a130, w131, e132, k133, i134, q135, hf⟩ := ho
    cases e132
    refine q_iast X M hS k133 i134 dX6_moved_52 (fun H locs M hS => ?_)
    rw [q135] at M
    refine q_aload_n X dX6_moved_53 rfl (lv_at hl 3 rfl) ?_
    have ho := gR_e hf
    clear hf
    obtain ⟨a136, v137, e138, k139, q140, hf⟩ := ho
    cases e138
    refine q_get X M flX6_44.g k139 (congrArg va_rf q140) dX6_moved_54 ?_
    refine lv_iload X.1 X.2.1 dX6_moved_57 (lv_at hl 0 rfl) ?_
    refine q_aload_n X dX6_moved_59 rfl (lv_at hl 3 rfl) ?_
    have ho := gR_e hf
    clear hf
    obtain ⟨a141, v142, e143, k144, q145, hf⟩ := ho
    cases e143
    refine q_get X M flX6_93.g k144 (congrArg va_rf q145) dX6_moved_60 ?_
    refine lv_iload_n X.1 X.2.1 dX6_moved_63 rfl (lv_at hl 4 rfl) ?_
    have ho := aI_e hf
    clear hf
    obtain ⟨a146, v147, e148, k149, i150, q151, hf⟩ := ho
    cases e148
    refine q_iald X M k149 i150 dX6_moved_64 ?_
    rw [q151]
    have ho := tI_e hf
    clear hf
    obtain ⟨a152, w153, e154, k155, i156, q157, hf⟩ := ho
    cases e154
    refine q_iast X M hS k155 i156 dX6_moved_65 (fun H locs M hS => ?_)
    rw [q157] at M
    refine q_aload_n X dX6_moved_66 rfl (lv_at hl 3 rfl) ?_
    have ho := gR_e hf
    clear hf
    obtain ⟨a158, v159, e160, k161, q162, hf⟩ := ho
    cases e160
    refine q_get X M flX6_47.g k161 (congrArg va_rf q162) dX6_moved_67 ?_
    refine lv_iload X.1 X.2.1 dX6_moved_70 (lv_at hl 0 rfl) ?_
    refine lv_iload_n X.1 X.2.1 dX6_moved_72 rfl (lv_at hl 2 rfl) ?_
    have ho := tI_e hf
    clear hf
    obtain ⟨a163, w164, e165, k166, i167, q168, hf⟩ := ho
    cases e165
    refine q_iast X M hS k166 i167 dX6_moved_73 (fun H locs M hS => ?_)
    rw [q168] at M
    refine q_aload_n X dX6_moved_74 rfl (lv_at hl 3 rfl) ?_
    have ho := gR_e hf
    clear hf
    obtain ⟨a169, v170, e171, k172, q173, hf⟩ := ho
    cases e171
    refine q_get X M flX6_53.g k172 (congrArg va_rf q173) dX6_moved_75 ?_
    refine lv_iload X.1 X.2.1 dX6_moved_78 (lv_at hl 0 rfl) ?_
    refine q_aload_n X dX6_moved_80 rfl (lv_at hl 3 rfl) ?_
    have ho := gR_e hf
    clear hf
    obtain ⟨a174, v175, e176, k177, q178, hf⟩ := ho
    cases e176
    refine q_get X M flX6_99.g k177 (congrArg va_rf q178) dX6_moved_81 ?_
    refine lv_iload_n X.1 X.2.1 dX6_moved_84 rfl (lv_at hl 4 rfl) ?_
    have ho := aI_e hf
    clear hf
    obtain ⟨a179, v180, e181, k182, i183, q184, hf⟩ := ho
    cases e181
    refine q_iald X M k182 i183 dX6_moved_85 ?_
    rw [q184]
    have ho := tI_e hf
    clear hf
    obtain ⟨a185, w186, e187, k188, i189, q190, hf⟩ := ho
    cases e187
    refine q_iast X M hS k188 i189 dX6_moved_86 (fun H locs M hS => ?_)
    rw [q190] at M
    refine lv_iconst (v := 0) X.1 X.2.1 dX6_moved_87 (by decide) ?_
    refine lv_istore (i := 5) (lv' := [(5, .int 0), (4, .int ((16 * v7) + v18)), (3, .int v18), (2, .int v7), (0, va_rf (some o)), (1, .int x1)]) X.1 X.2.1 dX6_moved_88 hl (by decide) rfl (fun ls hl => ?_)
    exact (b_X6_moved_90 X (b_X6_moved_125 X) FU) o x1 v7 v18 ((16 * v7) + v18) 0 w186 _ _ _ _ _ hf M hS (by omega) (by omega) (lv_sub hl [4, 5, 3, 2, 1, 0] rfl)
theorem m_X6_moved {l : Launch} {D : va_G} {aC : Nat → ClassId} {b0 : Nat} {w : Wd} (o : Nat) (x1 : Int32) (v : Unit) (w' : Wd) (hf : f_X6_moved o x1 w = some (v, w')) : Ct l D aC b0 yX6_moved (Cond.code yX6_moved cX6_moved 6 none :: Gw) rX6_moved [va_rf (some o), .int x1] w none w' :=
  q_met (by decide) (Nat.le_of_ble_eq_true rfl) (fun p e s m below meth c X M ls hl => e_X6_moved X (res := (v, w')) o x1 w s.heap [] 0 0 ls hf M va_S.rf (by decide) (by decide) hl)
