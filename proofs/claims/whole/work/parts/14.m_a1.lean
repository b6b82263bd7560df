abbrev rX3_init : Room := { frames := 1, cells := 1, slots := 512, locals := 21 }
def f_X3_init (o : Nat) (x1 : Int32) (w : Wd) : Option (Unit × Wd) := nwA w 105 (mx 0 x1) 512 (fun w1 => pR w1 (some o) 4 0 (some (wn w)) (fun w6 => some ((), w6)))
set_option maxHeartbeats 4000000 in
set_option maxRecDepth 100000 in
theorem e_X3_init {l : Launch} {D : va_G} {aC : Nat → ClassId} {b0 : Nat} {p : Program} {e : Env} {s : State} {m : MethodId} {args : Array Value} {below : List Frame} {meth : Method} {c : Code} (X : Cx D aC p s m args meth c cX3_init RX3 2 "<init>" none) {res : (Unit × Wd)} (o : Nat) (x1 : Int32) (w : Wd) : BW l D aC b0 p e rX3_init s m args below meth c (Qe D aC b0 below args s 1 512 none res.2) res 1 512 1 512 (f_X3_init o x1 w) w 0 2 [(0, va_rf (some o)), (1, .int x1)] [] := by
  intro H locs cells slots ls hf M hS hc hs hl
  unfold f_X3_init at hf
  refine q_aload_n X dX3_init_0 rfl (lv_at hl 0 rfl) ?_
  refine q_obj X hl.1 gm_54 (Nat.le_of_ble_eq_true rfl) (Nat.le_of_ble_eq_true rfl) dX3_init_1 ?_
  refine q_aload_n X dX3_init_4 rfl (lv_at hl 0 rfl) ?_
  refine lv_iconst (v := 0) X.1 X.2.1 dX3_init_5 (by decide) ?_
  refine lv_iload_n X.1 X.2.1 dX3_init_6 rfl (lv_at hl 1 rfl) ?_
  refine q_max X hl.1 gm_55 gm_43 gm_44 gm_45 (Nat.le_of_ble_eq_true rfl) (Nat.le_of_ble_eq_true rfl) (MC := 1) (MS := 512) rfl rfl (by omega) (by omega) dX3_init_7 ?_
  change W _ _ _ _ _ _ _ _ _ _ _ _ _ _ _ (F0 m 10 ls ([.int (mx 0 x1), va_rf (some o)]))
  have ho := nwA_e hf
  clear hf
  obtain ⟨w1, z2, z3, q4, hf⟩ := ho
  refine q_newq X M hS (t := 5) (Or.inr (Or.inr (Or.inl ⟨rfl, rfl, rfl⟩)))  gm_56 z2 (bd := 512) z3 (by decide) (MC := 1) (MS := 512) rfl rfl (by omega) (by omega) dX3_init_10 (fun H M hS => ?_)
  rw [q4] at M
  have ho := pR_e hf
  clear hf
  obtain ⟨a5, w6, e7, k8, q9, hf⟩ := ho
  cases e7
  refine q_putR X M hS flX3_15 (Or.inr rfl) k8 dX3_init_13 (fun H locs M hS => ?_)
  rw [q9] at M
  obtain rfl := Option.some.inj hf
  exact q_vret X M hS (by omega) (by omega) dX3_init_16
theorem m_X3_init {l : Launch} {D : va_G} {aC : Nat → ClassId} {b0 : Nat} {w : Wd} (o : Nat) (x1 : Int32) (v : Unit) (w' : Wd) (hf : f_X3_init o x1 w = some (v, w')) : Ct l D aC b0 yX3_init (Cond.code yX3_init cX3_init 2 none :: Gw) rX3_init [va_rf (some o), .int x1] w none w' :=
  q_met (by decide) (Nat.le_of_ble_eq_true rfl) (fun p e s m below meth c X M ls hl => e_X3_init X (res := (v, w')) o x1 w s.heap [] 0 0 ls hf M va_S.rf (by decide) (by decide) hl)
abbrev rX0_init : Room := { frames := 1, cells := 7, slots := 64, locals := 20 }
def f_X0_init (o : Nat) (w : Wd) : Option (Unit × Wd) := nwA w 101 4 4 (fun w1 => pR w1 (some o) 1 4 (some (wn w)) (fun w6 => nwA w6 100 12 12 (fun w10 => pR w10 (some o) 1 5 (some (wn w6)) (fun w15 => nwA w15 100 12 12 (fun w19 => pR w19 (some o) 1 6 (some (wn w15)) (fun w24 => nwA w24 100 12 12 (fun w28 => pR w28 (some o) 1 7 (some (wn w24)) (fun w33 => nwA w33 101 12 12 (fun w37 => pR w37 (some o) 1 8 (some (wn w33)) (fun w42 => nwA w42 100 6 6 (fun w46 => pR w46 (some o) 1 9 (some (wn w42)) (fun w51 => nwA w51 100 6 6 (fun w55 => pR w55 (some o) 1 10 (some (wn w51)) (fun w60 => some ((), w60)))))))))))))))
set_option maxHeartbeats 4000000 in
set_option maxRecDepth 100000 in
theorem e_X0_init {l : Launch} {D : va_G} {aC : Nat → ClassId} {b0 : Nat} {p : Program} {e : Env} {s : State} {m : MethodId} {args : Array Value} {below : List Frame} {meth : Method} {c : Code} (X : Cx D aC p s m args meth c cX0_init RX0 1 "<init>" none) {res : (Unit × Wd)} (o : Nat) (w : Wd) : BW l D aC b0 p e rX0_init s m args below meth c (Qe D aC b0 below args s 7 64 none res.2) res 7 64 7 64 (f_X0_init o w) w 0 1 [(0, va_rf (some o))] [] := by
  intro H locs cells slots ls hf M hS hc hs hl
  unfold f_X0_init at hf
  refine q_aload_n X dX0_init_0 rfl (lv_at hl 0 rfl) ?_
  refine q_obj X hl.1 gm_60 (Nat.le_of_ble_eq_true rfl) (Nat.le_of_ble_eq_true rfl) dX0_init_1 ?_
  refine q_aload_n X dX0_init_4 rfl (lv_at hl 0 rfl) ?_
  refine lv_iconst (v := 4) X.1 X.2.1 dX0_init_5 (by decide) ?_
  have ho := nwA_e hf
  clear hf
  obtain ⟨w1, z2, z3, q4, hf⟩ := ho
  refine q_newa X M hS (t := 1) (Or.inr (Or.inl ⟨rfl, rfl⟩)) gm_61 z2 (bd := 4) z3 (by decide) (MC := 7) (MS := 64) rfl rfl (by omega) (by omega) dX0_init_6 (fun H M hS => ?_)
  rw [q4] at M
  have ho := pR_e hf
  clear hf
  obtain ⟨a5, w6, e7, k8, q9, hf⟩ := ho
  cases e7
  refine q_putR X M hS flX0_9 (Or.inr rfl) k8 dX0_init_8 (fun H locs M hS => ?_)
  rw [q9] at M
  refine q_aload_n X dX0_init_11 rfl (lv_at hl 0 rfl) ?_
  refine lv_bipush (v := 12) X.1 X.2.1 dX0_init_12 (by decide) ?_
  have ho := nwA_e hf
  clear hf
  obtain ⟨w10, z11, z12, q13, hf⟩ := ho
  refine q_newa X M hS (t := 0) (Or.inl ⟨rfl, rfl⟩) gm_63 z11 (bd := 12) z12 (by decide) (MC := 7) (MS := 64) rfl rfl (by omega) (by omega) dX0_init_14 (fun H M hS => ?_)
  rw [q13] at M
  have ho := pR_e hf
  clear hf
  obtain ⟨a14, w15, e16, k17, q18, hf⟩ := ho
  cases e16
  refine q_putR X M hS flX0_15 (Or.inr rfl) k17 dX0_init_16 (fun H locs M hS => ?_)
  rw [q18] at M
  refine q_aload_n X dX0_init_19 rfl (lv_at hl 0 rfl) ?_
  refine lv_bipush (v := 12) X.1 X.2.1 dX0_init_20 (by decide) ?_
  have ho := nwA_e hf
  clear hf
  obtain ⟨w19, z20, z21, q22, hf⟩ := ho
  refine q_newa X M hS (t := 0) (Or.inl ⟨rfl, rfl⟩) gm_63 z20 (bd := 12) z21 (by decide) (MC := 7) (MS := 64) rfl rfl (by omega) (by omega) dX0_init_22 (fun H M hS => ?_)
  rw [q22] at M
  have ho := pR_e hf
  clear hf
  obtain ⟨a23, w24, e25, k26, q27, hf⟩ := ho
  cases e25
  refine q_putR X M hS flX0_19 (Or.inr rfl) k26 dX0_init_24 (fun H locs M hS => ?_)
  rw [q27] at M
  refine q_aload_n X dX0_init_27 rfl (lv_at hl 0 rfl) ?_
  refine lv_bipush (v := 12) X.1 X.2.1 dX0_init_28 (by decide) ?_
  have ho := nwA_e hf
  clear hf
  obtain ⟨w28, z29, z30, q31, hf⟩ := ho
  refine q_newa X M hS (t := 0) (Or.inl ⟨rfl, rfl⟩) gm_63 z29 (bd := 12) z30 (by decide) (MC := 7) (MS := 64) rfl rfl (by omega) (by omega) dX0_init_30 (fun H M hS => ?_)
  rw [q31] at M
  have ho := pR_e hf
  clear hf
  obtain ⟨a32, w33, e34, k35, q36, hf⟩ := ho
  cases e34
  refine q_putR X M hS flX0_22 (Or.inr rfl) k35 dX0_init_32 (fun H locs M hS => ?_)
  rw [q36] at M
  refine q_aload_n X dX0_init_35 rfl (lv_at hl 0 rfl) ?_
  refine lv_bipush (v := 12) X.1 X.2.1 dX0_init_36 (by decide) ?_
  have ho := nwA_e hf
  clear hf
  obtain ⟨w37, z38, z39, q40, hf⟩ := ho
  refine q_newa X M hS (t := 1) (Or.inr (Or.inl ⟨rfl, rfl⟩)) gm_61 z38 (bd := 12) z39 (by decide) (MC := 7) (MS := 64) rfl rfl (by omega) (by omega) dX0_init_38 (fun H M hS => ?_)
  rw [q40] at M
  have ho := pR_e hf
  clear hf
  obtain ⟨a41, w42, e43, k44, q45, hf⟩ := ho
  cases e43
  refine q_putR X M hS flX0_25 (Or.inr rfl) k44 dX0_init_40 (fun H locs M hS => ?_)
  rw [q45] at M
  refine q_aload_n X dX0_init_43 rfl (lv_at hl 0 rfl) ?_
  refine lv_bipush (v := 6) X.1 X.2.1 dX0_init_44 (by decide) ?_
  have ho := nwA_e hf
  clear hf
  obtain ⟨w46, z47, z48, q49, hf⟩ := ho
  refine q_newa X M hS (t := 0) (Or.inl ⟨rfl, rfl⟩) gm_63 z47 (bd := 6) z48 (by decide) (MC := 7) (MS := 64) rfl rfl (by omega) (by omega) dX0_init_46 (fun H M hS => ?_)
  rw [q49] at M
  have ho := pR_e hf
  clear hf
  obtain ⟨a50, w51, e52, k53, q54, hf⟩ := ho
  cases e52
  refine q_putR X M hS flX0_28 (Or.inr rfl) k53 dX0_init_48 (fun H locs M hS => ?_)
  rw [q54] at M
  refine q_aload_n X dX0_init_51 rfl (lv_at hl 0 rfl) ?_
  refine lv_bipush (v := 6) X.1 X.2.1 dX0_init_52 (by decide) ?_
  have ho := nwA_e hf
  clear hf
  obtain ⟨w55, z56, z57, q58, hf⟩ := ho
  refine q_newa X M hS (t := 0) (Or.inl ⟨rfl, rfl⟩) gm_63 z56 (bd := 6) z57 (by decide) (MC := 7) (MS := 64) rfl rfl (by omega) (by omega) dX0_init_54 (fun H M hS => ?_)
  rw [q58] at M
  have ho := pR_e hf
  clear hf
  obtain ⟨a59, w60, e61, k62, q63, hf⟩ := ho
  cases e61
  refine q_putR X M hS flX0_31 (Or.inr rfl) k62 dX0_init_56 (fun H locs M hS => ?_)
  rw [q63] at M
  obtain rfl := Option.some.inj hf
  exact q_vret X M hS (by omega) (by omega) dX0_init_59
theorem m_X0_init {l : Launch} {D : va_G} {aC : Nat → ClassId} {b0 : Nat} {w : Wd} (o : Nat) (v : Unit) (w' : Wd) (hf : f_X0_init o w = some (v, w')) : Ct l D aC b0 yX0_init (Cond.code yX0_init cX0_init 1 none :: Gw) rX0_init [va_rf (some o)] w none w' :=
  q_met (by decide) (Nat.le_of_ble_eq_true rfl) (fun p e s m below meth c X M ls hl => e_X0_init X (res := (v, w')) o w s.heap [] 0 0 ls hf M va_S.rf (by decide) (by decide) hl)
abbrev rX0_copyFrom : Room := { frames := 1, cells := 0, slots := 0, locals := 26 }
def f_X0_copyFrom (o : Nat) (x1 : Option Nat) (w : Wd) : Option (Unit × Wd) := gI w x1 1 0 (fun v2 => pI w (some o) 1 0 v2 (fun w7 => gI w7 x1 1 1 (fun v12 => pI w7 (some o) 1 1 v12 (fun w17 => gI w17 x1 1 2 (fun v22 => pI w17 (some o) 1 2 v22 (fun w27 => gI w27 x1 1 3 (fun v32 => pI w27 (some o) 1 3 v32 (fun w37 => gR w37 x1 1 4 (fun v42 => gR w37 (some o) 1 4 (fun v47 => cpL w37 v42 0 v47 0 4 (fun w53 => gR w53 x1 1 5 (fun v65 => gR w53 (some o) 1 5 (fun v70 => gI w53 (some o) 1 3 (fun v75 => cpI w53 v65 0 v70 0 v75 (fun w81 => gR w81 x1 1 6 (fun v93 => gR w81 (some o) 1 6 (fun v98 => gI w81 (some o) 1 3 (fun v103 => cpI w81 v93 0 v98 0 v103 (fun w109 => gR w109 x1 1 7 (fun v121 => gR w109 (some o) 1 7 (fun v126 => gI w109 (some o) 1 3 (fun v131 => cpI w109 v121 0 v126 0 v131 (fun w137 => gR w137 x1 1 8 (fun v149 => gR w137 (some o) 1 8 (fun v154 => gI w137 (some o) 1 3 (fun v159 => cpL w137 v149 0 v154 0 v159 (fun w165 => gR w165 x1 1 9 (fun v177 => gR w165 (some o) 1 9 (fun v182 => cpI w165 v177 0 v182 0 6 (fun w188 => gR w188 x1 1 10 (fun v200 => gR w188 (some o) 1 10 (fun v205 => cpI w188 v200 0 v205 0 6 (fun w211 => some ((), w211))))))))))))))))))))))))))))))))))
set_option maxHeartbeats 4000000 in
set_option maxRecDepth 100000 in
theorem e_X0_copyFrom {l : Launch} {D : va_G} {aC : Nat → ClassId} {b0 : Nat} {p : Program} {e : Env} {s : State} {m : MethodId} {args : Array Value} {below : List Frame} {meth : Method} {c : Code} (X : Cx D aC p s m args meth c cX0_copyFrom RX0 2 "copyFrom" none) {res : (Unit × Wd)} (o : Nat) (x1 : Option Nat) (w : Wd) : BW l D aC b0 p e rX0_copyFrom s m args below meth c (Qe D aC b0 below args s 0 0 none res.2) res 0 0 0 0 (f_X0_copyFrom o x1 w) w 0 2 [(0, va_rf (some o)), (1, va_rf x1)] [] := by
  intro H locs cells slots ls hf M hS hc hs hl
  unfold f_X0_copyFrom at hf
  refine q_aload_n X dX0_copyFrom_0 rfl (lv_at hl 0 rfl) ?_
  refine q_aload_n X dX0_copyFrom_1 rfl (lv_at hl 1 rfl) ?_
  have ho := gI_e hf
  clear hf
  obtain ⟨a1, v2, e3, k4, q5, hf⟩ := ho
  cases e3
  refine q_get X M flX0_34.g k4 (congrArg Value.int q5) dX0_copyFrom_2 ?_
  have ho := pI_e hf
  clear hf
  obtain ⟨a6, w7, e8, k9, q10, hf⟩ := ho
  cases e8
  refine q_putI X M hS flX0_34 (Or.inl rfl) k9 dX0_copyFrom_5 (fun H locs M hS => ?_)
  rw [q10] at M
  refine q_aload_n X dX0_copyFrom_8 rfl (lv_at hl 0 rfl) ?_
  refine q_aload_n X dX0_copyFrom_9 rfl (lv_at hl 1 rfl) ?_
  have ho := gI_e hf
  clear hf
  obtain ⟨a11, v12, e13, k14, q15, hf⟩ := ho
  cases e13
  refine q_get X M flX0_38.g k14 (congrArg Value.int q15) dX0_copyFrom_10 ?_
  have ho := pI_e hf
  clear hf
  obtain ⟨a16, w17, e18, k19, q20, hf⟩ := ho
  cases e18
  refine q_putI X M hS flX0_38 (Or.inl rfl) k19 dX0_copyFrom_13 (fun H locs M hS => ?_)
  rw [q20] at M
  refine q_aload_n X dX0_copyFrom_16 rfl (lv_at hl 0 rfl) ?_
  refine q_aload_n X dX0_copyFrom_17 rfl (lv_at hl 1 rfl) ?_
  have ho := gI_e hf
  clear hf
  obtain ⟨a21, v22, e23, k24, q25, hf⟩ := ho
  cases e23
  refine q_get X M flX0_41.g k24 (congrArg Value.int q25) dX0_copyFrom_18 ?_
  have ho := pI_e hf
  clear hf
  obtain ⟨a26, w27, e28, k29, q30, hf⟩ := ho
  cases e28
  refine q_putI X M hS flX0_41 (Or.inl rfl) k29 dX0_copyFrom_21 (fun H locs M hS => ?_)
  rw [q30] at M
  refine q_aload_n X dX0_copyFrom_24 rfl (lv_at hl 0 rfl) ?_
  refine q_aload_n X dX0_copyFrom_25 rfl (lv_at hl 1 rfl) ?_
  have ho := gI_e hf
  clear hf
  obtain ⟨a31, v32, e33, k34, q35, hf⟩ := ho
  cases e33
  refine q_get X M flX0_44.g k34 (congrArg Value.int q35) dX0_copyFrom_26 ?_
  have ho := pI_e hf
  clear hf
  obtain ⟨a36, w37, e38, k39, q40, hf⟩ := ho
  cases e38
  refine q_putI X M hS flX0_44 (Or.inl rfl) k39 dX0_copyFrom_29 (fun H locs M hS => ?_)
  rw [q40] at M
  refine q_aload_n X dX0_copyFrom_32 rfl (lv_at hl 1 rfl) ?_
  have ho := gR_e hf
  clear hf
  obtain ⟨a41, v42, e43, k44, q45, hf⟩ := ho
  cases e43
  refine q_get X M flX0_9.g k44 (congrArg va_rf q45) dX0_copyFrom_33 ?_
  refine lv_iconst (v := 0) X.1 X.2.1 dX0_copyFrom_36 (by decide) ?_
  refine q_aload_n X dX0_copyFrom_37 rfl (lv_at hl 0 rfl) ?_
  have ho := gR_e hf
  clear hf
  obtain ⟨a46, v47, e48, k49, q50, hf⟩ := ho
  cases e48
  refine q_get X M flX0_9.g k49 (congrArg va_rf q50) dX0_copyFrom_38 ?_
  refine lv_iconst (v := 0) X.1 X.2.1 dX0_copyFrom_41 (by decide) ?_
  refine lv_iconst (v := 4) X.1 X.2.1 dX0_copyFrom_42 (by decide) ?_
  have ho := cpL_e hf
  clear hf
  obtain ⟨a51, a52, w53, e54, e55, k56, k57, z58, z59, z60, z61, z62, q63, hf⟩ := ho
  cases e54
  cases e55
  refine q_cpyL X M hS hl.1 saX0_47 k56 k57 z58 z59 z60 z61 z62 (Nat.le_of_ble_eq_true rfl) (Nat.le_of_ble_eq_true rfl) dX0_copyFrom_43 (fun H locs M hS => ?_)
  rw [q63] at M
  refine q_aload_n X dX0_copyFrom_46 rfl (lv_at hl 1 rfl) ?_
  have ho := gR_e hf
  clear hf
  obtain ⟨a64, v65, e66, k67, q68, hf⟩ := ho
  cases e66
  refine q_get X M flX0_15.g k67 (congrArg va_rf q68) dX0_copyFrom_47 ?_
  refine lv_iconst (v := 0) X.1 X.2.1 dX0_copyFrom_50 (by decide) ?_
  refine q_aload_n X dX0_copyFrom_51 rfl (lv_at hl 0 rfl) ?_
  have ho := gR_e hf
  clear hf
  obtain ⟨a69, v70, e71, k72, q73, hf⟩ := ho
  cases e71
  refine q_get X M flX0_15.g k72 (congrArg va_rf q73) dX0_copyFrom_52 ?_
  refine lv_iconst (v := 0) X.1 X.2.1 dX0_copyFrom_55 (by decide) ?_
  refine q_aload_n X dX0_copyFrom_56 rfl (lv_at hl 0 rfl) ?_
  have ho := gI_e hf
  clear hf
  obtain ⟨a74, v75, e76, k77, q78, hf⟩ := ho
  cases e76
  refine q_get X M flX0_44.g k77 (congrArg Value.int q78) dX0_copyFrom_57 ?_
  have ho := cpI_e hf
  clear hf
  obtain ⟨a79, a80, w81, e82, e83, k84, k85, z86, z87, z88, z89, z90, q91, hf⟩ := ho
  cases e82
  cases e83
  refine q_cpyI X M hS hl.1 saX0_47 k84 k85 z86 z87 z88 z89 z90 (Nat.le_of_ble_eq_true rfl) (Nat.le_of_ble_eq_true rfl) dX0_copyFrom_60 (fun H locs M hS => ?_)
  rw [q91] at M
  refine q_aload_n X dX0_copyFrom_63 rfl (lv_at hl 1 rfl) ?_
  have ho := gR_e hf
  clear hf
  obtain ⟨a92, v93, e94, k95, q96, hf⟩ := ho
  cases e94
  refine q_get X M flX0_19.g k95 (congrArg va_rf q96) dX0_copyFrom_64 ?_
  refine lv_iconst (v := 0) X.1 X.2.1 dX0_copyFrom_67 (by decide) ?_
  refine q_aload_n X dX0_copyFrom_68 rfl (lv_at hl 0 rfl) ?_
  have ho := gR_e hf
  clear hf
  obtain ⟨a97, v98, e99, k100, q101, hf⟩ := ho
  cases e99
  refine q_get X M flX0_19.g k100 (congrArg va_rf q101) dX0_copyFrom_69 ?_
  refine lv_iconst (v := 0) X.1 X.2.1 dX0_copyFrom_72 (by decide) ?_
  refine q_aload_n X dX0_copyFrom_73 rfl (lv_at hl 0 rfl) ?_
  have ho := gI_e hf
  clear hf
  obtain ⟨a102, v103, e104, k105, q106, hf⟩ := ho
  cases e104
  refine q_get X M flX0_44.g k105 (congrArg Value.int q106) dX0_copyFrom_74 ?_
  have ho := cpI_e hf
  clear hf
  obtain ⟨a107, a108, w109, e110, e111, k112, k113, z114, z115, z116, z117, z118, q119, hf⟩ := ho
  cases e110
  cases e111
  refine q_cpyI X M hS hl.1 saX0_47 k112 k113 z114 z115 z116 z117 z118 (Nat.le_of_ble_eq_true rfl) (Nat.le_of_ble_eq_true rfl) dX0_copyFrom_77 (fun H locs M hS => ?_)
  rw [q119] at M
  refine q_aload_n X dX0_copyFrom_80 rfl (lv_at hl 1 rfl) ?_
  have ho := gR_e hf
  clear hf
  obtain ⟨a120, v121, e122, k123, q124, hf⟩ := ho
  cases e122
  refine q_get X M flX0_22.g k123 (congrArg va_rf q124) dX0_copyFrom_81 ?_
  refine lv_iconst (v := 0) X.1 X.2.1 dX0_copyFrom_84 (by decide) ?_
  refine q_aload_n X dX0_copyFrom_85 rfl (lv_at hl 0 rfl) ?_
  have ho := gR_e hf
  clear hf
  obtain ⟨a125, v126, e127, k128, q129, hf⟩ := ho
  cases e127
  refine q_get X M flX0_22.g k128 (congrArg va_rf q129) dX0_copyFrom_86 ?_
  refine lv_iconst (v := 0) X.1 X.2.1 dX0_copyFrom_89 (by decide) ?_
  refine q_aload_n X dX0_copyFrom_90 rfl (lv_at hl 0 rfl) ?_
  have ho := gI_e hf
  clear hf
  obtain ⟨a130, v131, e132, k133, q134, hf⟩ := ho
  cases e132
  refine q_get X M flX0_44.g k133 (congrArg Value.int q134) dX0_copyFrom_91 ?_
  have ho := cpI_e hf
  clear hf
  obtain ⟨a135, a136, w137, e138, e139, k140, k141, z142, z143, z144, z145, z146, q147, hf⟩ := ho
  cases e138
  cases e139
  refine q_cpyI X M hS hl.1 saX0_47 k140 k141 z142 z143 z144 z145 z146 (Nat.le_of_ble_eq_true rfl) (Nat.le_of_ble_eq_true rfl) dX0_copyFrom_94 (fun H locs M hS => ?_)
  rw [q147] at M
  refine q_aload_n X dX0_copyFrom_97 rfl (lv_at hl 1 rfl) ?_
  have ho := gR_e hf
  clear hf
  obtain ⟨a148, v149, e150, k151, q152, hf⟩ := ho
  cases e150
  refine q_get X M flX0_25.g k151 (congrArg va_rf q152) dX0_copyFrom_98 ?_
  refine lv_iconst (v := 0) X.1 X.2.1 dX0_copyFrom_101 (by decide) ?_
  refine q_aload_n X dX0_copyFrom_102 rfl (lv_at hl 0 rfl) ?_
  have ho := gR_e hf
  clear hf
  obtain ⟨a153, v154, e155, k156, q157, hf⟩ := ho
  cases e155
  refine q_get X M flX0_25.g k156 (congrArg va_rf q157) dX0_copyFrom_103 ?_
  refine lv_iconst (v := 0) X.1 X.2.1 dX0_copyFrom_106 (by decide) ?_
  refine q_aload_n X dX0_copyFrom_107 rfl (lv_at hl 0 rfl) ?_
  have ho := gI_e hf
  clear hf
  obtain ⟨a158, v159, e160, k161, q162, hf⟩ := ho
  cases e160
  refine q_get X M flX0_44.g k161 (congrArg Value.int q162) dX0_copyFrom_108 ?_
  have ho := cpL_e hf
  clear hf
  obtain ⟨a163, a164, w165, e166, e167, k168, k169, z170, z171, z172, z173, z174, q175, hf⟩ := ho
  cases e166
  cases e167
  refine q_cpyL X M hS hl.1 saX0_47 k168 k169 z170 z171 z172 z173 z174 (Nat.le_of_ble_eq_true rfl) (Nat.le_of_ble_eq_true rfl) dX0_copyFrom_111 (fun H locs M hS => ?_)
  rw [q175] at M
  refine q_aload_n X dX0_copyFrom_114 rfl (lv_at hl 1 rfl) ?_
  have ho := gR_e hf
  clear hf
  obtain ⟨a176, v177, e178, k179, q180, hf⟩ := ho
  cases e178
  refine q_get X M flX0_28.g k179 (congrArg va_rf q180) dX0_copyFrom_115 ?_
  refine lv_iconst (v := 0) X.1 X.2.1 dX0_copyFrom_118 (by decide) ?_
  refine q_aload_n X dX0_copyFrom_119 rfl (lv_at hl 0 rfl) ?_
  have ho := gR_e hf
  clear hf
  obtain ⟨a181, v182, e183, k184, q185, hf⟩ := ho
  cases e183
  refine q_get X M flX0_28.g k184 (congrArg va_rf q185) dX0_copyFrom_120 ?_
  refine lv_iconst (v := 0) X.1 X.2.1 dX0_copyFrom_123 (by decide) ?_
  refine lv_bipush (v := 6) X.1 X.2.1 dX0_copyFrom_124 (by decide) ?_
  have ho := cpI_e hf
  clear hf
  obtain ⟨a186, a187, w188, e189, e190, k191, k192, z193, z194, z195, z196, z197, q198, hf⟩ := ho
  cases e189
  cases e190
  refine q_cpyI X M hS hl.1 saX0_47 k191 k192 z193 z194 z195 z196 z197 (Nat.le_of_ble_eq_true rfl) (Nat.le_of_ble_eq_true rfl) dX0_copyFrom_126 (fun H locs M hS => ?_)
  rw [q198] at M
  refine q_aload_n X dX0_copyFrom_129 rfl (lv_at hl 1 rfl) ?_
  have ho := gR_e hf
  clear hf
  obtain ⟨a199, v200, e201, k202, q203, hf⟩ := ho
  cases e201
  refine q_get X M flX0_31.g k202 (congrArg va_rf q203) dX0_copyFrom_130 ?_
  refine lv_iconst (v := 0) X.1 X.2.1 dX0_copyFrom_133 (by decide) ?_
  refine q_aload_n X dX0_copyFrom_134 rfl (lv_at hl 0 rfl) ?_
  have ho := gR_e hf
  clear hf
  obtain ⟨a204, v205, e206, k207, q208, hf⟩ := ho
  cases e206
  refine q_get X M flX0_31.g k207 (congrArg va_rf q208) dX0_copyFrom_135 ?_
  refine lv_iconst (v := 0) X.1 X.2.1 dX0_copyFrom_138 (by decide) ?_
  refine lv_bipush (v := 6) X.1 X.2.1 dX0_copyFrom_139 (by decide) ?_
  have ho := cpI_e hf
  clear hf
  obtain ⟨a209, a210, w211, e212, e213, k214, k215, z216, z217, z218, z219, z220, q221, hf⟩ := ho
  cases e212
  cases e213
  refine q_cpyI X M hS hl.1 saX0_47 k214 k215 z216 z217 z218 z219 z220 (Nat.le_of_ble_eq_true rfl) (Nat.le_of_ble_eq_true rfl) dX0_copyFrom_141 (fun H locs M hS => ?_)
  rw [q221] at M
  obtain rfl := Option.some.inj hf
  exact q_vret X M hS (by omega) (by omega) dX0_copyFrom_144
theorem m_X0_copyFrom {l : Launch} {D : va_G} {aC : Nat → ClassId} {b0 : Nat} {w : Wd} (o : Nat) (x1 : Option Nat) (v : Unit) (w' : Wd) (hf : f_X0_copyFrom o x1 w = some (v, w')) : Ct l D aC b0 yX0_copyFrom (Cond.code yX0_copyFrom cX0_copyFrom 2 none :: Gw) rX0_copyFrom [va_rf (some o), va_rf x1] w none w' :=
  q_met (by decide) (by simp [lg_sl, cat1, cati, catl]) (fun p e s m below meth c X M ls hl => e_X0_copyFrom X (res := (v, w')) o x1 w s.heap [] 0 0 ls hf M va_S.rf (by decide) (by decide) (by simpa [lv_args, cat1, cati, catl] using hl))
abbrev rX4_init : Room := { frames := 2, cells := 148, slots := 1880, locals := 47 }
def f_X4_init_120 (K60 : Nat → Int32 → Int32 → Int32 → Wd → Option (Unit × Wd)) (o : Nat) (x1 : Int32) (x3 : Int32) (x4 : Int32) (x5 : Option Nat) (y0 : Option Nat) (y1 : Int32) (w : Wd) : Option (Unit × Wd) := pI w y0 1 1 y1 (fun w76 => gR w76 (some o) 5 2 (fun v81 => tR w76 v81 103 x4 x5 1 (fun w86 => gR w86 (some o) 5 3 (fun v93 => nwO w86 1 (fun w97 => bnd (f_X0_init (wn w86) w97) (fun v99 w100 => tR w100 v93 103 x4 (some (wn w86)) 1 (fun w103 => gR w103 (some o) 5 3 (fun v110 => aR w103 v110 103 x4 (fun v115 => chk w103 v115 1 (fun a123 => bnd (f_X0_copyFrom a123 x5 w103) (fun v120 w121 => K60 o x1 x3 (x4 + 1) w121)))))))))))
set_option maxHeartbeats 4000000 in
set_option maxRecDepth 100000 in
theorem b_X4_init_120 {l : Launch} {D : va_G} {aC : Nat → ClassId} {b0 : Nat} {p : Program} {e : Env} {s : State} {m : MethodId} {args : Array Value} {below : List Frame} {meth : Method} {c : Code} (X : Cx D aC p s m args meth c cX4_init RX4 6 "<init>" none) {res : (Unit × Wd)} {nn : Nat} {K60 : Nat → Int32 → Int32 → Int32 → Wd → Option (Unit × Wd)} (hK60 : ∀ (o : Nat) (x1 : Int32) (x3 : Int32) (x4 : Int32) (w : Wd), BW l D aC b0 p e rX4_init s m args below meth c (Qe D aC b0 below args s 148 1880 none res.2) res 148 1880 (nn * 16 + 0) (nn * 150 + 0) (K60 o x1 x3 x4 w) w 60 6 [(0, va_rf (some o)), (1, .int x1), (3, .int x3), (4, .int x4)] []) : ∀ (o : Nat) (x1 : Int32) (x3 : Int32) (x4 : Int32) (x5 : Option Nat) (y0 : Option Nat) (y1 : Int32) (w : Wd), BW l D aC b0 p e rX4_init s m args below meth c (Qe D aC b0 below args s 148 1880 none res.2) res 148 1880 (nn * 16 + 8) (nn * 150 + 75) (f_X4_init_120 K60 o x1 x3 x4 x5 y0 y1 w) w 120 6 [(0, va_rf (some o)), (1, .int x1), (3, .int x3), (4, .int x4), (5, va_rf x5)] [.int y1, va_rf y0] := by
  intro o x1 x3 x4 x5 y0 y1 w H locs cells slots ls hf M hS hc hs hl
  unfold f_X4_init_120 at hf
  have ho := pI_e hf
  clear hf
  obtain ⟨a75, w76, e77, k78, q79, hf⟩ := ho
  cases e77
  refine q_putI X M hS flX4_53 (Or.inl rfl) k78 dX4_init_120 (fun H locs M hS => ?_)
  rw [q79] at M
  refine q_aload_n X dX4_init_123 rfl (lv_at hl 0 rfl) ?_
  have ho := gR_e hf
  clear hf
  obtain ⟨a80, v81, e82, k83, q84, hf⟩ := ho
  cases e82
  refine q_get X M flX4_22.g k83 (congrArg va_rf q84) dX4_init_124 ?_
  refine lv_iload X.1 X.2.1 dX4_init_127 (lv_at hl 3 rfl) ?_
  refine q_aload X dX4_init_129 (lv_at hl 4 rfl) ?_
  have ho := tR_e hf
  clear hf
  obtain ⟨a85, w86, e87, k88, i89, z91, q90, hf⟩ := ho
  cases e87
  refine q_aast X M hS (Or.inl ⟨rfl, rfl, rfl⟩) k88 z91 i89 dX4_init_131 (fun H locs M hS => ?_)
  rw [q90] at M
  refine q_aload_n X dX4_init_132 rfl (lv_at hl 0 rfl) ?_
  have ho := gR_e hf
  clear hf
  obtain ⟨a92, v93, e94, k95, q96, hf⟩ := ho
  cases e94
  refine q_get X M flX4_26.g k95 (congrArg va_rf q96) dX4_init_133 ?_
  refine lv_iload X.1 X.2.1 dX4_init_136 (lv_at hl 3 rfl) ?_
  have ho := nwO_e hf
  clear hf
  obtain ⟨w97, q98, hf⟩ := ho
  refine q_new X M hS clX4_20 (MC := 148) (MS := 1880) rfl rfl (by omega) (by omega) dX4_init_138 (fun H M hS => ?_)
  rw [q98] at M
  refine lv_dup X.1 X.2.1 dX4_init_141 rfl ?_
  have ho := bnd_e hf
  clear hf
  obtain ⟨v99, w100, q101, hf⟩ := ho
  refine q_cIN X M hS hl.1 (As := []) (m_X0_init (wn w86) _ _ q101) mn_X0_init (X.2.2.2.2.2.2.2.2.2.1) gm_58 rfl rfl ⟨(Nat.le_of_ble_eq_true rfl), (Nat.le_of_ble_eq_true rfl)⟩ (rest := [va_rf (some (wn w86)), .int x4, va_rf v93]) rfl (by simp [cat1, cati, catl]) (mc := 7) (ms := 64) (MC := 148) (MS := 1880) rfl rfl rfl rfl (by omega) (by omega) dX4_init_142 (fun H locs M hS => ?_)
  have ho := tR_e hf
  clear hf
  obtain ⟨a102, w103, e104, k105, i106, z108, q107, hf⟩ := ho
  cases e104
  refine q_aast X M hS (Or.inl ⟨rfl, rfl, rfl⟩) k105 z108 i106 dX4_init_145 (fun H locs M hS => ?_)
  rw [q107] at M
  refine q_aload_n X dX4_init_146 rfl (lv_at hl 0 rfl) ?_
  have ho := gR_e hf
  clear hf
  obtain ⟨a109, v110, e111, k112, q113, hf⟩ := ho
  cases e111
  refine q_get X M flX4_26.g k112 (congrArg va_rf q113) dX4_init_147 ?_
  refine lv_iload X.1 X.2.1 dX4_init_150 (lv_at hl 3 rfl) ?_
  have ho := aR_e hf
  clear hf
  obtain ⟨a114, v115, e116, k117, i118, q119, hf⟩ := ho
  cases e116
  refine q_aald X M (Or.inl ⟨rfl, rfl, rfl⟩) k117 i118 dX4_init_152 ?_
  rw [q119]
  refine q_aload X dX4_init_153 (lv_at hl 4 rfl) ?_
  have ho := chk_e hf
  clear hf
  obtain ⟨a123, e124, k125, hf⟩ := ho
  cases e124
  have ho := bnd_e hf
  clear hf
  obtain ⟨v120, w121, q122, hf⟩ := ho
  refine q_cV X M hS hl.1 (ci := 0) (r := (RX0, TX0, 11)) (As := [va_rf x5]) (m_X0_copyFrom a123 x5 _ _ q122) mlX4_56 gm_71 gm_72 rfl (by decide) k125 rfl ⟨(Nat.le_of_ble_eq_true rfl), (Nat.le_of_ble_eq_true rfl)⟩ (rest := []) rfl (Nat.le_of_ble_eq_true rfl) (mc := 0) (ms := 0) (MC := 148) (MS := 1880) rfl rfl rfl rfl (by omega) (by omega) dX4_init_155 (st2 := []) rfl (fun H locs M hS => ?_)
  refine lv_iinc (v := (x4 + 1)) (lv' := [(4, .int (x4 + 1)), (0, va_rf (some o)), (1, .int x1), (3, .int x3), (5, va_rf x5)]) X.1 X.2.1 dX4_init_158 hl (k := 3) rfl rfl (by decide) rfl (fun ls hl => ?_)
  refine lv_goto (tgt := 60) X.1 X.2.1 dX4_init_161 (by decide) ?_
  exact hK60 o x1 x3 (x4 + 1) w121 _ _ _ _ _ hf M hS (by omega) (by omega) (lv_sub hl [1, 2, 3, 0] rfl)
def f_X4_init_101 (K60 : Nat → Int32 → Int32 → Int32 → Wd → Option (Unit × Wd)) (o : Nat) (x1 : Int32) (x3 : Int32) (x4 : Int32) (x5 : Option Nat) (y0 : Option Nat) (y1 : Int32) (w : Wd) : Option (Unit × Wd) := pI w y0 1 0 y1 (fun w65 => gI w65 x5 1 2 (fun v70 => if v70 = x1 then ((f_X4_init_120 K60) o x1 x3 x4 x5 x5 1 w65) else ((f_X4_init_120 K60) o x1 x3 x4 x5 x5 0 w65)))
set_option maxHeartbeats 4000000 in
set_option maxRecDepth 100000 in
theorem b_X4_init_101 {l : Launch} {D : va_G} {aC : Nat → ClassId} {b0 : Nat} {p : Program} {e : Env} {s : State} {m : MethodId} {args : Array Value} {below : List Frame} {meth : Method} {c : Code} (X : Cx D aC p s m args meth c cX4_init RX4 6 "<init>" none) {res : (Unit × Wd)} {nn : Nat} {K60 : Nat → Int32 → Int32 → Int32 → Wd → Option (Unit × Wd)} (hK60 : ∀ (o : Nat) (x1 : Int32) (x3 : Int32) (x4 : Int32) (w : Wd), BW l D aC b0 p e rX4_init s m args below meth c (Qe D aC b0 below args s 148 1880 none res.2) res 148 1880 (nn * 16 + 0) (nn * 150 + 0) (K60 o x1 x3 x4 w) w 60 6 [(0, va_rf (some o)), (1, .int x1), (3, .int x3), (4, .int x4)] []) : ∀ (o : Nat) (x1 : Int32) (x3 : Int32) (x4 : Int32) (x5 : Option Nat) (y0 : Option Nat) (y1 : Int32) (w : Wd), BW l D aC b0 p e rX4_init s m args below meth c (Qe D aC b0 below args s 148 1880 none res.2) res 148 1880 (nn * 16 + 8) (nn * 150 + 75) (f_X4_init_101 K60 o x1 x3 x4 x5 y0 y1 w) w 101 6 [(0, va_rf (some o)), (1, .int x1), (3, .int x3), (4, .int x4), (5, va_rf x5)] [.int y1, va_rf y0] := by
  intro o x1 x3 x4 x5 y0 y1 w H locs cells slots ls hf M hS hc hs hl
  unfold f_X4_init_101 at hf
  have ho := pI_e hf
  clear hf
  obtain ⟨a64, w65, e66, k67, q68, hf⟩ := ho
  cases e66
  refine q_putI X M hS flX4_50 (Or.inl rfl) k67 dX4_init_101 (fun H locs M hS => ?_)
  rw [q68] at M
  refine q_aload X dX4_init_104 (lv_at hl 4 rfl) ?_
  refine q_aload X dX4_init_106 (lv_at hl 4 rfl) ?_
  have ho := gI_e hf
  clear hf
  obtain ⟨a69, v70, e71, k72, q73, hf⟩ := ho
  cases e71
  refine q_get X M flX4_47.g k72 (congrArg Value.int q73) dX4_init_108 ?_
  refine lv_iload_n X.1 X.2.1 dX4_init_111 rfl (lv_at hl 1 rfl) ?_
  refine lv_icmp_ne (tgt := 119) X.1 X.2.1 dX4_init_112 (by decide) (fun c74 => ?_) (fun c74 => ?_)
  · rw [if_neg c74] at hf
    refine lv_iconst (v := 0) X.1 X.2.1 dX4_init_119 (by decide) ?_
    exact (b_X4_init_120 (nn := nn) X hK60) o x1 x3 x4 (some a69) (some a69) 0 w65 _ _ _ _ _ hf M hS (by omega) (by omega) (lv_sub hl [0, 1, 2, 3, 4] rfl)
  · rw [if_pos c74] at hf
    refine lv_iconst (v := 1) X.1 X.2.1 dX4_init_115 (by decide) ?_
    refine lv_goto (tgt := 120) X.1 X.2.1 dX4_init_116 (by decide) ?_
    exact (b_X4_init_120 (nn := nn) X hK60) o x1 x3 x4 (some a69) (some a69) 1 w65 _ _ _ _ _ hf M hS (by omega) (by omega) (lv_sub hl [0, 1, 2, 3, 4] rfl)
def f_X4_init_60 : Nat → Nat → Int32 → Int32 → Int32 → Wd → Option (Unit × Wd)
  | 0, _, _, _, _, _ => none
  | n + 1, o, x1, x3, x4, w => if 8 ≤ x4 then (some ((), w)) else (nwO w 1 (fun w47 => bnd (f_X0_init (wn w) w47) (fun v49 w50 => nz x3 (pI w50 (some (wn w)) 1 2 (x4 - x4 / x3 * x3) (fun w54 => gI w54 (some (wn w)) 1 2 (fun v59 => if v59 = x1 then ((f_X4_init_101 (f_X4_init_60 n)) o x1 x3 x4 (some (wn w)) (some (wn w)) 1 w54) else ((f_X4_init_101 (f_X4_init_60 n)) o x1 x3 x4 (some (wn w)) (some (wn w)) 0 w54)))))))
set_option maxHeartbeats 4000000 in
set_option maxRecDepth 100000 in
theorem b_X4_init_60 {l : Launch} {D : va_G} {aC : Nat → ClassId} {b0 : Nat} {p : Program} {e : Env} {s : State} {m : MethodId} {args : Array Value} {below : List Frame} {meth : Method} {c : Code} (X : Cx D aC p s m args meth c cX4_init RX4 6 "<init>" none) {res : (Unit × Wd)} : ∀ (n : Nat) (o : Nat) (x1 : Int32) (x3 : Int32) (x4 : Int32) (w : Wd), BW l D aC b0 p e rX4_init s m args below meth c (Qe D aC b0 below args s 148 1880 none res.2) res 148 1880 (n * 16 + 0) (n * 150 + 0) (f_X4_init_60 n o x1 x3 x4 w) w 60 6 [(0, va_rf (some o)), (1, .int x1), (3, .int x3), (4, .int x4)] [] := by
  intro n
  induction n with
  | zero =>
    intro o x1 x3 x4 w H locs cells slots ls hf
    rw [f_X4_init_60.eq_1] at hf
    cases hf
  | succ n ih =>
    intro o x1 x3 x4 w H locs cells slots ls hf M hS hc hs hl
    rw [f_X4_init_60.eq_2] at hf
    refine lv_iload X.1 X.2.1 dX4_init_60 (lv_at hl 3 rfl) ?_
    refine lv_bipush (v := 8) X.1 X.2.1 dX4_init_62 (by decide) ?_
    refine lv_icmp_ge (tgt := 164) X.1 X.2.1 dX4_init_64 (by decide) (fun c46 => ?_) (fun c46 => ?_)
    · rw [if_pos c46] at hf
      obtain rfl := Option.some.inj hf
      exact q_vret X M hS (by omega) (by omega) dX4_init_164
    · rw [if_neg c46] at hf
      have ho := nwO_e hf
      clear hf
      obtain ⟨w47, q48, hf⟩ := ho
      refine q_new X M hS clX4_20 (MC := 148) (MS := 1880) rfl rfl (by omega) (by omega) dX4_init_67 (fun H M hS => ?_)
      rw [q48] at M
      refine lv_dup X.1 X.2.1 dX4_init_70 rfl ?_
      have ho := bnd_e hf
      clear hf
      obtain ⟨v49, w50, q51, hf⟩ := ho
      refine q_cIN X M hS hl.1 (As := []) (m_X0_init (wn w) _ _ q51) mn_X0_init (X.2.2.2.2.2.2.2.2.2.1) gm_58 rfl rfl ⟨(Nat.le_of_ble_eq_true rfl), (Nat.le_of_ble_eq_true rfl)⟩ (rest := [va_rf (some (wn w))]) rfl (Nat.le_of_ble_eq_true rfl) (mc := 7) (ms := 64) (MC := 148) (MS := 1880) rfl rfl rfl rfl (by omega) (by omega) dX4_init_71 (fun H locs M hS => ?_)
      refine q_astore (i := 5) (lv' := [(5, va_rf (some (wn w))), (0, va_rf (some o)), (1, .int x1), (3, .int x3), (4, .int x4)]) X dX4_init_74 hl (by decide) rfl (fun ls hl => ?_)
      refine q_aload X dX4_init_76 (lv_at hl 0 rfl) ?_
      refine lv_iload X.1 X.2.1 dX4_init_78 (lv_at hl 4 rfl) ?_
      refine lv_iload_n X.1 X.2.1 dX4_init_80 rfl (lv_at hl 3 rfl) ?_
      have ho := nz_e hf
      clear hf
      obtain ⟨z52, hf⟩ := ho
      refine lv_irem X.1 X.2.1 dX4_init_81 z52 ?_
      have ho := pI_e hf
      clear hf
      obtain ⟨a53, w54, e55, k56, q57, hf⟩ := ho
      cases e55
      refine q_putI X M hS flX4_47 (Or.inl rfl) k56 dX4_init_82 (fun H locs M hS => ?_)
      rw [q57] at M
      refine q_aload X dX4_init_85 (lv_at hl 0 rfl) ?_
      refine q_aload X dX4_init_87 (lv_at hl 0 rfl) ?_
      have ho := gI_e hf
      clear hf
      obtain ⟨a58, v59, e60, k61, q62, hf⟩ := ho
      cases e60
      refine q_get X M flX4_47.g k61 (congrArg Value.int q62) dX4_init_89 ?_
      refine lv_iload_n X.1 X.2.1 dX4_init_92 rfl (lv_at hl 2 rfl) ?_
      refine lv_icmp_ne (tgt := 100) X.1 X.2.1 dX4_init_93 (by decide) (fun c63 => ?_) (fun c63 => ?_)
      · rw [if_neg c63] at hf
        refine lv_iconst (v := 0) X.1 X.2.1 dX4_init_100 (by decide) ?_
        exact (b_X4_init_101 (nn := n) X ih) o x1 x3 x4 (some (wn w)) (some (wn w)) 0 w54 _ _ _ _ _ hf M hS (by omega) (by omega) (lv_sub hl [1, 2, 3, 4, 0] rfl)
      · rw [if_pos c63] at hf
        refine lv_iconst (v := 1) X.1 X.2.1 dX4_init_96 (by decide) ?_
        refine lv_goto (tgt := 101) X.1 X.2.1 dX4_init_97 (by decide) ?_
        exact (b_X4_init_101 (nn := n) X ih) o x1 x3 x4 (some (wn w)) (some (wn w)) 1 w54 _ _ _ _ _ hf M hS (by omega) (by omega) (lv_sub hl [1, 2, 3, 4, 0] rfl)
def f_X4_init (o : Nat) (x1 : Int32) (x2 : Int32) (w : Wd) : Option (Unit × Wd) := nwO w 4 (fun w1 => bnd (f_X3_init (wn w) 512 w1) (fun v3 w4 => pR w4 (some o) 5 1 (some (wn w)) (fun w7 => nwA w7 103 8 8 (fun w11 => pR w11 (some o) 5 2 (some (wn w7)) (fun w16 => nwA w16 103 8 8 (fun w20 => pR w20 (some o) 5 3 (some (wn w16)) (fun w25 => pZ w25 (some o) 5 4 1 (fun w30 => pZ w30 (some o) 5 5 1 (fun w36 => pI w36 (some o) 5 0 x1 (fun w42 => (f_X4_init_60 9) o x1 (mx 1 x2) 0 w42))))))))))
set_option maxHeartbeats 4000000 in
set_option maxRecDepth 100000 in
theorem e_X4_init {l : Launch} {D : va_G} {aC : Nat → ClassId} {b0 : Nat} {p : Program} {e : Env} {s : State} {m : MethodId} {args : Array Value} {below : List Frame} {meth : Method} {c : Code} (X : Cx D aC p s m args meth c cX4_init RX4 6 "<init>" none) {res : (Unit × Wd)} (o : Nat) (x1 : Int32) (x2 : Int32) (w : Wd) : BW l D aC b0 p e rX4_init s m args below meth c (Qe D aC b0 below args s 148 1880 none res.2) res 148 1880 148 1880 (f_X4_init o x1 x2 w) w 0 6 [(0, va_rf (some o)), (1, .int x1), (2, .int x2)] [] := by
  intro H locs cells slots ls hf M hS hc hs hl
  unfold f_X4_init at hf
  refine q_aload_n X dX4_init_0 rfl (lv_at hl 0 rfl) ?_
  refine q_obj X hl.1 gm_33 (Nat.le_of_ble_eq_true rfl) (Nat.le_of_ble_eq_true rfl) dX4_init_1 ?_
  refine q_aload_n X dX4_init_4 rfl (lv_at hl 0 rfl) ?_
  have ho := nwO_e hf
  clear hf
  obtain ⟨w1, q2, hf⟩ := ho
  refine q_new X M hS clX4_9 (MC := 148) (MS := 1880) rfl rfl (by omega) (by omega) dX4_init_5 (fun H M hS => ?_)
  rw [q2] at M
  refine lv_dup X.1 X.2.1 dX4_init_8 rfl ?_
  refine lv_sipush (v := 512) X.1 X.2.1 dX4_init_9 (by decide) ?_
  have ho := bnd_e hf
  clear hf
  obtain ⟨v3, w4, q5, hf⟩ := ho
  refine q_cI X M hS hl.1 (As := [.int 512]) (m_X3_init (wn w) 512 _ _ q5) mlX4_11 gm_52 rfl rfl ⟨(Nat.le_of_ble_eq_true rfl), (Nat.le_of_ble_eq_true rfl)⟩ (rest := [va_rf (some (wn w)), va_rf (some o)]) rfl (Nat.le_of_ble_eq_true rfl) (mc := 1) (ms := 512) (MC := 148) (MS := 1880) rfl rfl rfl rfl (by omega) (by omega) dX4_init_12 (fun H locs M hS => ?_)
  have ho := pR_e hf
  clear hf
  obtain ⟨a6, w7, e8, k9, q10, hf⟩ := ho
  cases e8
  refine q_putR X M hS flX4_14 (Or.inr rfl) k9 dX4_init_15 (fun H locs M hS => ?_)
  rw [q10] at M
  refine q_aload_n X dX4_init_18 rfl (lv_at hl 0 rfl) ?_
  refine lv_bipush (v := 8) X.1 X.2.1 dX4_init_19 (by decide) ?_
  have ho := nwA_e hf
  clear hf
  obtain ⟨w11, z12, z13, q14, hf⟩ := ho
  refine q_newq X M hS (t := 3) (Or.inl ⟨rfl, rfl, rfl⟩)  gm_36 z12 (bd := 8) z13 (by decide) (MC := 148) (MS := 1880) rfl rfl (by omega) (by omega) dX4_init_21 (fun H M hS => ?_)
  rw [q14] at M
  have ho := pR_e hf
  clear hf
  obtain ⟨a15, w16, e17, k18, q19, hf⟩ := ho
  cases e17
  refine q_putR X M hS flX4_22 (Or.inr rfl) k18 dX4_init_24 (fun H locs M hS => ?_)
  rw [q19] at M
  refine q_aload_n X dX4_init_27 rfl (lv_at hl 0 rfl) ?_
  refine lv_bipush (v := 8) X.1 X.2.1 dX4_init_28 (by decide) ?_
  have ho := nwA_e hf
  clear hf
  obtain ⟨w20, z21, z22, q23, hf⟩ := ho
  refine q_newq X M hS (t := 3) (Or.inl ⟨rfl, rfl, rfl⟩)  gm_36 z21 (bd := 8) z22 (by decide) (MC := 148) (MS := 1880) rfl rfl (by omega) (by omega) dX4_init_30 (fun H M hS => ?_)
  rw [q23] at M
  have ho := pR_e hf
  clear hf
  obtain ⟨a24, w25, e26, k27, q28, hf⟩ := ho
  cases e26
  refine q_putR X M hS flX4_26 (Or.inr rfl) k27 dX4_init_33 (fun H locs M hS => ?_)
  rw [q28] at M
  refine q_aload_n X dX4_init_36 rfl (lv_at hl 0 rfl) ?_
  refine lv_iconst (v := 1) X.1 X.2.1 dX4_init_37 (by decide) ?_
  have ho := pZ_e hf
  clear hf
  obtain ⟨a29, w30, e31, k32, z34, q33, hf⟩ := ho
  cases e31
  refine q_putZ X M hS flX4_29 (Or.inl rfl) k32 z34 dX4_init_38 (fun H locs M hS => ?_)
  rw [q33] at M
  refine q_aload_n X dX4_init_41 rfl (lv_at hl 0 rfl) ?_
  refine lv_iconst (v := 1) X.1 X.2.1 dX4_init_42 (by decide) ?_
  have ho := pZ_e hf
  clear hf
  obtain ⟨a35, w36, e37, k38, z40, q39, hf⟩ := ho
  cases e37
  refine q_putZ X M hS flX4_33 (Or.inl rfl) k38 z40 dX4_init_43 (fun H locs M hS => ?_)
  rw [q39] at M
  refine q_aload_n X dX4_init_46 rfl (lv_at hl 0 rfl) ?_
  refine lv_iload_n X.1 X.2.1 dX4_init_47 rfl (lv_at hl 1 rfl) ?_
  have ho := pI_e hf
  clear hf
  obtain ⟨a41, w42, e43, k44, q45, hf⟩ := ho
  cases e43
  refine q_putI X M hS flX4_36 (Or.inr rfl) k44 dX4_init_48 (fun H locs M hS => ?_)
  rw [q45] at M
  refine lv_iconst (v := 1) X.1 X.2.1 dX4_init_51 (by decide) ?_
  refine lv_iload_n X.1 X.2.1 dX4_init_52 rfl (lv_at hl 2 rfl) ?_
  refine q_max X hl.1 gm_42 gm_43 gm_44 gm_45 (Nat.le_of_ble_eq_true rfl) (Nat.le_of_ble_eq_true rfl) (MC := 148) (MS := 1880) rfl rfl (by omega) (by omega) dX4_init_53 ?_
  change W _ _ _ _ _ _ _ _ _ _ _ _ _ _ _ (F0 m 56 ls ([.int (mx 1 x2)]))
  refine lv_istore_n (i := 3) (lv' := [(3, .int (mx 1 x2)), (0, va_rf (some o)), (1, .int x1), (2, .int x2)]) X.1 X.2.1 dX4_init_56 rfl hl (by decide) rfl (fun ls hl => ?_)
  refine lv_iconst (v := 0) X.1 X.2.1 dX4_init_57 (by decide) ?_
  refine lv_istore (i := 4) (lv' := [(4, .int 0), (3, .int (mx 1 x2)), (0, va_rf (some o)), (1, .int x1), (2, .int x2)]) X.1 X.2.1 dX4_init_58 hl (by decide) rfl (fun ls hl => ?_)
  exact (b_X4_init_60 X 9) o x1 (mx 1 x2) 0 w42 _ _ _ _ _ hf M hS (by omega) (by omega) (lv_sub hl [2, 3, 1, 0] rfl)
theorem m_X4_init {l : Launch} {D : va_G} {aC : Nat → ClassId} {b0 : Nat} {w : Wd} (o : Nat) (x1 : Int32) (x2 : Int32) (v : Unit) (w' : Wd) (hf : f_X4_init o x1 x2 w = some (v, w')) : Ct l D aC b0 yX4_init (Cond.code yX4_init cX4_init 6 none :: Gw) rX4_init [va_rf (some o), .int x1, .int x2] w none w' :=
  q_met (by decide) (Nat.le_of_ble_eq_true rfl) (fun p e s m below meth c X M ls hl => e_X4_init X (res := (v, w')) o x1 x2 w s.heap [] 0 0 ls hf M va_S.rf (by decide) (by decide) hl)
abbrev rX1_init : Room := { frames := 1, cells := 7, slots := 374, locals := 21 }
def f_X1_init_74 : Nat → Nat → Int32 → Int32 → Wd → Option (Unit × Wd)
  | 0, _, _, _, _ => none
  | n + 1, o, x3, x4, w => if 8 ≤ x4 then (some ((), w)) else (gR w (some o) 2 4 (fun v71 => nz x3 (tI w v71 100 x4 (x4 - x4 / x3 * x3) (fun w77 => (f_X1_init_74 n) o x3 (x4 + 1) w77))))
set_option maxHeartbeats 4000000 in
set_option maxRecDepth 100000 in
theorem b_X1_init_74 {l : Launch} {D : va_G} {aC : Nat → ClassId} {b0 : Nat} {p : Program} {e : Env} {s : State} {m : MethodId} {args : Array Value} {below : List Frame} {meth : Method} {c : Code} (X : Cx D aC p s m args meth c cX1_init RX1 5 "<init>" none) {res : (Unit × Wd)} : ∀ (n : Nat) (o : Nat) (x3 : Int32) (x4 : Int32) (w : Wd), BW l D aC b0 p e rX1_init s m args below meth c (Qe D aC b0 below args s 7 374 none res.2) res 7 374 0 0 (f_X1_init_74 n o x3 x4 w) w 74 5 [(0, va_rf (some o)), (3, .int x3), (4, .int x4)] [] := by
  intro n
  induction n with
  | zero =>
    intro o x3 x4 w H locs cells slots ls hf
    rw [f_X1_init_74.eq_1] at hf
    cases hf
  | succ n ih =>
    intro o x3 x4 w H locs cells slots ls hf M hS hc hs hl
    rw [f_X1_init_74.eq_2] at hf
    refine lv_iload X.1 X.2.1 dX1_init_74 (lv_at hl 2 rfl) ?_
    refine lv_bipush (v := 8) X.1 X.2.1 dX1_init_76 (by decide) ?_
    refine lv_icmp_ge (tgt := 98) X.1 X.2.1 dX1_init_78 (by decide) (fun c69 => ?_) (fun c69 => ?_)
    · rw [if_pos c69] at hf
      obtain rfl := Option.some.inj hf
      exact q_vret X M hS (by omega) (by omega) dX1_init_98
    · rw [if_neg c69] at hf
      refine q_aload_n X dX1_init_81 rfl (lv_at hl 0 rfl) ?_
      have ho := gR_e hf
      clear hf
      obtain ⟨a70, v71, e72, k73, q74, hf⟩ := ho
      cases e72
      refine q_get X M flX1_9.g k73 (congrArg va_rf q74) dX1_init_82 ?_
      refine lv_iload X.1 X.2.1 dX1_init_85 (lv_at hl 2 rfl) ?_
      refine lv_iload X.1 X.2.1 dX1_init_87 (lv_at hl 2 rfl) ?_
      refine lv_iload_n X.1 X.2.1 dX1_init_89 rfl (lv_at hl 1 rfl) ?_
      have ho := nz_e hf
      clear hf
      obtain ⟨z75, hf⟩ := ho
      refine lv_irem X.1 X.2.1 dX1_init_90 z75 ?_
      have ho := tI_e hf
      clear hf
      obtain ⟨a76, w77, e78, k79, i80, q81, hf⟩ := ho
      cases e78
      refine q_iast X M hS k79 i80 dX1_init_91 (fun H locs M hS => ?_)
      rw [q81] at M
      refine lv_iinc (v := (x4 + 1)) (lv' := [(4, .int (x4 + 1)), (0, va_rf (some o)), (3, .int x3)]) X.1 X.2.1 dX1_init_92 hl (k := 2) rfl rfl (by decide) rfl (fun ls hl => ?_)
      refine lv_goto (tgt := 74) X.1 X.2.1 dX1_init_95 (by decide) ?_
      exact ih o x3 (x4 + 1) w77 _ _ _ _ _ hf M hS (by omega) (by omega) (lv_sub hl [1, 2, 0] rfl)
def f_X1_init (o : Nat) (x1 : Int32) (x2 : Int32) (w : Wd) : Option (Unit × Wd) := nwA w 100 8 8 (fun w1 => pR w1 (some o) 2 4 (some (wn w)) (fun w6 => nwA w6 100 61 61 (fun w10 => pR w10 (some o) 2 5 (some (wn w6)) (fun w15 => nwA w15 100 61 61 (fun w19 => pR w19 (some o) 2 6 (some (wn w15)) (fun w24 => nwA w24 101 61 61 (fun w28 => pR w28 (some o) 2 7 (some (wn w24)) (fun w33 => nwA w33 101 61 61 (fun w37 => pR w37 (some o) 2 8 (some (wn w33)) (fun w42 => nwA w42 100 61 61 (fun w46 => pR w46 (some o) 2 9 (some (wn w42)) (fun w51 => nwA w51 101 61 61 (fun w55 => pR w55 (some o) 2 10 (some (wn w51)) (fun w60 => pI w60 (some o) 2 0 x1 (fun w65 => (f_X1_init_74 FU) o (mx 1 x2) 0 w65)))))))))))))))
set_option maxHeartbeats 4000000 in
set_option maxRecDepth 100000 in
theorem e_X1_init {l : Launch} {D : va_G} {aC : Nat → ClassId} {b0 : Nat} {p : Program} {e : Env} {s : State} {m : MethodId} {args : Array Value} {below : List Frame} {meth : Method} {c : Code} (X : Cx D aC p s m args meth c cX1_init RX1 5 "<init>" none) {res : (Unit × Wd)} (o : Nat) (x1 : Int32) (x2 : Int32) (w : Wd) : BW l D aC b0 p e rX1_init s m args below meth c (Qe D aC b0 below args s 7 374 none res.2) res 7 374 7 374 (f_X1_init o x1 x2 w) w 0 5 [(0, va_rf (some o)), (1, .int x1), (2, .int x2)] [] := by
  intro H locs cells slots ls hf M hS hc hs hl
  unfold f_X1_init at hf
  refine q_aload_n X dX1_init_0 rfl (lv_at hl 0 rfl) ?_
  refine q_obj X hl.1 gm_85 (Nat.le_of_ble_eq_true rfl) (Nat.le_of_ble_eq_true rfl) dX1_init_1 ?_
  refine q_aload_n X dX1_init_4 rfl (lv_at hl 0 rfl) ?_
  refine lv_bipush (v := 8) X.1 X.2.1 dX1_init_5 (by decide) ?_
  have ho := nwA_e hf
  clear hf
  obtain ⟨w1, z2, z3, q4, hf⟩ := ho
  refine q_newa X M hS (t := 0) (Or.inl ⟨rfl, rfl⟩) gm_63 z2 (bd := 8) z3 (by decide) (MC := 7) (MS := 374) rfl rfl (by omega) (by omega) dX1_init_7 (fun H M hS => ?_)
  rw [q4] at M
  have ho := pR_e hf
  clear hf
  obtain ⟨a5, w6, e7, k8, q9, hf⟩ := ho
  cases e7
  refine q_putR X M hS flX1_9 (Or.inr rfl) k8 dX1_init_9 (fun H locs M hS => ?_)
  rw [q9] at M
  refine q_aload_n X dX1_init_12 rfl (lv_at hl 0 rfl) ?_
  refine lv_bipush (v := 61) X.1 X.2.1 dX1_init_13 (by decide) ?_
  have ho := nwA_e hf
  clear hf
  obtain ⟨w10, z11, z12, q13, hf⟩ := ho
  refine q_newa X M hS (t := 0) (Or.inl ⟨rfl, rfl⟩) gm_63 z11 (bd := 61) z12 (by decide) (MC := 7) (MS := 374) rfl rfl (by omega) (by omega) dX1_init_15 (fun H M hS => ?_)
  rw [q13] at M
  have ho := pR_e hf
  clear hf
  obtain ⟨a14, w15, e16, k17, q18, hf⟩ := ho
  cases e16
  refine q_putR X M hS flX1_15 (Or.inr rfl) k17 dX1_init_17 (fun H locs M hS => ?_)
  rw [q18] at M
  refine q_aload_n X dX1_init_20 rfl (lv_at hl 0 rfl) ?_
  refine lv_bipush (v := 61) X.1 X.2.1 dX1_init_21 (by decide) ?_
  have ho := nwA_e hf
  clear hf
  obtain ⟨w19, z20, z21, q22, hf⟩ := ho
  refine q_newa X M hS (t := 0) (Or.inl ⟨rfl, rfl⟩) gm_63 z20 (bd := 61) z21 (by decide) (MC := 7) (MS := 374) rfl rfl (by omega) (by omega) dX1_init_23 (fun H M hS => ?_)
  rw [q22] at M
  have ho := pR_e hf
  clear hf
  obtain ⟨a23, w24, e25, k26, q27, hf⟩ := ho
  cases e25
  refine q_putR X M hS flX1_18 (Or.inr rfl) k26 dX1_init_25 (fun H locs M hS => ?_)
  rw [q27] at M
  refine q_aload_n X dX1_init_28 rfl (lv_at hl 0 rfl) ?_
  refine lv_bipush (v := 61) X.1 X.2.1 dX1_init_29 (by decide) ?_
  have ho := nwA_e hf
  clear hf
  obtain ⟨w28, z29, z30, q31, hf⟩ := ho
  refine q_newa X M hS (t := 1) (Or.inr (Or.inl ⟨rfl, rfl⟩)) gm_61 z29 (bd := 61) z30 (by decide) (MC := 7) (MS := 374) rfl rfl (by omega) (by omega) dX1_init_31 (fun H M hS => ?_)
  rw [q31] at M
  have ho := pR_e hf
  clear hf
  obtain ⟨a32, w33, e34, k35, q36, hf⟩ := ho
  cases e34
  refine q_putR X M hS flX1_21 (Or.inr rfl) k35 dX1_init_33 (fun H locs M hS => ?_)
  rw [q36] at M
  refine q_aload_n X dX1_init_36 rfl (lv_at hl 0 rfl) ?_
  refine lv_bipush (v := 61) X.1 X.2.1 dX1_init_37 (by decide) ?_
  have ho := nwA_e hf
  clear hf
  obtain ⟨w37, z38, z39, q40, hf⟩ := ho
  refine q_newa X M hS (t := 1) (Or.inr (Or.inl ⟨rfl, rfl⟩)) gm_61 z38 (bd := 61) z39 (by decide) (MC := 7) (MS := 374) rfl rfl (by omega) (by omega) dX1_init_39 (fun H M hS => ?_)
  rw [q40] at M
  have ho := pR_e hf
  clear hf
  obtain ⟨a41, w42, e43, k44, q45, hf⟩ := ho
  cases e43
  refine q_putR X M hS flX1_25 (Or.inr rfl) k44 dX1_init_41 (fun H locs M hS => ?_)
  rw [q45] at M
  refine q_aload_n X dX1_init_44 rfl (lv_at hl 0 rfl) ?_
  refine lv_bipush (v := 61) X.1 X.2.1 dX1_init_45 (by decide) ?_
  have ho := nwA_e hf
  clear hf
  obtain ⟨w46, z47, z48, q49, hf⟩ := ho
  refine q_newa X M hS (t := 0) (Or.inl ⟨rfl, rfl⟩) gm_63 z47 (bd := 61) z48 (by decide) (MC := 7) (MS := 374) rfl rfl (by omega) (by omega) dX1_init_47 (fun H M hS => ?_)
  rw [q49] at M
  have ho := pR_e hf
  clear hf
  obtain ⟨a50, w51, e52, k53, q54, hf⟩ := ho
  cases e52
  refine q_putR X M hS flX1_28 (Or.inr rfl) k53 dX1_init_49 (fun H locs M hS => ?_)
  rw [q54] at M
  refine q_aload_n X dX1_init_52 rfl (lv_at hl 0 rfl) ?_
  refine lv_bipush (v := 61) X.1 X.2.1 dX1_init_53 (by decide) ?_
  have ho := nwA_e hf
  clear hf
  obtain ⟨w55, z56, z57, q58, hf⟩ := ho
  refine q_newa X M hS (t := 1) (Or.inr (Or.inl ⟨rfl, rfl⟩)) gm_61 z56 (bd := 61) z57 (by decide) (MC := 7) (MS := 374) rfl rfl (by omega) (by omega) dX1_init_55 (fun H M hS => ?_)
  rw [q58] at M
  have ho := pR_e hf
  clear hf
  obtain ⟨a59, w60, e61, k62, q63, hf⟩ := ho
  cases e61
  refine q_putR X M hS flX1_31 (Or.inr rfl) k62 dX1_init_57 (fun H locs M hS => ?_)
  rw [q63] at M
  refine q_aload_n X dX1_init_60 rfl (lv_at hl 0 rfl) ?_
  refine lv_iload_n X.1 X.2.1 dX1_init_61 rfl (lv_at hl 1 rfl) ?_
  have ho := pI_e hf
  clear hf
  obtain ⟨a64, w65, e66, k67, q68, hf⟩ := ho
  cases e66
  refine q_putI X M hS flX1_34 (Or.inr rfl) k67 dX1_init_62 (fun H locs M hS => ?_)
  rw [q68] at M
  refine lv_iconst (v := 1) X.1 X.2.1 dX1_init_65 (by decide) ?_
  refine lv_iload_n X.1 X.2.1 dX1_init_66 rfl (lv_at hl 2 rfl) ?_
  refine q_max X hl.1 gm_94 gm_43 gm_44 gm_45 (Nat.le_of_ble_eq_true rfl) (Nat.le_of_ble_eq_true rfl) (MC := 7) (MS := 374) rfl rfl (by omega) (by omega) dX1_init_67 ?_
  change W _ _ _ _ _ _ _ _ _ _ _ _ _ _ _ (F0 m 70 ls ([.int (mx 1 x2)]))
  refine lv_istore_n (i := 3) (lv' := [(3, .int (mx 1 x2)), (0, va_rf (some o)), (1, .int x1), (2, .int x2)]) X.1 X.2.1 dX1_init_70 rfl hl (by decide) rfl (fun ls hl => ?_)
  refine lv_iconst (v := 0) X.1 X.2.1 dX1_init_71 (by decide) ?_
  refine lv_istore (i := 4) (lv' := [(4, .int 0), (3, .int (mx 1 x2)), (0, va_rf (some o)), (1, .int x1), (2, .int x2)]) X.1 X.2.1 dX1_init_72 hl (by decide) rfl (fun ls hl => ?_)
  exact (b_X1_init_74 X FU) o (mx 1 x2) 0 w65 _ _ _ _ _ hf M hS (by omega) (by omega) (lv_sub hl [2, 1, 0] rfl)
theorem m_X1_init {l : Launch} {D : va_G} {aC : Nat → ClassId} {b0 : Nat} {w : Wd} (o : Nat) (x1 : Int32) (x2 : Int32) (v : Unit) (w' : Wd) (hf : f_X1_init o x1 x2 w = some (v, w')) : Ct l D aC b0 yX1_init (Cond.code yX1_init cX1_init 5 none :: Gw) rX1_init [va_rf (some o), .int x1, .int x2] w none w' :=
  q_met (by decide) (Nat.le_of_ble_eq_true rfl) (fun p e s m below meth c X M ls hl => e_X1_init X (res := (v, w')) o x1 x2 w s.heap [] 0 0 ls hf M va_S.rf (by decide) (by decide) hl)
abbrev rX1_waiting : Room := { frames := 0, cells := 0, slots := 0, locals := 0 }
def f_X1_waiting_24 (K4 : Nat → Int32 → Int32 → Wd → Option (Int32 × Wd)) (o : Nat) (x1 : Int32) (x2 : Int32) (w : Wd) : Option (Int32 × Wd) := K4 o x1 (x2 + 1) w
set_option maxHeartbeats 4000000 in
set_option maxRecDepth 100000 in
theorem b_X1_waiting_24 {l : Launch} {D : va_G} {aC : Nat → ClassId} {b0 : Nat} {p : Program} {e : Env} {s : State} {m : MethodId} {args : Array Value} {below : List Frame} {meth : Method} {c : Code} (X : Cx D aC p s m args meth c cX1_waiting RX1 3 "waiting" (some .int)) {res : (Int32 × Wd)} {K4 : Nat → Int32 → Int32 → Wd → Option (Int32 × Wd)} (hK4 : ∀ (o : Nat) (x1 : Int32) (x2 : Int32) (w : Wd), BW l D aC b0 p e rX1_waiting s m args below meth c (Qe D aC b0 below args s 0 0 (some (.int res.1)) res.2) res 0 0 0 0 (K4 o x1 x2 w) w 4 3 [(0, va_rf (some o)), (1, .int x1), (2, .int x2)] []) : ∀ (o : Nat) (x1 : Int32) (x2 : Int32) (w : Wd), BW l D aC b0 p e rX1_waiting s m args below meth c (Qe D aC b0 below args s 0 0 (some (.int res.1)) res.2) res 0 0 0 0 (f_X1_waiting_24 K4 o x1 x2 w) w 24 3 [(0, va_rf (some o)), (1, .int x1), (2, .int x2)] [] := by
  intro o x1 x2 w H locs cells slots ls hf M hS hc hs hl
  unfold f_X1_waiting_24 at hf
  refine lv_iinc (v := (x2 + 1)) (lv' := [(2, .int (x2 + 1)), (0, va_rf (some o)), (1, .int x1)]) X.1 X.2.1 dX1_waiting_24 hl (k := 2) rfl rfl (by decide) rfl (fun ls hl => ?_)
  refine lv_goto (tgt := 4) X.1 X.2.1 dX1_waiting_27 (by decide) ?_
  exact hK4 o x1 (x2 + 1) w _ _ _ _ _ hf M hS (by omega) (by omega) (lv_sub hl [1, 2, 0] rfl)
def f_X1_waiting_4 : Nat → Nat → Int32 → Int32 → Wd → Option (Int32 × Wd)
  | 0, _, _, _, _ => none
  | n + 1, o, x1, x2, w => gI w (some o) 2 3 (fun v2 => if v2 < x2 then (some (x1, w)) else (gR w (some o) 2 9 (fun v8 => aI w v8 100 x2 (fun v13 => if v13 = 0 then ((f_X1_waiting_24 (f_X1_waiting_4 n)) o (x1 + 1) x2 w) else ((f_X1_waiting_24 (f_X1_waiting_4 n)) o x1 x2 w)))))
set_option maxHeartbeats 4000000 in
set_option maxRecDepth 100000 in
theorem b_X1_waiting_4 {l : Launch} {D : va_G} {aC : Nat → ClassId} {b0 : Nat} {p : Program} {e : Env} {s : State} {m : MethodId} {args : Array Value} {below : List Frame} {meth : Method} {c : Code} (X : Cx D aC p s m args meth c cX1_waiting RX1 3 "waiting" (some .int)) {res : (Int32 × Wd)} : ∀ (n : Nat) (o : Nat) (x1 : Int32) (x2 : Int32) (w : Wd), BW l D aC b0 p e rX1_waiting s m args below meth c (Qe D aC b0 below args s 0 0 (some (.int res.1)) res.2) res 0 0 0 0 (f_X1_waiting_4 n o x1 x2 w) w 4 3 [(0, va_rf (some o)), (1, .int x1), (2, .int x2)] [] := by
  intro n
  induction n with
  | zero =>
    intro o x1 x2 w H locs cells slots ls hf
    rw [f_X1_waiting_4.eq_1] at hf
    cases hf
  | succ n ih =>
    intro o x1 x2 w H locs cells slots ls hf M hS hc hs hl
    rw [f_X1_waiting_4.eq_2] at hf
    refine lv_iload_n X.1 X.2.1 dX1_waiting_4 rfl (lv_at hl 2 rfl) ?_
    refine q_aload_n X dX1_waiting_5 rfl (lv_at hl 0 rfl) ?_
    have ho := gI_e hf
    clear hf
    obtain ⟨a1, v2, e3, k4, q5, hf⟩ := ho
    cases e3
    refine q_get X M flX1_44.g k4 (congrArg Value.int q5) dX1_waiting_6 ?_
    refine lv_icmp_gt (tgt := 30) X.1 X.2.1 dX1_waiting_9 (by decide) (fun c6 => ?_) (fun c6 => ?_)
    · rw [if_pos c6] at hf
      refine lv_iload_n X.1 X.2.1 dX1_waiting_30 rfl (lv_at hl 1 rfl) ?_
      obtain rfl := Option.some.inj hf
      exact q_iret X M hS (by omega) (by omega) dX1_waiting_31
    · rw [if_neg c6] at hf
      refine q_aload_n X dX1_waiting_12 rfl (lv_at hl 0 rfl) ?_
      have ho := gR_e hf
      clear hf
      obtain ⟨a7, v8, e9, k10, q11, hf⟩ := ho
      cases e9
      refine q_get X M flX1_28.g k10 (congrArg va_rf q11) dX1_waiting_13 ?_
      refine lv_iload_n X.1 X.2.1 dX1_waiting_16 rfl (lv_at hl 2 rfl) ?_
      have ho := aI_e hf
      clear hf
      obtain ⟨a12, v13, e14, k15, i16, q17, hf⟩ := ho
      cases e14
      refine q_iald X M k15 i16 dX1_waiting_17 ?_
      rw [q17]
      refine lv_if_ne (tgt := 24) X.1 X.2.1 dX1_waiting_18 (by decide) (fun c18 => ?_) (fun c18 => ?_)
      · rw [if_neg c18] at hf
        exact (b_X1_waiting_24 X ih) o x1 x2 w _ _ _ _ _ hf M hS (by omega) (by omega) (lv_sub hl [0, 1, 2] rfl)
      · rw [if_pos c18] at hf
        refine lv_iinc (v := (x1 + 1)) (lv' := [(1, .int (x1 + 1)), (0, va_rf (some o)), (2, .int x2)]) X.1 X.2.1 dX1_waiting_21 hl (k := 1) rfl rfl (by decide) rfl (fun ls hl => ?_)
        exact (b_X1_waiting_24 X ih) o (x1 + 1) x2 w _ _ _ _ _ hf M hS (by omega) (by omega) (lv_sub hl [1, 0, 2] rfl)
def f_X1_waiting (o : Nat) (w : Wd) : Option (Int32 × Wd) := (f_X1_waiting_4 FU) o 0 1 w
set_option maxHeartbeats 4000000 in
set_option maxRecDepth 100000 in
theorem e_X1_waiting {l : Launch} {D : va_G} {aC : Nat → ClassId} {b0 : Nat} {p : Program} {e : Env} {s : State} {m : MethodId} {args : Array Value} {below : List Frame} {meth : Method} {c : Code} (X : Cx D aC p s m args meth c cX1_waiting RX1 3 "waiting" (some .int)) {res : (Int32 × Wd)} (o : Nat) (w : Wd) : BW l D aC b0 p e rX1_waiting s m args below meth c (Qe D aC b0 below args s 0 0 (some (.int res.1)) res.2) res 0 0 0 0 (f_X1_waiting o w) w 0 3 [(0, va_rf (some o))] [] := by
  intro H locs cells slots ls hf M hS hc hs hl
  unfold f_X1_waiting at hf
  refine lv_iconst (v := 0) X.1 X.2.1 dX1_waiting_0 (by decide) ?_
  refine lv_istore_n (i := 1) (lv' := [(1, .int 0), (0, va_rf (some o))]) X.1 X.2.1 dX1_waiting_1 rfl hl (by decide) rfl (fun ls hl => ?_)
  refine lv_iconst (v := 1) X.1 X.2.1 dX1_waiting_2 (by decide) ?_
  refine lv_istore_n (i := 2) (lv' := [(2, .int 1), (1, .int 0), (0, va_rf (some o))]) X.1 X.2.1 dX1_waiting_3 rfl hl (by decide) rfl (fun ls hl => ?_)
  exact (b_X1_waiting_4 X FU) o 0 1 w _ _ _ _ _ hf M hS (by omega) (by omega) (lv_sub hl [2, 1, 0] rfl)
theorem m_X1_waiting {l : Launch} {D : va_G} {aC : Nat → ClassId} {b0 : Nat} {w : Wd} (o : Nat) (v : Int32) (w' : Wd) (hf : f_X1_waiting o w = some (v, w')) : Ct l D aC b0 yX1_waiting (Cond.code yX1_waiting cX1_waiting 3 (some .int) :: Gw) rX1_waiting [va_rf (some o)] w (some (.int v)) w' :=
  q_met (by decide) (Nat.le_of_ble_eq_true rfl) (fun p e s m below meth c X M ls hl => e_X1_waiting X (res := (v, w')) o w s.heap [] 0 0 ls hf M va_S.rf (by decide) (by decide) hl)
abbrev rX1_newCall : Room := { frames := 0, cells := 0, slots := 0, locals := 0 }
def f_X1_newCall (o : Nat) (x1 : Int32) (x2 : Int32) (x3 : Int64) (x5 : Int64) (w : Wd) : Option (Int32 × Wd) := gI w (some o) 2 3 (fun v2 => if v2 < 60 then (gI w (some o) 2 3 (fun v8 => pI w (some o) 2 3 (v8 + 1) (fun w13 => gR w13 (some o) 2 5 (fun v18 => gI w13 (some o) 2 3 (fun v23 => tI w13 v18 100 v23 x1 (fun w28 => gR w28 (some o) 2 6 (fun v34 => gI w28 (some o) 2 3 (fun v39 => tI w28 v34 100 v39 x2 (fun w44 => gR w44 (some o) 2 7 (fun v50 => gI w44 (some o) 2 3 (fun v55 => tL w44 v50 101 v55 x3 (fun w60 => gR w60 (some o) 2 8 (fun v66 => gI w60 (some o) 2 3 (fun v71 => tL w60 v66 101 v71 x5 (fun w76 => gR w76 (some o) 2 9 (fun v82 => gI w76 (some o) 2 3 (fun v87 => tI w76 v82 100 v87 0 (fun w92 => gR w92 (some o) 2 10 (fun v98 => gI w92 (some o) 2 3 (fun v103 => tL w92 v98 101 v103 0 (fun w108 => gI w108 (some o) 2 3 (fun v114 => some (v114, w108))))))))))))))))))))))) else (some ((-2), w)))
set_option maxHeartbeats 4000000 in
set_option maxRecDepth 100000 in
theorem e_X1_newCall {l : Launch} {D : va_G} {aC : Nat → ClassId} {b0 : Nat} {p : Program} {e : Env} {s : State} {m : MethodId} {args : Array Value} {below : List Frame} {meth : Method} {c : Code} (X : Cx D aC p s m args meth c cX1_newCall RX1 7 "newCall" (some .int)) {res : (Int32 × Wd)} (o : Nat) (x1 : Int32) (x2 : Int32) (x3 : Int64) (x5 : Int64) (w : Wd) : BW l D aC b0 p e rX1_newCall s m args below meth c (Qe D aC b0 below args s 0 0 (some (.int res.1)) res.2) res 0 0 0 0 (f_X1_newCall o x1 x2 x3 x5 w) w 0 7 [(0, va_rf (some o)), (1, .int x1), (2, .int x2), (3, .long x3), (5, .long x5)] [] := by
  intro H locs cells slots ls hf M hS hc hs hl
  unfold f_X1_newCall at hf
  refine q_aload_n X dX1_newCall_0 rfl (lv_at hl 0 rfl) ?_
  have ho := gI_e hf
  clear hf
  obtain ⟨a1, v2, e3, k4, q5, hf⟩ := ho
  cases e3
  refine q_get X M flX1_44.g k4 (congrArg Value.int q5) dX1_newCall_1 ?_
  refine lv_bipush (v := 60) X.1 X.2.1 dX1_newCall_4 (by decide) ?_
  refine lv_icmp_lt (tgt := 12) X.1 X.2.1 dX1_newCall_6 (by decide) (fun c6 => ?_) (fun c6 => ?_)
  · rw [if_pos c6] at hf
    refine q_aload_n X dX1_newCall_12 rfl (lv_at hl 0 rfl) ?_
    refine lv_dup X.1 X.2.1 dX1_newCall_13 rfl ?_
    have ho := gI_e hf
    clear hf
    obtain ⟨a7, v8, e9, k10, q11, hf⟩ := ho
    cases e9
    refine q_get X M flX1_44.g k10 (congrArg Value.int q11) dX1_newCall_14 ?_
    refine lv_iconst (v := 1) X.1 X.2.1 dX1_newCall_17 (by decide) ?_
    refine lv_iadd X.1 X.2.1 dX1_newCall_18 ?_
    have ho := pI_e hf
    clear hf
    obtain ⟨a12, w13, e14, k15, q16, hf⟩ := ho
    cases e14
    refine q_putI X M hS flX1_44 (Or.inl rfl) k15 dX1_newCall_19 (fun H locs M hS => ?_)
    rw [q16] at M
    refine q_aload_n X dX1_newCall_22 rfl (lv_at hl 0 rfl) ?_
    have ho := gR_e hf
    clear hf
    obtain ⟨a17, v18, e19, k20, q21, hf⟩ := ho
    cases e19
    refine q_get X M flX1_15.g k20 (congrArg va_rf q21) dX1_newCall_23 ?_
    refine q_aload_n X dX1_newCall_26 rfl (lv_at hl 0 rfl) ?_
    have ho := gI_e hf
    clear hf
    obtain ⟨a22, v23, e24, k25, q26, hf⟩ := ho
    cases e24
    refine q_get X M flX1_44.g k25 (congrArg Value.int q26) dX1_newCall_27 ?_
    refine lv_iload_n X.1 X.2.1 dX1_newCall_30 rfl (lv_at hl 1 rfl) ?_
    have ho := tI_e hf
    clear hf
    obtain ⟨a27, w28, e29, k30, i31, q32, hf⟩ := ho
    cases e29
    refine q_iast X M hS k30 i31 dX1_newCall_31 (fun H locs M hS => ?_)
    rw [q32] at M
    refine q_aload_n X dX1_newCall_32 rfl (lv_at hl 0 rfl) ?_
    have ho := gR_e hf
    clear hf
    obtain ⟨a33, v34, e35, k36, q37, hf⟩ := ho
    cases e35
    refine q_get X M flX1_18.g k36 (congrArg va_rf q37) dX1_newCall_33 ?_
    refine q_aload_n X dX1_newCall_36 rfl (lv_at hl 0 rfl) ?_
    have ho := gI_e hf
    clear hf
    obtain ⟨a38, v39, e40, k41, q42, hf⟩ := ho
    cases e40
    refine q_get X M flX1_44.g k41 (congrArg Value.int q42) dX1_newCall_37 ?_
    refine lv_iload_n X.1 X.2.1 dX1_newCall_40 rfl (lv_at hl 2 rfl) ?_
    have ho := tI_e hf
    clear hf
    obtain ⟨a43, w44, e45, k46, i47, q48, hf⟩ := ho
    cases e45
    refine q_iast X M hS k46 i47 dX1_newCall_41 (fun H locs M hS => ?_)
    rw [q48] at M
    refine q_aload_n X dX1_newCall_42 rfl (lv_at hl 0 rfl) ?_
    have ho := gR_e hf
    clear hf
    obtain ⟨a49, v50, e51, k52, q53, hf⟩ := ho
    cases e51
    refine q_get X M flX1_21.g k52 (congrArg va_rf q53) dX1_newCall_43 ?_
    refine q_aload_n X dX1_newCall_46 rfl (lv_at hl 0 rfl) ?_
    have ho := gI_e hf
    clear hf
    obtain ⟨a54, v55, e56, k57, q58, hf⟩ := ho
    cases e56
    refine q_get X M flX1_44.g k57 (congrArg Value.int q58) dX1_newCall_47 ?_
    refine lv_lload_n X.1 X.2.1 dX1_newCall_50 rfl (lv_at hl 3 rfl) ?_
    have ho := tL_e hf
    clear hf
    obtain ⟨a59, w60, e61, k62, i63, q64, hf⟩ := ho
    cases e61
    refine q_last X M hS k62 i63 dX1_newCall_51 (fun H locs M hS => ?_)
    rw [q64] at M
    refine q_aload_n X dX1_newCall_52 rfl (lv_at hl 0 rfl) ?_
    have ho := gR_e hf
    clear hf
    obtain ⟨a65, v66, e67, k68, q69, hf⟩ := ho
    cases e67
    refine q_get X M flX1_25.g k68 (congrArg va_rf q69) dX1_newCall_53 ?_
    refine q_aload_n X dX1_newCall_56 rfl (lv_at hl 0 rfl) ?_
    have ho := gI_e hf
    clear hf
    obtain ⟨a70, v71, e72, k73, q74, hf⟩ := ho
    cases e72
    refine q_get X M flX1_44.g k73 (congrArg Value.int q74) dX1_newCall_57 ?_
    refine lv_lload X.1 X.2.1 dX1_newCall_60 (lv_at hl 4 rfl) ?_
    have ho := tL_e hf
    clear hf
    obtain ⟨a75, w76, e77, k78, i79, q80, hf⟩ := ho
    cases e77
    refine q_last X M hS k78 i79 dX1_newCall_62 (fun H locs M hS => ?_)
    rw [q80] at M
    refine q_aload_n X dX1_newCall_63 rfl (lv_at hl 0 rfl) ?_
    have ho := gR_e hf
    clear hf
    obtain ⟨a81, v82, e83, k84, q85, hf⟩ := ho
    cases e83
    refine q_get X M flX1_28.g k84 (congrArg va_rf q85) dX1_newCall_64 ?_
    refine q_aload_n X dX1_newCall_67 rfl (lv_at hl 0 rfl) ?_
    have ho := gI_e hf
    clear hf
    obtain ⟨a86, v87, e88, k89, q90, hf⟩ := ho
    cases e88
    refine q_get X M flX1_44.g k89 (congrArg Value.int q90) dX1_newCall_68 ?_
    refine lv_iconst (v := 0) X.1 X.2.1 dX1_newCall_71 (by decide) ?_
    have ho := tI_e hf
    clear hf
    obtain ⟨a91, w92, e93, k94, i95, q96, hf⟩ := ho
    cases e93
    refine q_iast X M hS k94 i95 dX1_newCall_72 (fun H locs M hS => ?_)
    rw [q96] at M
    refine q_aload_n X dX1_newCall_73 rfl (lv_at hl 0 rfl) ?_
    have ho := gR_e hf
    clear hf
    obtain ⟨a97, v98, e99, k100, q101, hf⟩ := ho
    cases e99
    refine q_get X M flX1_31.g k100 (congrArg va_rf q101) dX1_newCall_74 ?_
    refine q_aload_n X dX1_newCall_77 rfl (lv_at hl 0 rfl) ?_
    have ho := gI_e hf
    clear hf
    obtain ⟨a102, v103, e104, k105, q106, hf⟩ := ho
    cases e104
    refine q_get X M flX1_44.g k105 (congrArg Value.int q106) dX1_newCall_78 ?_
    refine lv_lconst (v := 0) X.1 X.2.1 dX1_newCall_81 (by decide) ?_
    have ho := tL_e hf
    clear hf
    obtain ⟨a107, w108, e109, k110, i111, q112, hf⟩ := ho
    cases e109
    refine q_last X M hS k110 i111 dX1_newCall_82 (fun H locs M hS => ?_)
    rw [q112] at M
    refine q_aload_n X dX1_newCall_83 rfl (lv_at hl 0 rfl) ?_
    have ho := gI_e hf
    clear hf
    obtain ⟨a113, v114, e115, k116, q117, hf⟩ := ho
    cases e115
    refine q_get X M flX1_44.g k116 (congrArg Value.int q117) dX1_newCall_84 ?_
    obtain rfl := Option.some.inj hf
    exact q_iret X M hS (by omega) (by omega) dX1_newCall_87
  · rw [if_neg c6] at hf
    refine lv_bipush (v := (-2)) X.1 X.2.1 dX1_newCall_9 (by decide) ?_
    obtain rfl := Option.some.inj hf
    exact q_iret X M hS (by omega) (by omega) dX1_newCall_11
theorem m_X1_newCall {l : Launch} {D : va_G} {aC : Nat → ClassId} {b0 : Nat} {w : Wd} (o : Nat) (x1 : Int32) (x2 : Int32) (x3 : Int64) (x5 : Int64) (v : Int32) (w' : Wd) (hf : f_X1_newCall o x1 x2 x3 x5 w = some (v, w')) : Ct l D aC b0 yX1_newCall (Cond.code yX1_newCall cX1_newCall 7 (some .int) :: Gw) rX1_newCall [va_rf (some o), .int x1, .int x2, .long x3, .long x5] w (some (.int v)) w' :=
  q_met (by decide) (Nat.le_of_ble_eq_true rfl) (fun p e s m below meth c X M ls hl => e_X1_newCall X (res := (v, w')) o x1 x2 x3 x5 w s.heap [] 0 0 ls hf M va_S.rf (by decide) (by decide) hl)
abbrev rX2_init : Room := { frames := 1, cells := 0, slots := 0, locals := 20 }
def f_X2_init (o : Nat) (x1 : Int32) (x2 : Int32) (x3 : Int32) (w : Wd) : Option (Unit × Wd) := pI w (some o) 3 0 x1 (fun w2 => pI w2 (some o) 3 1 x2 (fun w7 => pI w7 (some o) 3 2 x3 (fun w12 => some ((), w12))))
set_option maxHeartbeats 4000000 in
set_option maxRecDepth 100000 in
theorem e_X2_init {l : Launch} {D : va_G} {aC : Nat → ClassId} {b0 : Nat} {p : Program} {e : Env} {s : State} {m : MethodId} {args : Array Value} {below : List Frame} {meth : Method} {c : Code} (X : Cx D aC p s m args meth c cX2_init RX2 4 "<init>" none) {res : (Unit × Wd)} (o : Nat) (x1 : Int32) (x2 : Int32) (x3 : Int32) (w : Wd) : BW l D aC b0 p e rX2_init s m args below meth c (Qe D aC b0 below args s 0 0 none res.2) res 0 0 0 0 (f_X2_init o x1 x2 x3 w) w 0 4 [(0, va_rf (some o)), (1, .int x1), (2, .int x2), (3, .int x3)] [] := by
  intro H locs cells slots ls hf M hS hc hs hl
  unfold f_X2_init at hf
  refine q_aload_n X dX2_init_0 rfl (lv_at hl 0 rfl) ?_
  refine q_obj X hl.1 gm_227 (Nat.le_of_ble_eq_true rfl) (Nat.le_of_ble_eq_true rfl) dX2_init_1 ?_
  refine q_aload_n X dX2_init_4 rfl (lv_at hl 0 rfl) ?_
  refine lv_iload_n X.1 X.2.1 dX2_init_5 rfl (lv_at hl 1 rfl) ?_
  have ho := pI_e hf
  clear hf
  obtain ⟨a1, w2, e3, k4, q5, hf⟩ := ho
  cases e3
  refine q_putI X M hS flX2_9 (Or.inr rfl) k4 dX2_init_6 (fun H locs M hS => ?_)
  rw [q5] at M
  refine q_aload_n X dX2_init_9 rfl (lv_at hl 0 rfl) ?_
  refine lv_iload_n X.1 X.2.1 dX2_init_10 rfl (lv_at hl 2 rfl) ?_
  have ho := pI_e hf
  clear hf
  obtain ⟨a6, w7, e8, k9, q10, hf⟩ := ho
  cases e8
  refine q_putI X M hS flX2_15 (Or.inr rfl) k9 dX2_init_11 (fun H locs M hS => ?_)
  rw [q10] at M
  refine q_aload_n X dX2_init_14 rfl (lv_at hl 0 rfl) ?_
  refine lv_iload_n X.1 X.2.1 dX2_init_15 rfl (lv_at hl 3 rfl) ?_
  have ho := pI_e hf
  clear hf
  obtain ⟨a11, w12, e13, k14, q15, hf⟩ := ho
  cases e13
  refine q_putI X M hS flX2_18 (Or.inr rfl) k14 dX2_init_16 (fun H locs M hS => ?_)
  rw [q15] at M
  obtain rfl := Option.some.inj hf
  exact q_vret X M hS (by omega) (by omega) dX2_init_19
theorem m_X2_init {l : Launch} {D : va_G} {aC : Nat → ClassId} {b0 : Nat} {w : Wd} (o : Nat) (x1 : Int32) (x2 : Int32) (x3 : Int32) (v : Unit) (w' : Wd) (hf : f_X2_init o x1 x2 x3 w = some (v, w')) : Ct l D aC b0 yX2_init (Cond.code yX2_init cX2_init 4 none :: Gw) rX2_init [va_rf (some o), .int x1, .int x2, .int x3] w none w' :=
  q_met (by decide) (Nat.le_of_ble_eq_true rfl) (fun p e s m below meth c X M ls hl => e_X2_init X (res := (v, w')) o x1 x2 x3 w s.heap [] 0 0 ls hf M va_S.rf (by decide) (by decide) hl)
abbrev rX1_first : Room := { frames := 0, cells := 0, slots := 0, locals := 0 }
def f_X1_first_2 : Nat → Nat → Int32 → Wd → Option (Int32 × Wd)
  | 0, _, _, _ => none
  | n + 1, o, x1, w => gI w (some o) 2 3 (fun v2 => if v2 < x1 then (gI w (some o) 2 3 (fun v8 => some ((v8 + 1), w))) else (gR w (some o) 2 9 (fun v13 => aI w v13 100 x1 (fun v18 => if v18 = 0 then (some (x1, w)) else ((f_X1_first_2 n) o (x1 + 1) w)))))
set_option maxHeartbeats 4000000 in
set_option maxRecDepth 100000 in
theorem b_X1_first_2 {l : Launch} {D : va_G} {aC : Nat → ClassId} {b0 : Nat} {p : Program} {e : Env} {s : State} {m : MethodId} {args : Array Value} {below : List Frame} {meth : Method} {c : Code} (X : Cx D aC p s m args meth c cX1_first RX1 2 "first" (some .int)) {res : (Int32 × Wd)} : ∀ (n : Nat) (o : Nat) (x1 : Int32) (w : Wd), BW l D aC b0 p e rX1_first s m args below meth c (Qe D aC b0 below args s 0 0 (some (.int res.1)) res.2) res 0 0 0 0 (f_X1_first_2 n o x1 w) w 2 2 [(0, va_rf (some o)), (1, .int x1)] [] := by
  intro n
  induction n with
  | zero =>
    intro o x1 w H locs cells slots ls hf
    rw [f_X1_first_2.eq_1] at hf
    cases hf
  | succ n ih =>
    intro o x1 w H locs cells slots ls hf M hS hc hs hl
    rw [f_X1_first_2.eq_2] at hf
    refine lv_iload_n X.1 X.2.1 dX1_first_2 rfl (lv_at hl 1 rfl) ?_
    refine q_aload_n X dX1_first_3 rfl (lv_at hl 0 rfl) ?_
    have ho := gI_e hf
    clear hf
    obtain ⟨a1, v2, e3, k4, q5, hf⟩ := ho
    cases e3
    refine q_get X M flX1_44.g k4 (congrArg Value.int q5) dX1_first_4 ?_
    refine lv_icmp_gt (tgt := 27) X.1 X.2.1 dX1_first_7 (by decide) (fun c6 => ?_) (fun c6 => ?_)
    · rw [if_pos c6] at hf
      refine q_aload_n X dX1_first_27 rfl (lv_at hl 0 rfl) ?_
      have ho := gI_e hf
      clear hf
      obtain ⟨a7, v8, e9, k10, q11, hf⟩ := ho
      cases e9
      refine q_get X M flX1_44.g k10 (congrArg Value.int q11) dX1_first_28 ?_
      refine lv_iconst (v := 1) X.1 X.2.1 dX1_first_31 (by decide) ?_
      refine lv_iadd X.1 X.2.1 dX1_first_32 ?_
      obtain rfl := Option.some.inj hf
      exact q_iret X M hS (by omega) (by omega) dX1_first_33
    · rw [if_neg c6] at hf
      refine q_aload_n X dX1_first_10 rfl (lv_at hl 0 rfl) ?_
      have ho := gR_e hf
      clear hf
      obtain ⟨a12, v13, e14, k15, q16, hf⟩ := ho
      cases e14
      refine q_get X M flX1_28.g k15 (congrArg va_rf q16) dX1_first_11 ?_
      refine lv_iload_n X.1 X.2.1 dX1_first_14 rfl (lv_at hl 1 rfl) ?_
      have ho := aI_e hf
      clear hf
      obtain ⟨a17, v18, e19, k20, i21, q22, hf⟩ := ho
      cases e19
      refine q_iald X M k20 i21 dX1_first_15 ?_
      rw [q22]
      refine lv_if_ne (tgt := 21) X.1 X.2.1 dX1_first_16 (by decide) (fun c23 => ?_) (fun c23 => ?_)
      · rw [if_neg c23] at hf
        refine lv_iinc (v := (x1 + 1)) (lv' := [(1, .int (x1 + 1)), (0, va_rf (some o))]) X.1 X.2.1 dX1_first_21 hl (k := 1) rfl rfl (by decide) rfl (fun ls hl => ?_)
        refine lv_goto (tgt := 2) X.1 X.2.1 dX1_first_24 (by decide) ?_
        exact ih o (x1 + 1) w _ _ _ _ _ hf M hS (by omega) (by omega) (lv_sub hl [1, 0] rfl)
      · rw [if_pos c23] at hf
        refine lv_iload_n X.1 X.2.1 dX1_first_19 rfl (lv_at hl 1 rfl) ?_
        obtain rfl := Option.some.inj hf
        exact q_iret X M hS (by omega) (by omega) dX1_first_20
def f_X1_first (o : Nat) (w : Wd) : Option (Int32 × Wd) := (f_X1_first_2 FU) o 1 w
set_option maxHeartbeats 4000000 in
set_option maxRecDepth 100000 in
theorem e_X1_first {l : Launch} {D : va_G} {aC : Nat → ClassId} {b0 : Nat} {p : Program} {e : Env} {s : State} {m : MethodId} {args : Array Value} {below : List Frame} {meth : Method} {c : Code} (X : Cx D aC p s m args meth c cX1_first RX1 2 "first" (some .int)) {res : (Int32 × Wd)} (o : Nat) (w : Wd) : BW l D aC b0 p e rX1_first s m args below meth c (Qe D aC b0 below args s 0 0 (some (.int res.1)) res.2) res 0 0 0 0 (f_X1_first o w) w 0 2 [(0, va_rf (some o))] [] := by
  intro H locs cells slots ls hf M hS hc hs hl
  unfold f_X1_first at hf
  refine lv_iconst (v := 1) X.1 X.2.1 dX1_first_0 (by decide) ?_
  refine lv_istore_n (i := 1) (lv' := [(1, .int 1), (0, va_rf (some o))]) X.1 X.2.1 dX1_first_1 rfl hl (by decide) rfl (fun ls hl => ?_)
  exact (b_X1_first_2 X FU) o 1 w _ _ _ _ _ hf M hS (by omega) (by omega) (lv_sub hl [1, 0] rfl)
theorem m_X1_first {l : Launch} {D : va_G} {aC : Nat → ClassId} {b0 : Nat} {w : Wd} (o : Nat) (v : Int32) (w' : Wd) (hf : f_X1_first o w = some (v, w')) : Ct l D aC b0 yX1_first (Cond.code yX1_first cX1_first 2 (some .int) :: Gw) rX1_first [va_rf (some o)] w (some (.int v)) w' :=
  q_met (by decide) (Nat.le_of_ble_eq_true rfl) (fun p e s m below meth c X M ls hl => e_X1_first X (res := (v, w')) o w s.heap [] 0 0 ls hf M va_S.rf (by decide) (by decide) hl)
abbrev rX3_append : Room := { frames := 0, cells := 0, slots := 0, locals := 0 }
def f_X3_append (o : Nat) (x1 : Option Nat) (w : Wd) : Option (Int32 × Wd) := gI w (some o) 4 1 (fun v2 => gR w (some o) 4 0 (fun v7 => gN w v7 105 (fun v12 => if v2 < v12 then (gR w (some o) 4 0 (fun v18 => gI w (some o) 4 1 (fun v23 => tR w v18 105 v23 x1 3 (fun w28 => gI w28 (some o) 4 1 (fun v35 => pI w28 (some o) 4 1 (v35 + 1) (fun w40 => retZ 1 w40)))))) else (retZ 0 w))))
set_option maxHeartbeats 4000000 in
set_option maxRecDepth 100000 in
theorem e_X3_append {l : Launch} {D : va_G} {aC : Nat → ClassId} {b0 : Nat} {p : Program} {e : Env} {s : State} {m : MethodId} {args : Array Value} {below : List Frame} {meth : Method} {c : Code} (X : Cx D aC p s m args meth c cX3_append RX3 2 "append" (some .boolean)) {res : (Int32 × Wd)} (o : Nat) (x1 : Option Nat) (w : Wd) : BW l D aC b0 p e rX3_append s m args below meth c (Qe D aC b0 below args s 0 0 (some (.int res.1)) res.2) res 0 0 0 0 (f_X3_append o x1 w) w 0 2 [(0, va_rf (some o)), (1, va_rf x1)] [] := by
  intro H locs cells slots ls hf M hS hc hs hl
  unfold f_X3_append at hf
  refine q_aload_n X dX3_append_0 rfl (lv_at hl 0 rfl) ?_
  have ho := gI_e hf
  clear hf
  obtain ⟨a1, v2, e3, k4, q5, hf⟩ := ho
  cases e3
  refine q_get X M flX3_21.g k4 (congrArg Value.int q5) dX3_append_1 ?_
  refine q_aload_n X dX3_append_4 rfl (lv_at hl 0 rfl) ?_
  have ho := gR_e hf
  clear hf
  obtain ⟨a6, v7, e8, k9, q10, hf⟩ := ho
  cases e8
  refine q_get X M flX3_15.g k9 (congrArg va_rf q10) dX3_append_5 ?_
  have ho := gN_e hf
  clear hf
  obtain ⟨a11, v12, e13, k14, q15, hf⟩ := ho
  cases e13
  refine q_alen X M (t := 5) (by decide) k14 dX3_append_8 ?_
  rw [q15]
  refine lv_icmp_lt (tgt := 14) X.1 X.2.1 dX3_append_9 (by decide) (fun c16 => ?_) (fun c16 => ?_)
  · rw [if_pos c16] at hf
    refine q_aload_n X dX3_append_14 rfl (lv_at hl 0 rfl) ?_
    have ho := gR_e hf
    clear hf
    obtain ⟨a17, v18, e19, k20, q21, hf⟩ := ho
    cases e19
    refine q_get X M flX3_15.g k20 (congrArg va_rf q21) dX3_append_15 ?_
    refine q_aload_n X dX3_append_18 rfl (lv_at hl 0 rfl) ?_
    have ho := gI_e hf
    clear hf
    obtain ⟨a22, v23, e24, k25, q26, hf⟩ := ho
    cases e24
    refine q_get X M flX3_21.g k25 (congrArg Value.int q26) dX3_append_19 ?_
    refine q_aload_n X dX3_append_22 rfl (lv_at hl 1 rfl) ?_
    have ho := tR_e hf
    clear hf
    obtain ⟨a27, w28, e29, k30, i31, z33, q32, hf⟩ := ho
    cases e29
    refine q_aast X M hS (Or.inr (Or.inr (Or.inl ⟨rfl, rfl, rfl⟩))) k30 z33 i31 dX3_append_23 (fun H locs M hS => ?_)
    rw [q32] at M
    refine q_aload_n X dX3_append_24 rfl (lv_at hl 0 rfl) ?_
    refine lv_dup X.1 X.2.1 dX3_append_25 rfl ?_
    have ho := gI_e hf
    clear hf
    obtain ⟨a34, v35, e36, k37, q38, hf⟩ := ho
    cases e36
    refine q_get X M flX3_21.g k37 (congrArg Value.int q38) dX3_append_26 ?_
    refine lv_iconst (v := 1) X.1 X.2.1 dX3_append_29 (by decide) ?_
    refine lv_iadd X.1 X.2.1 dX3_append_30 ?_
    have ho := pI_e hf
    clear hf
    obtain ⟨a39, w40, e41, k42, q43, hf⟩ := ho
    cases e41
    refine q_putI X M hS flX3_21 (Or.inl rfl) k42 dX3_append_31 (fun H locs M hS => ?_)
    rw [q43] at M
    refine lv_iconst (v := 1) X.1 X.2.1 dX3_append_34 (by decide) ?_
    have ho := retZ_e hf
    clear hf
    obtain ⟨z44, rfl⟩ := ho
    exact q_zret X M hS (by omega) (by omega) z44 dX3_append_35
  · rw [if_neg c16] at hf
    refine lv_iconst (v := 0) X.1 X.2.1 dX3_append_12 (by decide) ?_
    have ho := retZ_e hf
    clear hf
    obtain ⟨z45, rfl⟩ := ho
    exact q_zret X M hS (by omega) (by omega) z45 dX3_append_13
theorem m_X3_append {l : Launch} {D : va_G} {aC : Nat → ClassId} {b0 : Nat} {w : Wd} (o : Nat) (x1 : Option Nat) (v : Int32) (w' : Wd) (hf : f_X3_append o x1 w = some (v, w')) : Ct l D aC b0 yX3_append (Cond.code yX3_append cX3_append 2 (some .boolean) :: Gw) rX3_append [va_rf (some o), va_rf x1] w (some (.int v)) w' :=
  q_met (by decide) (by simp [lg_sl, cat1, cati, catl]) (fun p e s m below meth c X M ls hl => e_X3_append X (res := (v, w')) o x1 w s.heap [] 0 0 ls hf M va_S.rf (by decide) (by decide) (by simpa [lv_args, cat1, cati, catl] using hl))
abbrev rX1_hasCall : Room := { frames := 0, cells := 0, slots := 0, locals := 0 }
def f_X1_hasCall (o : Nat) (x1 : Int32) (w : Wd) : Option (Int32 × Wd) := if x1 < 1 then (retZ 0 w) else (gI w (some o) 2 3 (fun v4 => if v4 < x1 then (retZ 0 w) else (retZ 1 w)))
set_option maxHeartbeats 4000000 in
set_option maxRecDepth 100000 in
theorem e_X1_hasCall {l : Launch} {D : va_G} {aC : Nat → ClassId} {b0 : Nat} {p : Program} {e : Env} {s : State} {m : MethodId} {args : Array Value} {below : List Frame} {meth : Method} {c : Code} (X : Cx D aC p s m args meth c cX1_hasCall RX1 2 "hasCall" (some .boolean)) {res : (Int32 × Wd)} (o : Nat) (x1 : Int32) (w : Wd) : BW l D aC b0 p e rX1_hasCall s m args below meth c (Qe D aC b0 below args s 0 0 (some (.int res.1)) res.2) res 0 0 0 0 (f_X1_hasCall o x1 w) w 0 2 [(0, va_rf (some o)), (1, .int x1)] [] := by
  intro H locs cells slots ls hf M hS hc hs hl
  unfold f_X1_hasCall at hf
  refine lv_iload_n X.1 X.2.1 dX1_hasCall_0 rfl (lv_at hl 1 rfl) ?_
  refine lv_iconst (v := 1) X.1 X.2.1 dX1_hasCall_1 (by decide) ?_
  refine lv_icmp_lt (tgt := 17) X.1 X.2.1 dX1_hasCall_2 (by decide) (fun c1 => ?_) (fun c1 => ?_)
  · rw [if_pos c1] at hf
    refine lv_iconst (v := 0) X.1 X.2.1 dX1_hasCall_17 (by decide) ?_
    have ho := retZ_e hf
    clear hf
    obtain ⟨z2, rfl⟩ := ho
    exact q_zret X M hS (by omega) (by omega) z2 dX1_hasCall_18
  · rw [if_neg c1] at hf
    refine lv_iload_n X.1 X.2.1 dX1_hasCall_5 rfl (lv_at hl 1 rfl) ?_
    refine q_aload_n X dX1_hasCall_6 rfl (lv_at hl 0 rfl) ?_
    have ho := gI_e hf
    clear hf
    obtain ⟨a3, v4, e5, k6, q7, hf⟩ := ho
    cases e5
    refine q_get X M flX1_44.g k6 (congrArg Value.int q7) dX1_hasCall_7 ?_
    refine lv_icmp_gt (tgt := 17) X.1 X.2.1 dX1_hasCall_10 (by decide) (fun c8 => ?_) (fun c8 => ?_)
    · rw [if_pos c8] at hf
      refine lv_iconst (v := 0) X.1 X.2.1 dX1_hasCall_17 (by decide) ?_
      have ho := retZ_e hf
      clear hf
      obtain ⟨z9, rfl⟩ := ho
      exact q_zret X M hS (by omega) (by omega) z9 dX1_hasCall_18
    · rw [if_neg c8] at hf
      refine lv_iconst (v := 1) X.1 X.2.1 dX1_hasCall_13 (by decide) ?_
      refine lv_goto (tgt := 18) X.1 X.2.1 dX1_hasCall_14 (by decide) ?_
      have ho := retZ_e hf
      clear hf
      obtain ⟨z10, rfl⟩ := ho
      exact q_zret X M hS (by omega) (by omega) z10 dX1_hasCall_18
theorem m_X1_hasCall {l : Launch} {D : va_G} {aC : Nat → ClassId} {b0 : Nat} {w : Wd} (o : Nat) (x1 : Int32) (v : Int32) (w' : Wd) (hf : f_X1_hasCall o x1 w = some (v, w')) : Ct l D aC b0 yX1_hasCall (Cond.code yX1_hasCall cX1_hasCall 2 (some .boolean) :: Gw) rX1_hasCall [va_rf (some o), .int x1] w (some (.int v)) w' :=
  q_met (by decide) (Nat.le_of_ble_eq_true rfl) (fun p e s m below meth c X M ls hl => e_X1_hasCall X (res := (v, w')) o x1 w s.heap [] 0 0 ls hf M va_S.rf (by decide) (by decide) hl)
abbrev rX3_at : Room := { frames := 0, cells := 0, slots := 0, locals := 0 }
def f_X3_at (o : Nat) (x1 : Int32) (w : Wd) : Option ((Option Nat) × Wd) := if x1 < 0 then (some (none, w)) else (gI w (some o) 4 1 (fun v3 => if v3 ≤ x1 then (some (none, w)) else (gR w (some o) 4 0 (fun v9 => aR w v9 105 x1 (fun v14 => some (v14, w))))))
set_option maxHeartbeats 4000000 in
set_option maxRecDepth 100000 in
theorem e_X3_at {l : Launch} {D : va_G} {aC : Nat → ClassId} {b0 : Nat} {p : Program} {e : Env} {s : State} {m : MethodId} {args : Array Value} {below : List Frame} {meth : Method} {c : Code} (X : Cx D aC p s m args meth c cX3_at RX3 2 "at" (some (.object "OnceCalls$Letter"))) {res : ((Option Nat) × Wd)} (o : Nat) (x1 : Int32) (w : Wd) : BW l D aC b0 p e rX3_at s m args below meth c (Qe D aC b0 below args s 0 0 (some (va_rf res.1)) res.2) res 0 0 0 0 (f_X3_at o x1 w) w 0 2 [(0, va_rf (some o)), (1, .int x1)] [] := by
  intro H locs cells slots ls hf M hS hc hs hl
  unfold f_X3_at at hf
  refine lv_iload_n X.1 X.2.1 dX3_at_0 rfl (lv_at hl 1 rfl) ?_
  refine lv_if_lt (tgt := 21) X.1 X.2.1 dX3_at_1 (by decide) (fun c1 => ?_) (fun c1 => ?_)
  · rw [if_pos c1] at hf
    refine q_null X dX3_at_21 ?_
    obtain rfl := Option.some.inj hf
    exact q_aret X M hS (by omega) (by omega) dX3_at_22
  · rw [if_neg c1] at hf
    refine lv_iload_n X.1 X.2.1 dX3_at_4 rfl (lv_at hl 1 rfl) ?_
    refine q_aload_n X dX3_at_5 rfl (lv_at hl 0 rfl) ?_
    have ho := gI_e hf
    clear hf
    obtain ⟨a2, v3, e4, k5, q6, hf⟩ := ho
    cases e4
    refine q_get X M flX3_21.g k5 (congrArg Value.int q6) dX3_at_6 ?_
    refine lv_icmp_ge (tgt := 21) X.1 X.2.1 dX3_at_9 (by decide) (fun c7 => ?_) (fun c7 => ?_)
    · rw [if_pos c7] at hf
      refine q_null X dX3_at_21 ?_
      obtain rfl := Option.some.inj hf
      exact q_aret X M hS (by omega) (by omega) dX3_at_22
    · rw [if_neg c7] at hf
      refine q_aload_n X dX3_at_12 rfl (lv_at hl 0 rfl) ?_
      have ho := gR_e hf
      clear hf
      obtain ⟨a8, v9, e10, k11, q12, hf⟩ := ho
      cases e10
      refine q_get X M flX3_15.g k11 (congrArg va_rf q12) dX3_at_13 ?_
      refine lv_iload_n X.1 X.2.1 dX3_at_16 rfl (lv_at hl 1 rfl) ?_
      have ho := aR_e hf
      clear hf
      obtain ⟨a13, v14, e15, k16, i17, q18, hf⟩ := ho
      cases e15
      refine q_aald X M (Or.inr (Or.inr (Or.inl ⟨rfl, rfl, rfl⟩))) k16 i17 dX3_at_17 ?_
      rw [q18]
      refine lv_goto (tgt := 22) X.1 X.2.1 dX3_at_18 (by decide) ?_
      obtain rfl := Option.some.inj hf
      exact q_aret X M hS (by omega) (by omega) dX3_at_22
theorem m_X3_at {l : Launch} {D : va_G} {aC : Nat → ClassId} {b0 : Nat} {w : Wd} (o : Nat) (x1 : Int32) (v : (Option Nat)) (w' : Wd) (hf : f_X3_at o x1 w = some (v, w')) : Ct l D aC b0 yX3_at (Cond.code yX3_at cX3_at 2 (some (.object "OnceCalls$Letter")) :: Gw) rX3_at [va_rf (some o), .int x1] w (some (va_rf v)) w' :=
  q_met (by decide) (Nat.le_of_ble_eq_true rfl) (fun p e s m below meth c X M ls hl => e_X3_at X (res := (v, w')) o x1 w s.heap [] 0 0 ls hf M va_S.rf (by decide) (by decide) hl)
abbrev rX3_removeAt : Room := { frames := 0, cells := 0, slots := 0, locals := 0 }
def f_X3_removeAt_17 (K45 : Nat → Wd → Option (Unit × Wd)) : Nat → Nat → Int32 → Wd → Option (Unit × Wd)
  | 0, _, _, _ => none
  | n + 1, o, x2, w => gI w (some o) 4 1 (fun v9 => if v9 ≤ x2 then (K45 o w) else (gR w (some o) 4 0 (fun v15 => gR w (some o) 4 0 (fun v20 => aR w v20 105 x2 (fun v25 => tR w v15 105 (x2 - 1) v25 3 (fun w31 => (f_X3_removeAt_17 K45 n) o (x2 + 1) w31))))))
set_option maxHeartbeats 4000000 in
set_option maxRecDepth 100000 in
theorem b_X3_removeAt_17 {l : Launch} {D : va_G} {aC : Nat → ClassId} {b0 : Nat} {p : Program} {e : Env} {s : State} {m : MethodId} {args : Array Value} {below : List Frame} {meth : Method} {c : Code} (X : Cx D aC p s m args meth c cX3_removeAt RX3 3 "removeAt" none) {res : (Unit × Wd)} {K45 : Nat → Wd → Option (Unit × Wd)} (hK45 : ∀ (o : Nat) (w : Wd), BW l D aC b0 p e rX3_removeAt s m args below meth c (Qe D aC b0 below args s 0 0 none res.2) res 0 0 0 0 (K45 o w) w 45 3 [(0, va_rf (some o))] []) : ∀ (n : Nat) (o : Nat) (x2 : Int32) (w : Wd), BW l D aC b0 p e rX3_removeAt s m args below meth c (Qe D aC b0 below args s 0 0 none res.2) res 0 0 0 0 (f_X3_removeAt_17 K45 n o x2 w) w 17 3 [(0, va_rf (some o)), (2, .int x2)] [] := by
  intro n
  induction n with
  | zero =>
    intro o x2 w H locs cells slots ls hf
    rw [f_X3_removeAt_17.eq_1] at hf
    cases hf
  | succ n ih =>
    intro o x2 w H locs cells slots ls hf M hS hc hs hl
    rw [f_X3_removeAt_17.eq_2] at hf
    refine lv_iload_n X.1 X.2.1 dX3_removeAt_17 rfl (lv_at hl 1 rfl) ?_
    refine q_aload_n X dX3_removeAt_18 rfl (lv_at hl 0 rfl) ?_
    have ho := gI_e hf
    clear hf
    obtain ⟨a8, v9, e10, k11, q12, hf⟩ := ho
    cases e10
    refine q_get X M flX3_21.g k11 (congrArg Value.int q12) dX3_removeAt_19 ?_
    refine lv_icmp_ge (tgt := 45) X.1 X.2.1 dX3_removeAt_22 (by decide) (fun c13 => ?_) (fun c13 => ?_)
    · rw [if_pos c13] at hf
      exact hK45 o w _ _ _ _ _ hf M hS (by omega) (by omega) (lv_sub hl [0] rfl)
    · rw [if_neg c13] at hf
      refine q_aload_n X dX3_removeAt_25 rfl (lv_at hl 0 rfl) ?_
      have ho := gR_e hf
      clear hf
      obtain ⟨a14, v15, e16, k17, q18, hf⟩ := ho
      cases e16
      refine q_get X M flX3_15.g k17 (congrArg va_rf q18) dX3_removeAt_26 ?_
      refine lv_iload_n X.1 X.2.1 dX3_removeAt_29 rfl (lv_at hl 1 rfl) ?_
      refine lv_iconst (v := 1) X.1 X.2.1 dX3_removeAt_30 (by decide) ?_
      refine lv_isub X.1 X.2.1 dX3_removeAt_31 ?_
      refine q_aload_n X dX3_removeAt_32 rfl (lv_at hl 0 rfl) ?_
      have ho := gR_e hf
      clear hf
      obtain ⟨a19, v20, e21, k22, q23, hf⟩ := ho
      cases e21
      refine q_get X M flX3_15.g k22 (congrArg va_rf q23) dX3_removeAt_33 ?_
      refine lv_iload_n X.1 X.2.1 dX3_removeAt_36 rfl (lv_at hl 1 rfl) ?_
      have ho := aR_e hf
      clear hf
      obtain ⟨a24, v25, e26, k27, i28, q29, hf⟩ := ho
      cases e26
      refine q_aald X M (Or.inr (Or.inr (Or.inl ⟨rfl, rfl, rfl⟩))) k27 i28 dX3_removeAt_37 ?_
      rw [q29]
      have ho := tR_e hf
      clear hf
      obtain ⟨a30, w31, e32, k33, i34, z36, q35, hf⟩ := ho
      cases e32
      refine q_aast X M hS (Or.inr (Or.inr (Or.inl ⟨rfl, rfl, rfl⟩))) k33 z36 i34 dX3_removeAt_38 (fun H locs M hS => ?_)
      rw [q35] at M
      refine lv_iinc (v := (x2 + 1)) (lv' := [(2, .int (x2 + 1)), (0, va_rf (some o))]) X.1 X.2.1 dX3_removeAt_39 hl (k := 1) rfl rfl (by decide) rfl (fun ls hl => ?_)
      refine lv_goto (tgt := 17) X.1 X.2.1 dX3_removeAt_42 (by decide) ?_
      exact ih o (x2 + 1) w31 _ _ _ _ _ hf M hS (by omega) (by omega) (lv_sub hl [1, 0] rfl)
def f_X3_removeAt_45 (o : Nat) (w : Wd) : Option (Unit × Wd) := gI w (some o) 4 1 (fun v38 => pI w (some o) 4 1 (v38 - 1) (fun w43 => gR w43 (some o) 4 0 (fun v48 => gI w43 (some o) 4 1 (fun v53 => tR w43 v48 105 v53 none 3 (fun w58 => some ((), w58))))))
set_option maxHeartbeats 4000000 in
set_option maxRecDepth 100000 in
theorem b_X3_removeAt_45 {l : Launch} {D : va_G} {aC : Nat → ClassId} {b0 : Nat} {p : Program} {e : Env} {s : State} {m : MethodId} {args : Array Value} {below : List Frame} {meth : Method} {c : Code} (X : Cx D aC p s m args meth c cX3_removeAt RX3 3 "removeAt" none) {res : (Unit × Wd)} : ∀ (o : Nat) (w : Wd), BW l D aC b0 p e rX3_removeAt s m args below meth c (Qe D aC b0 below args s 0 0 none res.2) res 0 0 0 0 (f_X3_removeAt_45 o w) w 45 3 [(0, va_rf (some o))] [] := by
  intro o w H locs cells slots ls hf M hS hc hs hl
  unfold f_X3_removeAt_45 at hf
  refine q_aload_n X dX3_removeAt_45 rfl (lv_at hl 0 rfl) ?_
  refine lv_dup X.1 X.2.1 dX3_removeAt_46 rfl ?_
  have ho := gI_e hf
  clear hf
  obtain ⟨a37, v38, e39, k40, q41, hf⟩ := ho
  cases e39
  refine q_get X M flX3_21.g k40 (congrArg Value.int q41) dX3_removeAt_47 ?_
  refine lv_iconst (v := 1) X.1 X.2.1 dX3_removeAt_50 (by decide) ?_
  refine lv_isub X.1 X.2.1 dX3_removeAt_51 ?_
  have ho := pI_e hf
  clear hf
  obtain ⟨a42, w43, e44, k45, q46, hf⟩ := ho
  cases e44
  refine q_putI X M hS flX3_21 (Or.inl rfl) k45 dX3_removeAt_52 (fun H locs M hS => ?_)
  rw [q46] at M
  refine q_aload_n X dX3_removeAt_55 rfl (lv_at hl 0 rfl) ?_
  have ho := gR_e hf
  clear hf
  obtain ⟨a47, v48, e49, k50, q51, hf⟩ := ho
  cases e49
  refine q_get X M flX3_15.g k50 (congrArg va_rf q51) dX3_removeAt_56 ?_
  refine q_aload_n X dX3_removeAt_59 rfl (lv_at hl 0 rfl) ?_
  have ho := gI_e hf
  clear hf
  obtain ⟨a52, v53, e54, k55, q56, hf⟩ := ho
  cases e54
  refine q_get X M flX3_21.g k55 (congrArg Value.int q56) dX3_removeAt_60 ?_
  refine q_null X dX3_removeAt_63 ?_
  have ho := tR_e hf
  clear hf
  obtain ⟨a57, w58, e59, k60, i61, z63, q62, hf⟩ := ho
  cases e59
  refine q_aast X M hS (Or.inr (Or.inr (Or.inl ⟨rfl, rfl, rfl⟩))) k60 z63 i61 dX3_removeAt_64 (fun H locs M hS => ?_)
  rw [q62] at M
  obtain rfl := Option.some.inj hf
  exact q_vret X M hS (by omega) (by omega) dX3_removeAt_65
def f_X3_removeAt (o : Nat) (x1 : Int32) (w : Wd) : Option (Unit × Wd) := if x1 < 0 then (some ((), w)) else (gI w (some o) 4 1 (fun v3 => if x1 < v3 then ((f_X3_removeAt_17 (f_X3_removeAt_45) FU) o (x1 + 1) w) else (some ((), w))))
set_option maxHeartbeats 4000000 in
set_option maxRecDepth 100000 in
theorem e_X3_removeAt {l : Launch} {D : va_G} {aC : Nat → ClassId} {b0 : Nat} {p : Program} {e : Env} {s : State} {m : MethodId} {args : Array Value} {below : List Frame} {meth : Method} {c : Code} (X : Cx D aC p s m args meth c cX3_removeAt RX3 3 "removeAt" none) {res : (Unit × Wd)} (o : Nat) (x1 : Int32) (w : Wd) : BW l D aC b0 p e rX3_removeAt s m args below meth c (Qe D aC b0 below args s 0 0 none res.2) res 0 0 0 0 (f_X3_removeAt o x1 w) w 0 3 [(0, va_rf (some o)), (1, .int x1)] [] := by
  intro H locs cells slots ls hf M hS hc hs hl
  unfold f_X3_removeAt at hf
  refine lv_iload_n X.1 X.2.1 dX3_removeAt_0 rfl (lv_at hl 1 rfl) ?_
  refine lv_if_lt (tgt := 12) X.1 X.2.1 dX3_removeAt_1 (by decide) (fun c1 => ?_) (fun c1 => ?_)
  · rw [if_pos c1] at hf
    obtain rfl := Option.some.inj hf
    exact q_vret X M hS (by omega) (by omega) dX3_removeAt_12
  · rw [if_neg c1] at hf
    refine lv_iload_n X.1 X.2.1 dX3_removeAt_4 rfl (lv_at hl 1 rfl) ?_
    refine q_aload_n X dX3_removeAt_5 rfl (lv_at hl 0 rfl) ?_
    have ho := gI_e hf
    clear hf
    obtain ⟨a2, v3, e4, k5, q6, hf⟩ := ho
    cases e4
    refine q_get X M flX3_21.g k5 (congrArg Value.int q6) dX3_removeAt_6 ?_
    refine lv_icmp_lt (tgt := 13) X.1 X.2.1 dX3_removeAt_9 (by decide) (fun c7 => ?_) (fun c7 => ?_)
    · rw [if_pos c7] at hf
      refine lv_iload_n X.1 X.2.1 dX3_removeAt_13 rfl (lv_at hl 1 rfl) ?_
      refine lv_iconst (v := 1) X.1 X.2.1 dX3_removeAt_14 (by decide) ?_
      refine lv_iadd X.1 X.2.1 dX3_removeAt_15 ?_
      refine lv_istore_n (i := 2) (lv' := [(2, .int (x1 + 1)), (0, va_rf (some o)), (1, .int x1)]) X.1 X.2.1 dX3_removeAt_16 rfl hl (by decide) rfl (fun ls hl => ?_)
      exact (b_X3_removeAt_17 X (b_X3_removeAt_45 X) FU) o (x1 + 1) w _ _ _ _ _ hf M hS (by omega) (by omega) (lv_sub hl [1, 0] rfl)
    · rw [if_neg c7] at hf
      obtain rfl := Option.some.inj hf
      exact q_vret X M hS (by omega) (by omega) dX3_removeAt_12
theorem m_X3_removeAt {l : Launch} {D : va_G} {aC : Nat → ClassId} {b0 : Nat} {w : Wd} (o : Nat) (x1 : Int32) (v : Unit) (w' : Wd) (hf : f_X3_removeAt o x1 w = some (v, w')) : Ct l D aC b0 yX3_removeAt (Cond.code yX3_removeAt cX3_removeAt 3 none :: Gw) rX3_removeAt [va_rf (some o), .int x1] w none w' :=
  q_met (by decide) (Nat.le_of_ble_eq_true rfl) (fun p e s m below meth c X M ls hl => e_X3_removeAt X (res := (v, w')) o x1 w s.heap [] 0 0 ls hf M va_S.rf (by decide) (by decide) hl)
abbrev rX1_refuseWaiting : Room := { frames := 0, cells := 0, slots := 0, locals := 0 }
def f_X1_refuseWaiting_26 (K2 : Nat → Int32 → Wd → Option (Unit × Wd)) (o : Nat) (x1 : Int32) (w : Wd) : Option (Unit × Wd) := K2 o (x1 + 1) w
set_option maxHeartbeats 4000000 in
set_option maxRecDepth 100000 in
theorem b_X1_refuseWaiting_26 {l : Launch} {D : va_G} {aC : Nat → ClassId} {b0 : Nat} {p : Program} {e : Env} {s : State} {m : MethodId} {args : Array Value} {below : List Frame} {meth : Method} {c : Code} (X : Cx D aC p s m args meth c cX1_refuseWaiting RX1 2 "refuseWaiting" none) {res : (Unit × Wd)} {K2 : Nat → Int32 → Wd → Option (Unit × Wd)} (hK2 : ∀ (o : Nat) (x1 : Int32) (w : Wd), BW l D aC b0 p e rX1_refuseWaiting s m args below meth c (Qe D aC b0 below args s 0 0 none res.2) res 0 0 0 0 (K2 o x1 w) w 2 2 [(0, va_rf (some o)), (1, .int x1)] []) : ∀ (o : Nat) (x1 : Int32) (w : Wd), BW l D aC b0 p e rX1_refuseWaiting s m args below meth c (Qe D aC b0 below args s 0 0 none res.2) res 0 0 0 0 (f_X1_refuseWaiting_26 K2 o x1 w) w 26 2 [(0, va_rf (some o)), (1, .int x1)] [] := by
  intro o x1 w H locs cells slots ls hf M hS hc hs hl
  unfold f_X1_refuseWaiting_26 at hf
  refine lv_iinc (v := (x1 + 1)) (lv' := [(1, .int (x1 + 1)), (0, va_rf (some o))]) X.1 X.2.1 dX1_refuseWaiting_26 hl (k := 1) rfl rfl (by decide) rfl (fun ls hl => ?_)
  refine lv_goto (tgt := 2) X.1 X.2.1 dX1_refuseWaiting_29 (by decide) ?_
  exact hK2 o (x1 + 1) w _ _ _ _ _ hf M hS (by omega) (by omega) (lv_sub hl [1, 0] rfl)
def f_X1_refuseWaiting_2 : Nat → Nat → Int32 → Wd → Option (Unit × Wd)
  | 0, _, _, _ => none
  | n + 1, o, x1, w => gI w (some o) 2 3 (fun v2 => if v2 < x1 then (some ((), w)) else (gR w (some o) 2 9 (fun v8 => aI w v8 100 x1 (fun v13 => if v13 = 0 then (gR w (some o) 2 9 (fun v20 => tI w v20 100 x1 2 (fun w25 => (f_X1_refuseWaiting_26 (f_X1_refuseWaiting_2 n)) o x1 w25))) else ((f_X1_refuseWaiting_26 (f_X1_refuseWaiting_2 n)) o x1 w)))))
set_option maxHeartbeats 4000000 in
set_option maxRecDepth 100000 in
theorem b_X1_refuseWaiting_2 {l : Launch} {D : va_G} {aC : Nat → ClassId} {b0 : Nat} {p : Program} {e : Env} {s : State} {m : MethodId} {args : Array Value} {below : List Frame} {meth : Method} {c : Code} (X : Cx D aC p s m args meth c cX1_refuseWaiting RX1 2 "refuseWaiting" none) {res : (Unit × Wd)} : ∀ (n : Nat) (o : Nat) (x1 : Int32) (w : Wd), BW l D aC b0 p e rX1_refuseWaiting s m args below meth c (Qe D aC b0 below args s 0 0 none res.2) res 0 0 0 0 (f_X1_refuseWaiting_2 n o x1 w) w 2 2 [(0, va_rf (some o)), (1, .int x1)] [] := by
  intro n
  induction n with
  | zero =>
    intro o x1 w H locs cells slots ls hf
    rw [f_X1_refuseWaiting_2.eq_1] at hf
    cases hf
  | succ n ih =>
    intro o x1 w H locs cells slots ls hf M hS hc hs hl
    rw [f_X1_refuseWaiting_2.eq_2] at hf
    refine lv_iload_n X.1 X.2.1 dX1_refuseWaiting_2 rfl (lv_at hl 1 rfl) ?_
    refine q_aload_n X dX1_refuseWaiting_3 rfl (lv_at hl 0 rfl) ?_
    have ho := gI_e hf
    clear hf
    obtain ⟨a1, v2, e3, k4, q5, hf⟩ := ho
    cases e3
    refine q_get X M flX1_44.g k4 (congrArg Value.int q5) dX1_refuseWaiting_4 ?_
    refine lv_icmp_gt (tgt := 32) X.1 X.2.1 dX1_refuseWaiting_7 (by decide) (fun c6 => ?_) (fun c6 => ?_)
    · rw [if_pos c6] at hf
      obtain rfl := Option.some.inj hf
      exact q_vret X M hS (by omega) (by omega) dX1_refuseWaiting_32
    · rw [if_neg c6] at hf
      refine q_aload_n X dX1_refuseWaiting_10 rfl (lv_at hl 0 rfl) ?_
      have ho := gR_e hf
      clear hf
      obtain ⟨a7, v8, e9, k10, q11, hf⟩ := ho
      cases e9
      refine q_get X M flX1_28.g k10 (congrArg va_rf q11) dX1_refuseWaiting_11 ?_
      refine lv_iload_n X.1 X.2.1 dX1_refuseWaiting_14 rfl (lv_at hl 1 rfl) ?_
      have ho := aI_e hf
      clear hf
      obtain ⟨a12, v13, e14, k15, i16, q17, hf⟩ := ho
      cases e14
      refine q_iald X M k15 i16 dX1_refuseWaiting_15 ?_
      rw [q17]
      refine lv_if_ne (tgt := 26) X.1 X.2.1 dX1_refuseWaiting_16 (by decide) (fun c18 => ?_) (fun c18 => ?_)
      · rw [if_neg c18] at hf
        exact (b_X1_refuseWaiting_26 X ih) o x1 w _ _ _ _ _ hf M hS (by omega) (by omega) (lv_sub hl [0, 1] rfl)
      · rw [if_pos c18] at hf
        refine q_aload_n X dX1_refuseWaiting_19 rfl (lv_at hl 0 rfl) ?_
        have ho := gR_e hf
        clear hf
        obtain ⟨a19, v20, e21, k22, q23, hf⟩ := ho
        cases e21
        refine q_get X M flX1_28.g k22 (congrArg va_rf q23) dX1_refuseWaiting_20 ?_
        refine lv_iload_n X.1 X.2.1 dX1_refuseWaiting_23 rfl (lv_at hl 1 rfl) ?_
        refine lv_iconst (v := 2) X.1 X.2.1 dX1_refuseWaiting_24 (by decide) ?_
        have ho := tI_e hf
        clear hf
        obtain ⟨a24, w25, e26, k27, i28, q29, hf⟩ := ho
        cases e26
        refine q_iast X M hS k27 i28 dX1_refuseWaiting_25 (fun H locs M hS => ?_)
        rw [q29] at M
        exact (b_X1_refuseWaiting_26 X ih) o x1 w25 _ _ _ _ _ hf M hS (by omega) (by omega) (lv_sub hl [0, 1] rfl)
def f_X1_refuseWaiting (o : Nat) (w : Wd) : Option (Unit × Wd) := (f_X1_refuseWaiting_2 FU) o 1 w
set_option maxHeartbeats 4000000 in
set_option maxRecDepth 100000 in
theorem e_X1_refuseWaiting {l : Launch} {D : va_G} {aC : Nat → ClassId} {b0 : Nat} {p : Program} {e : Env} {s : State} {m : MethodId} {args : Array Value} {below : List Frame} {meth : Method} {c : Code} (X : Cx D aC p s m args meth c cX1_refuseWaiting RX1 2 "refuseWaiting" none) {res : (Unit × Wd)} (o : Nat) (w : Wd) : BW l D aC b0 p e rX1_refuseWaiting s m args below meth c (Qe D aC b0 below args s 0 0 none res.2) res 0 0 0 0 (f_X1_refuseWaiting o w) w 0 2 [(0, va_rf (some o))] [] := by
  intro H locs cells slots ls hf M hS hc hs hl
  unfold f_X1_refuseWaiting at hf
  refine lv_iconst (v := 1) X.1 X.2.1 dX1_refuseWaiting_0 (by decide) ?_
  refine lv_istore_n (i := 1) (lv' := [(1, .int 1), (0, va_rf (some o))]) X.1 X.2.1 dX1_refuseWaiting_1 rfl hl (by decide) rfl (fun ls hl => ?_)
  exact (b_X1_refuseWaiting_2 X FU) o 1 w _ _ _ _ _ hf M hS (by omega) (by omega) (lv_sub hl [1, 0] rfl)
theorem m_X1_refuseWaiting {l : Launch} {D : va_G} {aC : Nat → ClassId} {b0 : Nat} {w : Wd} (o : Nat) (v : Unit) (w' : Wd) (hf : f_X1_refuseWaiting o w = some (v, w')) : Ct l D aC b0 yX1_refuseWaiting (Cond.code yX1_refuseWaiting cX1_refuseWaiting 2 none :: Gw) rX1_refuseWaiting [va_rf (some o)] w none w' :=
  q_met (by decide) (Nat.le_of_ble_eq_true rfl) (fun p e s m below meth c X M ls hl => e_X1_refuseWaiting X (res := (v, w')) o w s.heap [] 0 0 ls hf M va_S.rf (by decide) (by decide) hl)
abbrev rX4_bucketAt : Room := { frames := 0, cells := 0, slots := 0, locals := 0 }
def f_X4_bucketAt (o : Nat) (x1 : Int32) (w : Wd) : Option ((Option Nat) × Wd) := if x1 < 0 then (some (none, w)) else (if 8 ≤ x1 then (some (none, w)) else (gR w (some o) 5 2 (fun v4 => aR w v4 103 x1 (fun v9 => some (v9, w)))))
set_option maxHeartbeats 4000000 in
set_option maxRecDepth 100000 in
theorem e_X4_bucketAt {l : Launch} {D : va_G} {aC : Nat → ClassId} {b0 : Nat} {p : Program} {e : Env} {s : State} {m : MethodId} {args : Array Value} {below : List Frame} {meth : Method} {c : Code} (X : Cx D aC p s m args meth c cX4_bucketAt RX4 2 "bucketAt" (some (.object "OnceCalls$Bucket"))) {res : ((Option Nat) × Wd)} (o : Nat) (x1 : Int32) (w : Wd) : BW l D aC b0 p e rX4_bucketAt s m args below meth c (Qe D aC b0 below args s 0 0 (some (va_rf res.1)) res.2) res 0 0 0 0 (f_X4_bucketAt o x1 w) w 0 2 [(0, va_rf (some o)), (1, .int x1)] [] := by
  intro H locs cells slots ls hf M hS hc hs hl
  unfold f_X4_bucketAt at hf
  refine lv_iload_n X.1 X.2.1 dX4_bucketAt_0 rfl (lv_at hl 1 rfl) ?_
  refine lv_if_lt (tgt := 19) X.1 X.2.1 dX4_bucketAt_1 (by decide) (fun c1 => ?_) (fun c1 => ?_)
  · rw [if_pos c1] at hf
    refine q_null X dX4_bucketAt_19 ?_
    obtain rfl := Option.some.inj hf
    exact q_aret X M hS (by omega) (by omega) dX4_bucketAt_20
  · rw [if_neg c1] at hf
    refine lv_iload_n X.1 X.2.1 dX4_bucketAt_4 rfl (lv_at hl 1 rfl) ?_
    refine lv_bipush (v := 8) X.1 X.2.1 dX4_bucketAt_5 (by decide) ?_
    refine lv_icmp_ge (tgt := 19) X.1 X.2.1 dX4_bucketAt_7 (by decide) (fun c2 => ?_) (fun c2 => ?_)
    · rw [if_pos c2] at hf
      refine q_null X dX4_bucketAt_19 ?_
      obtain rfl := Option.some.inj hf
      exact q_aret X M hS (by omega) (by omega) dX4_bucketAt_20
    · rw [if_neg c2] at hf
      refine q_aload_n X dX4_bucketAt_10 rfl (lv_at hl 0 rfl) ?_
      have ho := gR_e hf
      clear hf
      obtain ⟨a3, v4, e5, k6, q7, hf⟩ := ho
      cases e5
      refine q_get X M flX4_22.g k6 (congrArg va_rf q7) dX4_bucketAt_11 ?_
      refine lv_iload_n X.1 X.2.1 dX4_bucketAt_14 rfl (lv_at hl 1 rfl) ?_
      have ho := aR_e hf
      clear hf
      obtain ⟨a8, v9, e10, k11, i12, q13, hf⟩ := ho
      cases e10
      refine q_aald X M (Or.inl ⟨rfl, rfl, rfl⟩) k11 i12 dX4_bucketAt_15 ?_
      rw [q13]
      refine lv_goto (tgt := 20) X.1 X.2.1 dX4_bucketAt_16 (by decide) ?_
      obtain rfl := Option.some.inj hf
      exact q_aret X M hS (by omega) (by omega) dX4_bucketAt_20
theorem m_X4_bucketAt {l : Launch} {D : va_G} {aC : Nat → ClassId} {b0 : Nat} {w : Wd} (o : Nat) (x1 : Int32) (v : (Option Nat)) (w' : Wd) (hf : f_X4_bucketAt o x1 w = some (v, w')) : Ct l D aC b0 yX4_bucketAt (Cond.code yX4_bucketAt cX4_bucketAt 2 (some (.object "OnceCalls$Bucket")) :: Gw) rX4_bucketAt [va_rf (some o), .int x1] w (some (va_rf v)) w' :=
  q_met (by decide) (Nat.le_of_ble_eq_true rfl) (fun p e s m below meth c X M ls hl => e_X4_bucketAt X (res := (v, w')) o x1 w s.heap [] 0 0 ls hf M va_S.rf (by decide) (by decide) hl)
abbrev rX0_removeRecord : Room := { frames := 0, cells := 0, slots := 0, locals := 0 }
def f_X0_removeRecord_17 : Nat → Nat → Int32 → Wd → Option (Unit × Wd)
  | 0, _, _, _ => none
  | n + 1, o, x2, w => gI w (some o) 1 3 (fun v9 => if v9 ≤ x2 then (gI w (some o) 1 3 (fun v15 => pI w (some o) 1 3 (v15 - 1) (fun w20 => some ((), w20)))) else (gR w (some o) 1 5 (fun v25 => gR w (some o) 1 5 (fun v30 => aI w v30 100 x2 (fun v35 => tI w v25 100 (x2 - 1) v35 (fun w41 => gR w41 (some o) 1 6 (fun v47 => gR w41 (some o) 1 6 (fun v52 => aI w41 v52 100 x2 (fun v57 => tI w41 v47 100 (x2 - 1) v57 (fun w63 => gR w63 (some o) 1 7 (fun v69 => gR w63 (some o) 1 7 (fun v74 => aI w63 v74 100 x2 (fun v79 => tI w63 v69 100 (x2 - 1) v79 (fun w85 => gR w85 (some o) 1 8 (fun v91 => gR w85 (some o) 1 8 (fun v96 => aL w85 v96 101 x2 (fun v101 => tL w85 v91 101 (x2 - 1) v101 (fun w107 => (f_X0_removeRecord_17 n) o (x2 + 1) w107))))))))))))))))))
set_option maxHeartbeats 4000000 in
set_option maxRecDepth 100000 in
theorem b_X0_removeRecord_17 {l : Launch} {D : va_G} {aC : Nat → ClassId} {b0 : Nat} {p : Program} {e : Env} {s : State} {m : MethodId} {args : Array Value} {below : List Frame} {meth : Method} {c : Code} (X : Cx D aC p s m args meth c cX0_removeRecord RX0 3 "removeRecord" none) {res : (Unit × Wd)} : ∀ (n : Nat) (o : Nat) (x2 : Int32) (w : Wd), BW l D aC b0 p e rX0_removeRecord s m args below meth c (Qe D aC b0 below args s 0 0 none res.2) res 0 0 0 0 (f_X0_removeRecord_17 n o x2 w) w 17 3 [(0, va_rf (some o)), (2, .int x2)] [] := by
  intro n
  induction n with
  | zero =>
    intro o x2 w H locs cells slots ls hf
    rw [f_X0_removeRecord_17.eq_1] at hf
    cases hf
  | succ n ih =>
    intro o x2 w H locs cells slots ls hf M hS hc hs hl
    rw [f_X0_removeRecord_17.eq_2] at hf
    refine lv_iload_n X.1 X.2.1 dX0_removeRecord_17 rfl (lv_at hl 1 rfl) ?_
    refine q_aload_n X dX0_removeRecord_18 rfl (lv_at hl 0 rfl) ?_
    have ho := gI_e hf
    clear hf
    obtain ⟨a8, v9, e10, k11, q12, hf⟩ := ho
    cases e10
    refine q_get X M flX0_44.g k11 (congrArg Value.int q12) dX0_removeRecord_19 ?_
    refine lv_icmp_ge (tgt := 87) X.1 X.2.1 dX0_removeRecord_22 (by decide) (fun c13 => ?_) (fun c13 => ?_)
    · rw [if_pos c13] at hf
      refine q_aload_n X dX0_removeRecord_87 rfl (lv_at hl 0 rfl) ?_
      refine lv_dup X.1 X.2.1 dX0_removeRecord_88 rfl ?_
      have ho := gI_e hf
      clear hf
      obtain ⟨a14, v15, e16, k17, q18, hf⟩ := ho
      cases e16
      refine q_get X M flX0_44.g k17 (congrArg Value.int q18) dX0_removeRecord_89 ?_
      refine lv_iconst (v := 1) X.1 X.2.1 dX0_removeRecord_92 (by decide) ?_
      refine lv_isub X.1 X.2.1 dX0_removeRecord_93 ?_
      have ho := pI_e hf
      clear hf
      obtain ⟨a19, w20, e21, k22, q23, hf⟩ := ho
      cases e21
      refine q_putI X M hS flX0_44 (Or.inl rfl) k22 dX0_removeRecord_94 (fun H locs M hS => ?_)
      rw [q23] at M
      obtain rfl := Option.some.inj hf
      exact q_vret X M hS (by omega) (by omega) dX0_removeRecord_97
    · rw [if_neg c13] at hf
      refine q_aload_n X dX0_removeRecord_25 rfl (lv_at hl 0 rfl) ?_
      have ho := gR_e hf
      clear hf
      obtain ⟨a24, v25, e26, k27, q28, hf⟩ := ho
      cases e26
      refine q_get X M flX0_15.g k27 (congrArg va_rf q28) dX0_removeRecord_26 ?_
      refine lv_iload_n X.1 X.2.1 dX0_removeRecord_29 rfl (lv_at hl 1 rfl) ?_
      refine lv_iconst (v := 1) X.1 X.2.1 dX0_removeRecord_30 (by decide) ?_
      refine lv_isub X.1 X.2.1 dX0_removeRecord_31 ?_
      refine q_aload_n X dX0_removeRecord_32 rfl (lv_at hl 0 rfl) ?_
      have ho := gR_e hf
      clear hf
      obtain ⟨a29, v30, e31, k32, q33, hf⟩ := ho
      cases e31
      refine q_get X M flX0_15.g k32 (congrArg va_rf q33) dX0_removeRecord_33 ?_
      refine lv_iload_n X.1 X.2.1 dX0_removeRecord_36 rfl (lv_at hl 1 rfl) ?_
      have ho := aI_e hf
      clear hf
      obtain ⟨a34, v35, e36, k37, i38, q39, hf⟩ := ho
      cases e36
      refine q_iald X M k37 i38 dX0_removeRecord_37 ?_
      rw [q39]
      have ho := tI_e hf
      clear hf
      obtain ⟨a40, w41, e42, k43, i44, q45, hf⟩ := ho
      cases e42
      refine q_iast X M hS k43 i44 dX0_removeRecord_38 (fun H locs M hS => ?_)
      rw [q45] at M
      refine q_aload_n X dX0_removeRecord_39 rfl (lv_at hl 0 rfl) ?_
      have ho := gR_e hf
      clear hf
      obtain ⟨a46, v47, e48, k49, q50, hf⟩ := ho
      cases e48
      refine q_get X M flX0_19.g k49 (congrArg va_rf q50) dX0_removeRecord_40 ?_
      refine lv_iload_n X.1 X.2.1 dX0_removeRecord_43 rfl (lv_at hl 1 rfl) ?_
      refine lv_iconst (v := 1) X.1 X.2.1 dX0_removeRecord_44 (by decide) ?_
      refine lv_isub X.1 X.2.1 dX0_removeRecord_45 ?_
      refine q_aload_n X dX0_removeRecord_46 rfl (lv_at hl 0 rfl) ?_
      have ho := gR_e hf
      clear hf
      obtain ⟨a51, v52, e53, k54, q55, hf⟩ := ho
      cases e53
      refine q_get X M flX0_19.g k54 (congrArg va_rf q55) dX0_removeRecord_47 ?_
      refine lv_iload_n X.1 X.2.1 dX0_removeRecord_50 rfl (lv_at hl 1 rfl) ?_
      have ho := aI_e hf
      clear hf
      obtain ⟨a56, v57, e58, k59, i60, q61, hf⟩ := ho
      cases e58
      refine q_iald X M k59 i60 dX0_removeRecord_51 ?_
      rw [q61]
      have ho := tI_e hf
      clear hf
      obtain ⟨a62, w63, e64, k65, i66, q67, hf⟩ := ho
      cases e64
      refine q_iast X M hS k65 i66 dX0_removeRecord_52 (fun H locs M hS => ?_)
      rw [q67] at M
      refine q_aload_n X dX0_removeRecord_53 rfl (lv_at hl 0 rfl) ?_
      have ho := gR_e hf
      clear hf
      obtain ⟨a68, v69, e70, k71, q72, hf⟩ := ho
      cases e70
      refine q_get X M flX0_22.g k71 (congrArg va_rf q72) dX0_removeRecord_54 ?_
      refine lv_iload_n X.1 X.2.1 dX0_removeRecord_57 rfl (lv_at hl 1 rfl) ?_
      refine lv_iconst (v := 1) X.1 X.2.1 dX0_removeRecord_58 (by decide) ?_
      refine lv_isub X.1 X.2.1 dX0_removeRecord_59 ?_
      refine q_aload_n X dX0_removeRecord_60 rfl (lv_at hl 0 rfl) ?_
      have ho := gR_e hf
      clear hf
      obtain ⟨a73, v74, e75, k76, q77, hf⟩ := ho
      cases e75
      refine q_get X M flX0_22.g k76 (congrArg va_rf q77) dX0_removeRecord_61 ?_
      refine lv_iload_n X.1 X.2.1 dX0_removeRecord_64 rfl (lv_at hl 1 rfl) ?_
      have ho := aI_e hf
      clear hf
      obtain ⟨a78, v79, e80, k81, i82, q83, hf⟩ := ho
      cases e80
      refine q_iald X M k81 i82 dX0_removeRecord_65 ?_
      rw [q83]
      have ho := tI_e hf
      clear hf
      obtain ⟨a84, w85, e86, k87, i88, q89, hf⟩ := ho
      cases e86
      refine q_iast X M hS k87 i88 dX0_removeRecord_66 (fun H locs M hS => ?_)
      rw [q89] at M
      refine q_aload_n X dX0_removeRecord_67 rfl (lv_at hl 0 rfl) ?_
      have ho := gR_e hf
      clear hf
      obtain ⟨a90, v91, e92, k93, q94, hf⟩ := ho
      cases e92
      refine q_get X M flX0_25.g k93 (congrArg va_rf q94) dX0_removeRecord_68 ?_
      refine lv_iload_n X.1 X.2.1 dX0_removeRecord_71 rfl (lv_at hl 1 rfl) ?_
      refine lv_iconst (v := 1) X.1 X.2.1 dX0_removeRecord_72 (by decide) ?_
      refine lv_isub X.1 X.2.1 dX0_removeRecord_73 ?_
      refine q_aload_n X dX0_removeRecord_74 rfl (lv_at hl 0 rfl) ?_
      have ho := gR_e hf
      clear hf
      obtain ⟨a95, v96, e97, k98, q99, hf⟩ := ho
      cases e97
      refine q_get X M flX0_25.g k98 (congrArg va_rf q99) dX0_removeRecord_75 ?_
      refine lv_iload_n X.1 X.2.1 dX0_removeRecord_78 rfl (lv_at hl 1 rfl) ?_
      have ho := aL_e hf
      clear hf
      obtain ⟨a100, v101, e102, k103, i104, q105, hf⟩ := ho
      cases e102
      refine q_lald X M k103 i104 dX0_removeRecord_79 ?_
      rw [q105]
      have ho := tL_e hf
      clear hf
      obtain ⟨a106, w107, e108, k109, i110, q111, hf⟩ := ho
      cases e108
      refine q_last X M hS k109 i110 dX0_removeRecord_80 (fun H locs M hS => ?_)
      rw [q111] at M
      refine lv_iinc (v := (x2 + 1)) (lv' := [(2, .int (x2 + 1)), (0, va_rf (some o))]) X.1 X.2.1 dX0_removeRecord_81 hl (k := 1) rfl rfl (by decide) rfl (fun ls hl => ?_)
      refine lv_goto (tgt := 17) X.1 X.2.1 dX0_removeRecord_84 (by decide) ?_
      exact ih o (x2 + 1) w107 _ _ _ _ _ hf M hS (by omega) (by omega) (lv_sub hl [1, 0] rfl)
def f_X0_removeRecord (o : Nat) (x1 : Int32) (w : Wd) : Option (Unit × Wd) := if x1 < 0 then (some ((), w)) else (gI w (some o) 1 3 (fun v3 => if x1 < v3 then ((f_X0_removeRecord_17 FU) o (x1 + 1) w) else (some ((), w))))
set_option maxHeartbeats 4000000 in
set_option maxRecDepth 100000 in
theorem e_X0_removeRecord {l : Launch} {D : va_G} {aC : Nat → ClassId} {b0 : Nat} {p : Program} {e : Env} {s : State} {m : MethodId} {args : Array Value} {below : List Frame} {meth : Method} {c : Code} (X : Cx D aC p s m args meth c cX0_removeRecord RX0 3 "removeRecord" none) {res : (Unit × Wd)} (o : Nat) (x1 : Int32) (w : Wd) : BW l D aC b0 p e rX0_removeRecord s m args below meth c (Qe D aC b0 below args s 0 0 none res.2) res 0 0 0 0 (f_X0_removeRecord o x1 w) w 0 3 [(0, va_rf (some o)), (1, .int x1)] [] := by
  intro H locs cells slots ls hf M hS hc hs hl
  unfold f_X0_removeRecord at hf
  refine lv_iload_n X.1 X.2.1 dX0_removeRecord_0 rfl (lv_at hl 1 rfl) ?_
  refine lv_if_lt (tgt := 12) X.1 X.2.1 dX0_removeRecord_1 (by decide) (fun c1 => ?_) (fun c1 => ?_)
  · rw [if_pos c1] at hf
    obtain rfl := Option.some.inj hf
    exact q_vret X M hS (by omega) (by omega) dX0_removeRecord_12
  · rw [if_neg c1] at hf
    refine lv_iload_n X.1 X.2.1 dX0_removeRecord_4 rfl (lv_at hl 1 rfl) ?_
    refine q_aload_n X dX0_removeRecord_5 rfl (lv_at hl 0 rfl) ?_
    have ho := gI_e hf
    clear hf
    obtain ⟨a2, v3, e4, k5, q6, hf⟩ := ho
    cases e4
    refine q_get X M flX0_44.g k5 (congrArg Value.int q6) dX0_removeRecord_6 ?_
    refine lv_icmp_lt (tgt := 13) X.1 X.2.1 dX0_removeRecord_9 (by decide) (fun c7 => ?_) (fun c7 => ?_)
    · rw [if_pos c7] at hf
      refine lv_iload_n X.1 X.2.1 dX0_removeRecord_13 rfl (lv_at hl 1 rfl) ?_
      refine lv_iconst (v := 1) X.1 X.2.1 dX0_removeRecord_14 (by decide) ?_
      refine lv_iadd X.1 X.2.1 dX0_removeRecord_15 ?_
      refine lv_istore_n (i := 2) (lv' := [(2, .int (x1 + 1)), (0, va_rf (some o)), (1, .int x1)]) X.1 X.2.1 dX0_removeRecord_16 rfl hl (by decide) rfl (fun ls hl => ?_)
      exact (b_X0_removeRecord_17 X FU) o (x1 + 1) w _ _ _ _ _ hf M hS (by omega) (by omega) (lv_sub hl [1, 0] rfl)
    · rw [if_neg c7] at hf
      obtain rfl := Option.some.inj hf
      exact q_vret X M hS (by omega) (by omega) dX0_removeRecord_12
theorem m_X0_removeRecord {l : Launch} {D : va_G} {aC : Nat → ClassId} {b0 : Nat} {w : Wd} (o : Nat) (x1 : Int32) (v : Unit) (w' : Wd) (hf : f_X0_removeRecord o x1 w = some (v, w')) : Ct l D aC b0 yX0_removeRecord (Cond.code yX0_removeRecord cX0_removeRecord 3 none :: Gw) rX0_removeRecord [va_rf (some o), .int x1] w none w' :=
  q_met (by decide) (Nat.le_of_ble_eq_true rfl) (fun p e s m below meth c X M ls hl => e_X0_removeRecord X (res := (v, w')) o x1 w s.heap [] 0 0 ls hf M va_S.rf (by decide) (by decide) hl)
