abbrev rX0_removeRecordsBelow : Room := { frames := 1, cells := 0, slots := 0, locals := 22 }
def f_X0_removeRecordsBelow_36 (K7 : Nat → Int32 → Int32 → Int32 → Wd → Option (Unit × Wd)) (o : Nat) (x1 : Int32) (x2 : Int32) (x3 : Int32) (w : Wd) : Option (Unit × Wd) := K7 o x1 x2 (x3 + (-1)) w
set_option maxHeartbeats 4000000 in
set_option maxRecDepth 100000 in
theorem b_X0_removeRecordsBelow_36 {l : Launch} {D : va_G} {aC : Nat → ClassId} {b0 : Nat} {p : Program} {e : Env} {s : State} {m : MethodId} {args : Array Value} {below : List Frame} {meth : Method} {c : Code} (X : Cx D aC p s m args meth c cX0_removeRecordsBelow RX0 4 "removeRecordsBelow" none) {res : (Unit × Wd)} {K7 : Nat → Int32 → Int32 → Int32 → Wd → Option (Unit × Wd)} (hK7 : ∀ (o : Nat) (x1 : Int32) (x2 : Int32) (x3 : Int32) (w : Wd), BW l D aC b0 p e rX0_removeRecordsBelow s m args below meth c (Qe D aC b0 below args s 0 0 none res.2) res 0 0 0 0 (K7 o x1 x2 x3 w) w 7 4 [(0, va_rf (some o)), (1, .int x1), (2, .int x2), (3, .int x3)] []) : ∀ (o : Nat) (x1 : Int32) (x2 : Int32) (x3 : Int32) (w : Wd), BW l D aC b0 p e rX0_removeRecordsBelow s m args below meth c (Qe D aC b0 below args s 0 0 none res.2) res 0 0 0 0 (f_X0_removeRecordsBelow_36 K7 o x1 x2 x3 w) w 36 4 [(0, va_rf (some o)), (1, .int x1), (2, .int x2), (3, .int x3)] [] := by
  intro o x1 x2 x3 w H locs cells slots ls hf M hS hc hs hl
  unfold f_X0_removeRecordsBelow_36 at hf
  refine lv_iinc (v := (x3 + (-1))) (lv' := [(3, .int (x3 + (-1))), (0, va_rf (some o)), (1, .int x1), (2, .int x2)]) X.1 X.2.1 dX0_removeRecordsBelow_36 hl (k := 3) rfl rfl (by decide) rfl (fun ls hl => ?_)
  refine lv_goto (tgt := 7) X.1 X.2.1 dX0_removeRecordsBelow_39 (by decide) ?_
  exact hK7 o x1 x2 (x3 + (-1)) w _ _ _ _ _ hf M hS (by omega) (by omega) (lv_sub hl [1, 2, 3, 0] rfl)
def f_X0_removeRecordsBelow_7 : Nat → Nat → Int32 → Int32 → Int32 → Wd → Option (Unit × Wd)
  | 0, _, _, _, _, _ => none
  | n + 1, o, x1, x2, x3, w => if x3 < 0 then (some ((), w)) else (gR w (some o) 1 5 (fun v8 => aI w v8 100 x3 (fun v13 => if v13 = x1 then (gR w (some o) 1 7 (fun v20 => aI w v20 100 x3 (fun v25 => if x2 ≤ v25 then ((f_X0_removeRecordsBelow_36 (f_X0_removeRecordsBelow_7 n)) o x1 x2 x3 w) else (chk w (some o) 1 (fun a34 => bnd (f_X0_removeRecord a34 x3 w) (fun v31 w32 => (f_X0_removeRecordsBelow_36 (f_X0_removeRecordsBelow_7 n)) o x1 x2 x3 w32)))))) else ((f_X0_removeRecordsBelow_36 (f_X0_removeRecordsBelow_7 n)) o x1 x2 x3 w))))
set_option maxHeartbeats 4000000 in
set_option maxRecDepth 100000 in
theorem b_X0_removeRecordsBelow_7 {l : Launch} {D : va_G} {aC : Nat → ClassId} {b0 : Nat} {p : Program} {e : Env} {s : State} {m : MethodId} {args : Array Value} {below : List Frame} {meth : Method} {c : Code} (X : Cx D aC p s m args meth c cX0_removeRecordsBelow RX0 4 "removeRecordsBelow" none) {res : (Unit × Wd)} : ∀ (n : Nat) (o : Nat) (x1 : Int32) (x2 : Int32) (x3 : Int32) (w : Wd), BW l D aC b0 p e rX0_removeRecordsBelow s m args below meth c (Qe D aC b0 below args s 0 0 none res.2) res 0 0 0 0 (f_X0_removeRecordsBelow_7 n o x1 x2 x3 w) w 7 4 [(0, va_rf (some o)), (1, .int x1), (2, .int x2), (3, .int x3)] [] := by
  intro n
  induction n with
  | zero =>
    intro o x1 x2 x3 w H locs cells slots ls hf
    rw [f_X0_removeRecordsBelow_7.eq_1] at hf
    cases hf
  | succ n ih =>
    intro o x1 x2 x3 w H locs cells slots ls hf M hS hc hs hl
    rw [f_X0_removeRecordsBelow_7.eq_2] at hf
    refine lv_iload_n X.1 X.2.1 dX0_removeRecordsBelow_7 rfl (lv_at hl 3 rfl) ?_
    refine lv_if_lt (tgt := 42) X.1 X.2.1 dX0_removeRecordsBelow_8 (by decide) (fun c6 => ?_) (fun c6 => ?_)
    · rw [if_pos c6] at hf
      obtain rfl := Option.some.inj hf
      exact q_vret X M hS (by omega) (by omega) dX0_removeRecordsBelow_42
    · rw [if_neg c6] at hf
      refine q_aload_n X dX0_removeRecordsBelow_11 rfl (lv_at hl 0 rfl) ?_
      have ho := gR_e hf
      clear hf
      obtain ⟨a7, v8, e9, k10, q11, hf⟩ := ho
      cases e9
      refine q_get X M flX0_15.g k10 (congrArg va_rf q11) dX0_removeRecordsBelow_12 ?_
      refine lv_iload_n X.1 X.2.1 dX0_removeRecordsBelow_15 rfl (lv_at hl 3 rfl) ?_
      have ho := aI_e hf
      clear hf
      obtain ⟨a12, v13, e14, k15, i16, q17, hf⟩ := ho
      cases e14
      refine q_iald X M k15 i16 dX0_removeRecordsBelow_16 ?_
      rw [q17]
      refine lv_iload_n X.1 X.2.1 dX0_removeRecordsBelow_17 rfl (lv_at hl 1 rfl) ?_
      refine lv_icmp_ne (tgt := 36) X.1 X.2.1 dX0_removeRecordsBelow_18 (by decide) (fun c18 => ?_) (fun c18 => ?_)
      · rw [if_neg c18] at hf
        exact (b_X0_removeRecordsBelow_36 X ih) o x1 x2 x3 w _ _ _ _ _ hf M hS (by omega) (by omega) (lv_sub hl [0, 1, 2, 3] rfl)
      · rw [if_pos c18] at hf
        refine q_aload_n X dX0_removeRecordsBelow_21 rfl (lv_at hl 0 rfl) ?_
        have ho := gR_e hf
        clear hf
        obtain ⟨a19, v20, e21, k22, q23, hf⟩ := ho
        cases e21
        refine q_get X M flX0_22.g k22 (congrArg va_rf q23) dX0_removeRecordsBelow_22 ?_
        refine lv_iload_n X.1 X.2.1 dX0_removeRecordsBelow_25 rfl (lv_at hl 3 rfl) ?_
        have ho := aI_e hf
        clear hf
        obtain ⟨a24, v25, e26, k27, i28, q29, hf⟩ := ho
        cases e26
        refine q_iald X M k27 i28 dX0_removeRecordsBelow_26 ?_
        rw [q29]
        refine lv_iload_n X.1 X.2.1 dX0_removeRecordsBelow_27 rfl (lv_at hl 2 rfl) ?_
        refine lv_icmp_ge (tgt := 36) X.1 X.2.1 dX0_removeRecordsBelow_28 (by decide) (fun c30 => ?_) (fun c30 => ?_)
        · rw [if_pos c30] at hf
          exact (b_X0_removeRecordsBelow_36 X ih) o x1 x2 x3 w _ _ _ _ _ hf M hS (by omega) (by omega) (lv_sub hl [0, 1, 2, 3] rfl)
        · rw [if_neg c30] at hf
          refine q_aload_n X dX0_removeRecordsBelow_31 rfl (lv_at hl 0 rfl) ?_
          refine lv_iload_n X.1 X.2.1 dX0_removeRecordsBelow_32 rfl (lv_at hl 3 rfl) ?_
          have ho := chk_e hf
          clear hf
          obtain ⟨a34, e35, k36, hf⟩ := ho
          cases e35
          have ho := bnd_e hf
          clear hf
          obtain ⟨v31, w32, q33, hf⟩ := ho
          refine q_cV X M hS hl.1 (ci := 0) (r := (RX0, TX0, 11)) (As := [.int x3]) (m_X0_removeRecord o x3 _ _ q33) mlX0_80 gm_378 gm_379 rfl (by decide) k36 rfl ⟨(Nat.le_of_ble_eq_true rfl), (Nat.le_of_ble_eq_true rfl)⟩ (rest := []) rfl (Nat.le_of_ble_eq_true rfl) (mc := 0) (ms := 0) (MC := 0) (MS := 0) rfl rfl rfl rfl (by omega) (by omega) dX0_removeRecordsBelow_33 (st2 := []) rfl (fun H locs M hS => ?_)
          exact (b_X0_removeRecordsBelow_36 X ih) o x1 x2 x3 w32 _ _ _ _ _ hf M hS (by omega) (by omega) (lv_sub hl [0, 1, 2, 3] rfl)
def f_X0_removeRecordsBelow (o : Nat) (x1 : Int32) (x2 : Int32) (w : Wd) : Option (Unit × Wd) := gI w (some o) 1 3 (fun v2 => (f_X0_removeRecordsBelow_7 FU) o x1 x2 (v2 - 1) w)
set_option maxHeartbeats 4000000 in
set_option maxRecDepth 100000 in
theorem e_X0_removeRecordsBelow {l : Launch} {D : va_G} {aC : Nat → ClassId} {b0 : Nat} {p : Program} {e : Env} {s : State} {m : MethodId} {args : Array Value} {below : List Frame} {meth : Method} {c : Code} (X : Cx D aC p s m args meth c cX0_removeRecordsBelow RX0 4 "removeRecordsBelow" none) {res : (Unit × Wd)} (o : Nat) (x1 : Int32) (x2 : Int32) (w : Wd) : BW l D aC b0 p e rX0_removeRecordsBelow s m args below meth c (Qe D aC b0 below args s 0 0 none res.2) res 0 0 0 0 (f_X0_removeRecordsBelow o x1 x2 w) w 0 4 [(0, va_rf (some o)), (1, .int x1), (2, .int x2)] [] := by
  intro H locs cells slots ls hf M hS hc hs hl
  unfold f_X0_removeRecordsBelow at hf
  refine q_aload_n X dX0_removeRecordsBelow_0 rfl (lv_at hl 0 rfl) ?_
  have ho := gI_e hf
  clear hf
  obtain ⟨a1, v2, e3, k4, q5, hf⟩ := ho
  cases e3
  refine q_get X M flX0_44.g k4 (congrArg Value.int q5) dX0_removeRecordsBelow_1 ?_
  refine lv_iconst (v := 1) X.1 X.2.1 dX0_removeRecordsBelow_4 (by decide) ?_
  refine lv_isub X.1 X.2.1 dX0_removeRecordsBelow_5 ?_
  refine lv_istore_n (i := 3) (lv' := [(3, .int (v2 - 1)), (0, va_rf (some o)), (1, .int x1), (2, .int x2)]) X.1 X.2.1 dX0_removeRecordsBelow_6 rfl hl (by decide) rfl (fun ls hl => ?_)
  exact (b_X0_removeRecordsBelow_7 X FU) o x1 x2 (v2 - 1) w _ _ _ _ _ hf M hS (by omega) (by omega) (lv_sub hl [1, 2, 3, 0] rfl)
theorem m_X0_removeRecordsBelow {l : Launch} {D : va_G} {aC : Nat → ClassId} {b0 : Nat} {w : Wd} (o : Nat) (x1 : Int32) (x2 : Int32) (v : Unit) (w' : Wd) (hf : f_X0_removeRecordsBelow o x1 x2 w = some (v, w')) : Ct l D aC b0 yX0_removeRecordsBelow (Cond.code yX0_removeRecordsBelow cX0_removeRecordsBelow 4 none :: Gw) rX0_removeRecordsBelow [va_rf (some o), .int x1, .int x2] w none w' :=
  q_met (by decide) (Nat.le_of_ble_eq_true rfl) (fun p e s m below meth c X M ls hl => e_X0_removeRecordsBelow X (res := (v, w')) o x1 x2 w s.heap [] 0 0 ls hf M va_S.rf (by decide) (by decide) hl)
abbrev rX0_know : Room := { frames := 2, cells := 0, slots := 0, locals := 45 }
def f_X0_know (o : Nat) (x1 : Option Nat) (w : Wd) : Option (Int32 × Wd) := gI w x1 3 2 (fun v2 => if v2 < 0 then (retZ 0 w) else (if v2 < 6 then (gI w x1 3 3 (fun v10 => gR w (some o) 1 9 (fun v15 => aI w v15 100 v2 (fun v20 => if v10 ≤ v20 then (gI w x1 3 3 (fun v27 => gR w (some o) 1 9 (fun v32 => aI w v32 100 v2 (fun v37 => if v27 = v37 then (gI w x1 3 6 (fun v45 => gR w (some o) 1 10 (fun v50 => aI w v50 100 v2 (fun v55 => if v45 ≤ v55 then (retZ 0 w) else (gI w x1 3 6 (fun v63 => chk w (some o) 1 (fun a70 => bnd (f_X0_removeRecordsBelow a70 v2 v63 w) (fun v67 w68 => gR w68 (some o) 1 10 (fun v74 => gI w68 x1 3 6 (fun v79 => tI w68 v74 100 v2 v79 (fun w84 => retZ 1 w84))))))))))) else (retZ 0 w))))) else (chk w (some o) 1 (fun a93 => bnd (f_X0_removeRecordsBelow a93 v2 2147483647 w) (fun v90 w91 => gR w91 (some o) 1 9 (fun v97 => gI w91 x1 3 3 (fun v102 => tI w91 v97 100 v2 v102 (fun w107 => gR w107 (some o) 1 10 (fun v113 => gI w107 x1 3 6 (fun v118 => tI w107 v113 100 v2 v118 (fun w123 => retZ 1 w123))))))))))))) else (retZ 0 w)))
set_option maxHeartbeats 4000000 in
set_option maxRecDepth 100000 in
theorem e_X0_know {l : Launch} {D : va_G} {aC : Nat → ClassId} {b0 : Nat} {p : Program} {e : Env} {s : State} {m : MethodId} {args : Array Value} {below : List Frame} {meth : Method} {c : Code} (X : Cx D aC p s m args meth c cX0_know RX0 3 "know" (some .boolean)) {res : (Int32 × Wd)} (o : Nat) (x1 : Option Nat) (w : Wd) : BW l D aC b0 p e rX0_know s m args below meth c (Qe D aC b0 below args s 0 0 (some (.int res.1)) res.2) res 0 0 0 0 (f_X0_know o x1 w) w 0 3 [(0, va_rf (some o)), (1, va_rf x1)] [] := by
  intro H locs cells slots ls hf M hS hc hs hl
  unfold f_X0_know at hf
  refine q_aload_n X dX0_know_0 rfl (lv_at hl 1 rfl) ?_
  have ho := gI_e hf
  clear hf
  obtain ⟨a1, v2, e3, k4, q5, hf⟩ := ho
  cases e3
  refine q_get X M flX0_62 k4 (congrArg Value.int q5) dX0_know_1 ?_
  refine lv_istore_n (i := 2) (lv' := [(2, .int v2), (0, va_rf (some o)), (1, va_rf (some a1))]) X.1 X.2.1 dX0_know_4 rfl hl (by decide) rfl (fun ls hl => ?_)
  refine lv_iload_n X.1 X.2.1 dX0_know_5 rfl (lv_at hl 0 rfl) ?_
  refine lv_if_lt (tgt := 15) X.1 X.2.1 dX0_know_6 (by decide) (fun c6 => ?_) (fun c6 => ?_)
  · rw [if_pos c6] at hf
    refine lv_iconst (v := 0) X.1 X.2.1 dX0_know_15 (by decide) ?_
    have ho := retZ_e hf
    clear hf
    obtain ⟨z7, rfl⟩ := ho
    exact q_zret X M hS (by omega) (by omega) z7 dX0_know_16
  · rw [if_neg c6] at hf
    refine lv_iload_n X.1 X.2.1 dX0_know_9 rfl (lv_at hl 0 rfl) ?_
    refine lv_bipush (v := 6) X.1 X.2.1 dX0_know_10 (by decide) ?_
    refine lv_icmp_lt (tgt := 17) X.1 X.2.1 dX0_know_12 (by decide) (fun c8 => ?_) (fun c8 => ?_)
    · rw [if_pos c8] at hf
      refine q_aload_n X dX0_know_17 rfl (lv_at hl 2 rfl) ?_
      have ho := gI_e hf
      clear hf
      obtain ⟨a9, v10, e11, k12, q13, hf⟩ := ho
      cases e11
      refine q_get X M flX0_67.g k12 (congrArg Value.int q13) dX0_know_18 ?_
      refine q_aload_n X dX0_know_21 rfl (lv_at hl 1 rfl) ?_
      have ho := gR_e hf
      clear hf
      obtain ⟨a14, v15, e16, k17, q18, hf⟩ := ho
      cases e16
      refine q_get X M flX0_28.g k17 (congrArg va_rf q18) dX0_know_22 ?_
      refine lv_iload_n X.1 X.2.1 dX0_know_25 rfl (lv_at hl 0 rfl) ?_
      have ho := aI_e hf
      clear hf
      obtain ⟨a19, v20, e21, k22, i23, q24, hf⟩ := ho
      cases e21
      refine q_iald X M k22 i23 dX0_know_26 ?_
      rw [q24]
      refine lv_icmp_le (tgt := 59) X.1 X.2.1 dX0_know_27 (by decide) (fun c25 => ?_) (fun c25 => ?_)
      · rw [if_pos c25] at hf
        refine q_aload_n X dX0_know_59 rfl (lv_at hl 2 rfl) ?_
        have ho := gI_e hf
        clear hf
        obtain ⟨a26, v27, e28, k29, q30, hf⟩ := ho
        cases e28
        refine q_get X M flX0_67.g k29 (congrArg Value.int q30) dX0_know_60 ?_
        refine q_aload_n X dX0_know_63 rfl (lv_at hl 1 rfl) ?_
        have ho := gR_e hf
        clear hf
        obtain ⟨a31, v32, e33, k34, q35, hf⟩ := ho
        cases e33
        refine q_get X M flX0_28.g k34 (congrArg va_rf q35) dX0_know_64 ?_
        refine lv_iload_n X.1 X.2.1 dX0_know_67 rfl (lv_at hl 0 rfl) ?_
        have ho := aI_e hf
        clear hf
        obtain ⟨a36, v37, e38, k39, i40, q41, hf⟩ := ho
        cases e38
        refine q_iald X M k39 i40 dX0_know_68 ?_
        rw [q41]
        refine lv_icmp_ne (tgt := 106) X.1 X.2.1 dX0_know_69 (by decide) (fun c42 => ?_) (fun c42 => ?_)
        · rw [if_neg c42] at hf
          refine lv_iconst (v := 0) X.1 X.2.1 dX0_know_106 (by decide) ?_
          have ho := retZ_e hf
          clear hf
          obtain ⟨z43, rfl⟩ := ho
          exact q_zret X M hS (by omega) (by omega) z43 dX0_know_107
        · rw [if_pos c42] at hf
          refine q_aload_n X dX0_know_72 rfl (lv_at hl 2 rfl) ?_
          have ho := gI_e hf
          clear hf
          obtain ⟨a44, v45, e46, k47, q48, hf⟩ := ho
          cases e46
          refine q_get X M flX0_77.g k47 (congrArg Value.int q48) dX0_know_73 ?_
          refine q_aload_n X dX0_know_76 rfl (lv_at hl 1 rfl) ?_
          have ho := gR_e hf
          clear hf
          obtain ⟨a49, v50, e51, k52, q53, hf⟩ := ho
          cases e51
          refine q_get X M flX0_31.g k52 (congrArg va_rf q53) dX0_know_77 ?_
          refine lv_iload_n X.1 X.2.1 dX0_know_80 rfl (lv_at hl 0 rfl) ?_
          have ho := aI_e hf
          clear hf
          obtain ⟨a54, v55, e56, k57, i58, q59, hf⟩ := ho
          cases e56
          refine q_iald X M k57 i58 dX0_know_81 ?_
          rw [q59]
          refine lv_icmp_le (tgt := 106) X.1 X.2.1 dX0_know_82 (by decide) (fun c60 => ?_) (fun c60 => ?_)
          · rw [if_pos c60] at hf
            refine lv_iconst (v := 0) X.1 X.2.1 dX0_know_106 (by decide) ?_
            have ho := retZ_e hf
            clear hf
            obtain ⟨z61, rfl⟩ := ho
            exact q_zret X M hS (by omega) (by omega) z61 dX0_know_107
          · rw [if_neg c60] at hf
            refine q_aload_n X dX0_know_85 rfl (lv_at hl 1 rfl) ?_
            refine lv_iload_n X.1 X.2.1 dX0_know_86 rfl (lv_at hl 0 rfl) ?_
            refine q_aload_n X dX0_know_87 rfl (lv_at hl 2 rfl) ?_
            have ho := gI_e hf
            clear hf
            obtain ⟨a62, v63, e64, k65, q66, hf⟩ := ho
            cases e64
            refine q_get X M flX0_77.g k65 (congrArg Value.int q66) dX0_know_88 ?_
            have ho := chk_e hf
            clear hf
            obtain ⟨a70, e71, k72, hf⟩ := ho
            cases e71
            have ho := bnd_e hf
            clear hf
            obtain ⟨v67, w68, q69, hf⟩ := ho
            refine q_cV X M hS hl.1 (ci := 0) (r := (RX0, TX0, 11)) (As := [.int v2, .int v63]) (m_X0_removeRecordsBelow o v2 v63 _ _ q69) mlX0_73 gm_374 gm_375 rfl (by decide) k72 rfl ⟨(Nat.le_of_ble_eq_true rfl), (Nat.le_of_ble_eq_true rfl)⟩ (rest := []) rfl (Nat.le_of_ble_eq_true rfl) (mc := 0) (ms := 0) (MC := 0) (MS := 0) rfl rfl rfl rfl (by omega) (by omega) dX0_know_91 (st2 := []) rfl (fun H locs M hS => ?_)
            refine q_aload_n X dX0_know_94 rfl (lv_at hl 1 rfl) ?_
            have ho := gR_e hf
            clear hf
            obtain ⟨a73, v74, e75, k76, q77, hf⟩ := ho
            cases e75
            refine q_get X M flX0_31.g k76 (congrArg va_rf q77) dX0_know_95 ?_
            refine lv_iload_n X.1 X.2.1 dX0_know_98 rfl (lv_at hl 0 rfl) ?_
            refine q_aload_n X dX0_know_99 rfl (lv_at hl 2 rfl) ?_
            have ho := gI_e hf
            clear hf
            obtain ⟨a78, v79, e80, k81, q82, hf⟩ := ho
            cases e80
            refine q_get X M flX0_77.g k81 (congrArg Value.int q82) dX0_know_100 ?_
            have ho := tI_e hf
            clear hf
            obtain ⟨a83, w84, e85, k86, i87, q88, hf⟩ := ho
            cases e85
            refine q_iast X M hS k86 i87 dX0_know_103 (fun H locs M hS => ?_)
            rw [q88] at M
            refine lv_iconst (v := 1) X.1 X.2.1 dX0_know_104 (by decide) ?_
            have ho := retZ_e hf
            clear hf
            obtain ⟨z89, rfl⟩ := ho
            exact q_zret X M hS (by omega) (by omega) z89 dX0_know_105
      · rw [if_neg c25] at hf
        refine q_aload_n X dX0_know_30 rfl (lv_at hl 1 rfl) ?_
        refine lv_iload_n X.1 X.2.1 dX0_know_31 rfl (lv_at hl 0 rfl) ?_
        refine lv_ldc (v := 2147483647) X.1 X.2.1 X.2.2.2.1 (X.2.2.2.2.2.2.2.1 _ gm_371) dX0_know_32 ?_
        have ho := chk_e hf
        clear hf
        obtain ⟨a93, e94, k95, hf⟩ := ho
        cases e94
        have ho := bnd_e hf
        clear hf
        obtain ⟨v90, w91, q92, hf⟩ := ho
        refine q_cV X M hS hl.1 (ci := 0) (r := (RX0, TX0, 11)) (As := [.int v2, .int 2147483647]) (m_X0_removeRecordsBelow o v2 2147483647 _ _ q92) mlX0_73 gm_374 gm_375 rfl (by decide) k95 rfl ⟨(Nat.le_of_ble_eq_true rfl), (Nat.le_of_ble_eq_true rfl)⟩ (rest := []) rfl (Nat.le_of_ble_eq_true rfl) (mc := 0) (ms := 0) (MC := 0) (MS := 0) rfl rfl rfl rfl (by omega) (by omega) dX0_know_34 (st2 := []) rfl (fun H locs M hS => ?_)
        refine q_aload_n X dX0_know_37 rfl (lv_at hl 1 rfl) ?_
        have ho := gR_e hf
        clear hf
        obtain ⟨a96, v97, e98, k99, q100, hf⟩ := ho
        cases e98
        refine q_get X M flX0_28.g k99 (congrArg va_rf q100) dX0_know_38 ?_
        refine lv_iload_n X.1 X.2.1 dX0_know_41 rfl (lv_at hl 0 rfl) ?_
        refine q_aload_n X dX0_know_42 rfl (lv_at hl 2 rfl) ?_
        have ho := gI_e hf
        clear hf
        obtain ⟨a101, v102, e103, k104, q105, hf⟩ := ho
        cases e103
        refine q_get X M flX0_67.g k104 (congrArg Value.int q105) dX0_know_43 ?_
        have ho := tI_e hf
        clear hf
        obtain ⟨a106, w107, e108, k109, i110, q111, hf⟩ := ho
        cases e108
        refine q_iast X M hS k109 i110 dX0_know_46 (fun H locs M hS => ?_)
        rw [q111] at M
        refine q_aload_n X dX0_know_47 rfl (lv_at hl 1 rfl) ?_
        have ho := gR_e hf
        clear hf
        obtain ⟨a112, v113, e114, k115, q116, hf⟩ := ho
        cases e114
        refine q_get X M flX0_31.g k115 (congrArg va_rf q116) dX0_know_48 ?_
        refine lv_iload_n X.1 X.2.1 dX0_know_51 rfl (lv_at hl 0 rfl) ?_
        refine q_aload_n X dX0_know_52 rfl (lv_at hl 2 rfl) ?_
        have ho := gI_e hf
        clear hf
        obtain ⟨a117, v118, e119, k120, q121, hf⟩ := ho
        cases e119
        refine q_get X M flX0_77.g k120 (congrArg Value.int q121) dX0_know_53 ?_
        have ho := tI_e hf
        clear hf
        obtain ⟨a122, w123, e124, k125, i126, q127, hf⟩ := ho
        cases e124
        refine q_iast X M hS k125 i126 dX0_know_56 (fun H locs M hS => ?_)
        rw [q127] at M
        refine lv_iconst (v := 1) X.1 X.2.1 dX0_know_57 (by decide) ?_
        have ho := retZ_e hf
        clear hf
        obtain ⟨z128, rfl⟩ := ho
        exact q_zret X M hS (by omega) (by omega) z128 dX0_know_58
    · rw [if_neg c8] at hf
      refine lv_iconst (v := 0) X.1 X.2.1 dX0_know_15 (by decide) ?_
      have ho := retZ_e hf
      clear hf
      obtain ⟨z129, rfl⟩ := ho
      exact q_zret X M hS (by omega) (by omega) z129 dX0_know_16
theorem m_X0_know {l : Launch} {D : va_G} {aC : Nat → ClassId} {b0 : Nat} {w : Wd} (o : Nat) (x1 : Option Nat) (v : Int32) (w' : Wd) (hf : f_X0_know o x1 w = some (v, w')) : Ct l D aC b0 yX0_know (Cond.code yX0_know cX0_know 3 (some .boolean) :: Gw) rX0_know [va_rf (some o), va_rf x1] w (some (.int v)) w' :=
  q_met (by decide) (by simp [lg_sl, cat1, cati, catl]) (fun p e s m below meth c X M ls hl => e_X0_know X (res := (v, w')) o x1 w s.heap [] 0 0 ls hf M va_S.rf (by decide) (by decide) (by simpa [lv_args, cat1, cati, catl] using hl))
abbrev rX0_find : Room := { frames := 0, cells := 0, slots := 0, locals := 0 }
def f_X0_find_51 (K2 : Nat → Option Nat → Int32 → Wd → Option (Int32 × Wd)) (o : Nat) (x1 : Option Nat) (x2 : Int32) (w : Wd) : Option (Int32 × Wd) := K2 o x1 (x2 + 1) w
set_option maxHeartbeats 4000000 in
set_option maxRecDepth 100000 in
theorem b_X0_find_51 {l : Launch} {D : va_G} {aC : Nat → ClassId} {b0 : Nat} {p : Program} {e : Env} {s : State} {m : MethodId} {args : Array Value} {below : List Frame} {meth : Method} {c : Code} (X : Cx D aC p s m args meth c cX0_find RX0 3 "find" (some .int)) {res : (Int32 × Wd)} {K2 : Nat → Option Nat → Int32 → Wd → Option (Int32 × Wd)} (hK2 : ∀ (o : Nat) (x1 : Option Nat) (x2 : Int32) (w : Wd), BW l D aC b0 p e rX0_find s m args below meth c (Qe D aC b0 below args s 0 0 (some (.int res.1)) res.2) res 0 0 0 0 (K2 o x1 x2 w) w 2 3 [(0, va_rf (some o)), (1, va_rf x1), (2, .int x2)] []) : ∀ (o : Nat) (x1 : Option Nat) (x2 : Int32) (w : Wd), BW l D aC b0 p e rX0_find s m args below meth c (Qe D aC b0 below args s 0 0 (some (.int res.1)) res.2) res 0 0 0 0 (f_X0_find_51 K2 o x1 x2 w) w 51 3 [(0, va_rf (some o)), (1, va_rf x1), (2, .int x2)] [] := by
  intro o x1 x2 w H locs cells slots ls hf M hS hc hs hl
  unfold f_X0_find_51 at hf
  refine lv_iinc (v := (x2 + 1)) (lv' := [(2, .int (x2 + 1)), (0, va_rf (some o)), (1, va_rf x1)]) X.1 X.2.1 dX0_find_51 hl (k := 2) rfl rfl (by decide) (by simp [cat1, cati, catl]) (fun ls hl => ?_)
  refine lv_goto (tgt := 2) X.1 X.2.1 dX0_find_54 (by decide) ?_
  exact hK2 o x1 (x2 + 1) w _ _ _ _ _ hf M hS (by omega) (by omega) (lv_sub hl [1, 2, 0] rfl)
def f_X0_find_2 : Nat → Nat → Option Nat → Int32 → Wd → Option (Int32 × Wd)
  | 0, _, _, _, _ => none
  | n + 1, o, x1, x2, w => gI w (some o) 1 3 (fun v2 => if v2 ≤ x2 then (some ((-1), w)) else (gR w (some o) 1 5 (fun v8 => aI w v8 100 x2 (fun v13 => gI w x1 3 2 (fun v19 => if v13 = v19 then (gR w (some o) 1 6 (fun v25 => aI w v25 100 x2 (fun v30 => gI w x1 3 3 (fun v36 => if v30 = v36 then (gR w (some o) 1 7 (fun v42 => aI w v42 100 x2 (fun v47 => gI w x1 3 5 (fun v53 => if v47 = v53 then (some (x2, w)) else ((f_X0_find_51 (f_X0_find_2 n)) o x1 x2 w))))) else ((f_X0_find_51 (f_X0_find_2 n)) o x1 x2 w))))) else ((f_X0_find_51 (f_X0_find_2 n)) o x1 x2 w))))))
set_option maxHeartbeats 4000000 in
set_option maxRecDepth 100000 in
theorem b_X0_find_2 {l : Launch} {D : va_G} {aC : Nat → ClassId} {b0 : Nat} {p : Program} {e : Env} {s : State} {m : MethodId} {args : Array Value} {below : List Frame} {meth : Method} {c : Code} (X : Cx D aC p s m args meth c cX0_find RX0 3 "find" (some .int)) {res : (Int32 × Wd)} : ∀ (n : Nat) (o : Nat) (x1 : Option Nat) (x2 : Int32) (w : Wd), BW l D aC b0 p e rX0_find s m args below meth c (Qe D aC b0 below args s 0 0 (some (.int res.1)) res.2) res 0 0 0 0 (f_X0_find_2 n o x1 x2 w) w 2 3 [(0, va_rf (some o)), (1, va_rf x1), (2, .int x2)] [] := by
  intro n
  induction n with
  | zero =>
    intro o x1 x2 w H locs cells slots ls hf
    rw [f_X0_find_2.eq_1] at hf
    cases hf
  | succ n ih =>
    intro o x1 x2 w H locs cells slots ls hf M hS hc hs hl
    rw [f_X0_find_2.eq_2] at hf
    refine lv_iload_n X.1 X.2.1 dX0_find_2 rfl (lv_at hl 2 rfl) ?_
    refine q_aload_n X dX0_find_3 rfl (lv_at hl 0 rfl) ?_
    have ho := gI_e hf
    clear hf
    obtain ⟨a1, v2, e3, k4, q5, hf⟩ := ho
    cases e3
    refine q_get X M flX0_44.g k4 (congrArg Value.int q5) dX0_find_4 ?_
    refine lv_icmp_ge (tgt := 57) X.1 X.2.1 dX0_find_7 (by decide) (fun c6 => ?_) (fun c6 => ?_)
    · rw [if_pos c6] at hf
      refine lv_iconst (v := (-1)) X.1 X.2.1 dX0_find_57 (by decide) ?_
      obtain rfl := Option.some.inj hf
      exact q_iret X M hS (by omega) (by omega) dX0_find_58
    · rw [if_neg c6] at hf
      refine q_aload_n X dX0_find_10 rfl (lv_at hl 0 rfl) ?_
      have ho := gR_e hf
      clear hf
      obtain ⟨a7, v8, e9, k10, q11, hf⟩ := ho
      cases e9
      refine q_get X M flX0_15.g k10 (congrArg va_rf q11) dX0_find_11 ?_
      refine lv_iload_n X.1 X.2.1 dX0_find_14 rfl (lv_at hl 2 rfl) ?_
      have ho := aI_e hf
      clear hf
      obtain ⟨a12, v13, e14, k15, i16, q17, hf⟩ := ho
      cases e14
      refine q_iald X M k15 i16 dX0_find_15 ?_
      rw [q17]
      refine q_aload_n X dX0_find_16 rfl (lv_at hl 1 rfl) ?_
      have ho := gI_e hf
      clear hf
      obtain ⟨a18, v19, e20, k21, q22, hf⟩ := ho
      cases e20
      refine q_get X M flX0_62 k21 (congrArg Value.int q22) dX0_find_17 ?_
      refine lv_icmp_ne (tgt := 51) X.1 X.2.1 dX0_find_20 (by decide) (fun c23 => ?_) (fun c23 => ?_)
      · rw [if_neg c23] at hf
        exact (b_X0_find_51 X ih) o (some a18) x2 w _ _ _ _ _ hf M hS (by omega) (by omega) (lv_sub hl [0, 1, 2] rfl)
      · rw [if_pos c23] at hf
        refine q_aload_n X dX0_find_23 rfl (lv_at hl 0 rfl) ?_
        have ho := gR_e hf
        clear hf
        obtain ⟨a24, v25, e26, k27, q28, hf⟩ := ho
        cases e26
        refine q_get X M flX0_19.g k27 (congrArg va_rf q28) dX0_find_24 ?_
        refine lv_iload_n X.1 X.2.1 dX0_find_27 rfl (lv_at hl 2 rfl) ?_
        have ho := aI_e hf
        clear hf
        obtain ⟨a29, v30, e31, k32, i33, q34, hf⟩ := ho
        cases e31
        refine q_iald X M k32 i33 dX0_find_28 ?_
        rw [q34]
        refine q_aload_n X dX0_find_29 rfl (lv_at hl 1 rfl) ?_
        have ho := gI_e hf
        clear hf
        obtain ⟨a35, v36, e37, k38, q39, hf⟩ := ho
        cases e37
        refine q_get X M flX0_67.g k38 (congrArg Value.int q39) dX0_find_30 ?_
        refine lv_icmp_ne (tgt := 51) X.1 X.2.1 dX0_find_33 (by decide) (fun c40 => ?_) (fun c40 => ?_)
        · rw [if_neg c40] at hf
          exact (b_X0_find_51 X ih) o (some a18) x2 w _ _ _ _ _ hf M hS (by omega) (by omega) (lv_sub hl [0, 1, 2] rfl)
        · rw [if_pos c40] at hf
          refine q_aload_n X dX0_find_36 rfl (lv_at hl 0 rfl) ?_
          have ho := gR_e hf
          clear hf
          obtain ⟨a41, v42, e43, k44, q45, hf⟩ := ho
          cases e43
          refine q_get X M flX0_22.g k44 (congrArg va_rf q45) dX0_find_37 ?_
          refine lv_iload_n X.1 X.2.1 dX0_find_40 rfl (lv_at hl 2 rfl) ?_
          have ho := aI_e hf
          clear hf
          obtain ⟨a46, v47, e48, k49, i50, q51, hf⟩ := ho
          cases e48
          refine q_iald X M k49 i50 dX0_find_41 ?_
          rw [q51]
          refine q_aload_n X dX0_find_42 rfl (lv_at hl 1 rfl) ?_
          have ho := gI_e hf
          clear hf
          obtain ⟨a52, v53, e54, k55, q56, hf⟩ := ho
          cases e54
          refine q_get X M flX0_84.g k55 (congrArg Value.int q56) dX0_find_43 ?_
          refine lv_icmp_ne (tgt := 51) X.1 X.2.1 dX0_find_46 (by decide) (fun c57 => ?_) (fun c57 => ?_)
          · rw [if_neg c57] at hf
            exact (b_X0_find_51 X ih) o (some a18) x2 w _ _ _ _ _ hf M hS (by omega) (by omega) (lv_sub hl [0, 1, 2] rfl)
          · rw [if_pos c57] at hf
            refine lv_iload_n X.1 X.2.1 dX0_find_49 rfl (lv_at hl 2 rfl) ?_
            obtain rfl := Option.some.inj hf
            exact q_iret X M hS (by omega) (by omega) dX0_find_50
def f_X0_find (o : Nat) (x1 : Option Nat) (w : Wd) : Option (Int32 × Wd) := (f_X0_find_2 FU) o x1 0 w
set_option maxHeartbeats 4000000 in
set_option maxRecDepth 100000 in
theorem e_X0_find {l : Launch} {D : va_G} {aC : Nat → ClassId} {b0 : Nat} {p : Program} {e : Env} {s : State} {m : MethodId} {args : Array Value} {below : List Frame} {meth : Method} {c : Code} (X : Cx D aC p s m args meth c cX0_find RX0 3 "find" (some .int)) {res : (Int32 × Wd)} (o : Nat) (x1 : Option Nat) (w : Wd) : BW l D aC b0 p e rX0_find s m args below meth c (Qe D aC b0 below args s 0 0 (some (.int res.1)) res.2) res 0 0 0 0 (f_X0_find o x1 w) w 0 3 [(0, va_rf (some o)), (1, va_rf x1)] [] := by
  intro H locs cells slots ls hf M hS hc hs hl
  unfold f_X0_find at hf
  refine lv_iconst (v := 0) X.1 X.2.1 dX0_find_0 (by decide) ?_
  refine lv_istore_n (i := 2) (lv' := [(2, .int 0), (0, va_rf (some o)), (1, va_rf x1)]) X.1 X.2.1 dX0_find_1 rfl hl (by decide) (by simp [cat1, cati, catl]) (fun ls hl => ?_)
  exact (b_X0_find_2 X FU) o x1 0 w _ _ _ _ _ hf M hS (by omega) (by omega) (lv_sub hl [1, 2, 0] rfl)
theorem m_X0_find {l : Launch} {D : va_G} {aC : Nat → ClassId} {b0 : Nat} {w : Wd} (o : Nat) (x1 : Option Nat) (v : Int32) (w' : Wd) (hf : f_X0_find o x1 w = some (v, w')) : Ct l D aC b0 yX0_find (Cond.code yX0_find cX0_find 3 (some .int) :: Gw) rX0_find [va_rf (some o), va_rf x1] w (some (.int v)) w' :=
  q_met (by decide) (by simp [lg_sl, cat1, cati, catl]) (fun p e s m below meth c X M ls hl => e_X0_find X (res := (v, w')) o x1 w s.heap [] 0 0 ls hf M va_S.rf (by decide) (by decide) (by simpa [lv_args, cat1, cati, catl] using hl))
abbrev rX0_firstOf : Room := { frames := 0, cells := 0, slots := 0, locals := 0 }
def f_X0_firstOf (o : Nat) (x1 : Int32) (w : Wd) : Option (Int32 × Wd) := if x1 < 0 then (some (0, w)) else (if 6 ≤ x1 then (some (0, w)) else (gR w (some o) 1 10 (fun v4 => aI w v4 100 x1 (fun v9 => some (v9, w)))))
set_option maxHeartbeats 4000000 in
set_option maxRecDepth 100000 in
theorem e_X0_firstOf {l : Launch} {D : va_G} {aC : Nat → ClassId} {b0 : Nat} {p : Program} {e : Env} {s : State} {m : MethodId} {args : Array Value} {below : List Frame} {meth : Method} {c : Code} (X : Cx D aC p s m args meth c cX0_firstOf RX0 2 "firstOf" (some .int)) {res : (Int32 × Wd)} (o : Nat) (x1 : Int32) (w : Wd) : BW l D aC b0 p e rX0_firstOf s m args below meth c (Qe D aC b0 below args s 0 0 (some (.int res.1)) res.2) res 0 0 0 0 (f_X0_firstOf o x1 w) w 0 2 [(0, va_rf (some o)), (1, .int x1)] [] := by
  intro H locs cells slots ls hf M hS hc hs hl
  unfold f_X0_firstOf at hf
  refine lv_iload_n X.1 X.2.1 dX0_firstOf_0 rfl (lv_at hl 1 rfl) ?_
  refine lv_if_lt (tgt := 19) X.1 X.2.1 dX0_firstOf_1 (by decide) (fun c1 => ?_) (fun c1 => ?_)
  · rw [if_pos c1] at hf
    refine lv_iconst (v := 0) X.1 X.2.1 dX0_firstOf_19 (by decide) ?_
    obtain rfl := Option.some.inj hf
    exact q_iret X M hS (by omega) (by omega) dX0_firstOf_20
  · rw [if_neg c1] at hf
    refine lv_iload_n X.1 X.2.1 dX0_firstOf_4 rfl (lv_at hl 1 rfl) ?_
    refine lv_bipush (v := 6) X.1 X.2.1 dX0_firstOf_5 (by decide) ?_
    refine lv_icmp_ge (tgt := 19) X.1 X.2.1 dX0_firstOf_7 (by decide) (fun c2 => ?_) (fun c2 => ?_)
    · rw [if_pos c2] at hf
      refine lv_iconst (v := 0) X.1 X.2.1 dX0_firstOf_19 (by decide) ?_
      obtain rfl := Option.some.inj hf
      exact q_iret X M hS (by omega) (by omega) dX0_firstOf_20
    · rw [if_neg c2] at hf
      refine q_aload_n X dX0_firstOf_10 rfl (lv_at hl 0 rfl) ?_
      have ho := gR_e hf
      clear hf
      obtain ⟨a3, v4, e5, k6, q7, hf⟩ := ho
      cases e5
      refine q_get X M flX0_31.g k6 (congrArg va_rf q7) dX0_firstOf_11 ?_
      refine lv_iload_n X.1 X.2.1 dX0_firstOf_14 rfl (lv_at hl 1 rfl) ?_
      have ho := aI_e hf
      clear hf
      obtain ⟨a8, v9, e10, k11, i12, q13, hf⟩ := ho
      cases e10
      refine q_iald X M k11 i12 dX0_firstOf_15 ?_
      rw [q13]
      refine lv_goto (tgt := 20) X.1 X.2.1 dX0_firstOf_16 (by decide) ?_
      obtain rfl := Option.some.inj hf
      exact q_iret X M hS (by omega) (by omega) dX0_firstOf_20
theorem m_X0_firstOf {l : Launch} {D : va_G} {aC : Nat → ClassId} {b0 : Nat} {w : Wd} (o : Nat) (x1 : Int32) (v : Int32) (w' : Wd) (hf : f_X0_firstOf o x1 w = some (v, w')) : Ct l D aC b0 yX0_firstOf (Cond.code yX0_firstOf cX0_firstOf 2 (some .int) :: Gw) rX0_firstOf [va_rf (some o), .int x1] w (some (.int v)) w' :=
  q_met (by decide) (Nat.le_of_ble_eq_true rfl) (fun p e s m below meth c X M ls hl => e_X0_firstOf X (res := (v, w')) o x1 w s.heap [] 0 0 ls hf M va_S.rf (by decide) (by decide) hl)
abbrev rX5_placeOf : Room := { frames := 0, cells := 0, slots := 0, locals := 0 }
def f_X5_placeOf (x0 : Int32) (w : Wd) : Option (Int32 × Wd) := some ((x0 / 8), w)
set_option maxHeartbeats 4000000 in
set_option maxRecDepth 100000 in
theorem e_X5_placeOf {l : Launch} {D : va_G} {aC : Nat → ClassId} {b0 : Nat} {p : Program} {e : Env} {s : State} {m : MethodId} {args : Array Value} {below : List Frame} {meth : Method} {c : Code} (X : Cx D aC p s m args meth c cX5_placeOf RX5 1 "placeOf" (some .int)) {res : (Int32 × Wd)} (x0 : Int32) (w : Wd) : BW l D aC b0 p e rX5_placeOf s m args below meth c (Qe D aC b0 below args s 0 0 (some (.int res.1)) res.2) res 0 0 0 0 (f_X5_placeOf x0 w) w 0 1 [(0, .int x0)] [] := by
  intro H locs cells slots ls hf M hS hc hs hl
  unfold f_X5_placeOf at hf
  refine lv_iload_n X.1 X.2.1 dX5_placeOf_0 rfl (lv_at hl 0 rfl) ?_
  refine lv_bipush (v := 8) X.1 X.2.1 dX5_placeOf_1 (by decide) ?_
  refine lv_idiv X.1 X.2.1 dX5_placeOf_3 (by decide) ?_
  obtain rfl := Option.some.inj hf
  exact q_iret X M hS (by omega) (by omega) dX5_placeOf_4
theorem m_X5_placeOf {l : Launch} {D : va_G} {aC : Nat → ClassId} {b0 : Nat} {w : Wd} (x0 : Int32) (v : Int32) (w' : Wd) (hf : f_X5_placeOf x0 w = some (v, w')) : Ct l D aC b0 yX5_placeOf (Cond.code yX5_placeOf cX5_placeOf 1 (some .int) :: Gw) rX5_placeOf [.int x0] w (some (.int v)) w' :=
  q_met (by decide) (Nat.le_of_ble_eq_true rfl) (fun p e s m below meth c X M ls hl => e_X5_placeOf X (res := (v, w')) x0 w s.heap [] 0 0 ls hf M va_S.rf (by decide) (by decide) hl)
abbrev rX0_doAct : Room := { frames := 1, cells := 0, slots := 0, locals := 20 }
def f_X0_doAct (o : Nat) (x1 : Option Nat) (w : Wd) : Option (Int64 × Wd) := gI w x1 3 9 (fun v2 => bnd (f_X5_placeOf v2 w) (fun v6 w7 => if v6 < 0 then (some (0, w7)) else (if v6 < 4 then (gR w7 (some o) 1 4 (fun v12 => aL w7 v12 101 v6 (fun v17 => gI w7 x1 3 10 (fun v23 => if v23 = 0 then (gR w7 (some o) 1 4 (fun v29 => gL w7 x1 3 11 (fun v34 => tL w7 v29 101 v6 v34 (fun w39 => some (v17, w39))))) else if v23 = 1 then (gR w7 (some o) 1 4 (fun v46 => gL w7 x1 3 11 (fun v51 => tL w7 v46 101 v6 (v17 + v51) (fun w56 => gR w56 (some o) 1 4 (fun v62 => aL w56 v62 101 v6 (fun v67 => some (v67, w56))))))) else if v23 = 2 then (gL w7 x1 3 11 (fun v74 => if (lg_cmp v17 v74) = 0 then (gR w7 (some o) 1 4 (fun v80 => gL w7 x1 3 12 (fun v85 => tL w7 v80 101 v6 v85 (fun w90 => some (1, w90))))) else (some (0, w7)))) else (gR w7 (some o) 1 4 (fun v96 => gL w7 x1 3 11 (fun v101 => tL w7 v96 101 v6 (v17 * v101) (fun w106 => gR w106 (some o) 1 4 (fun v112 => aL w106 v112 101 v6 (fun v117 => some (v117, w106))))))))))) else (some (0, w7)))))
set_option maxHeartbeats 4000000 in
set_option maxRecDepth 100000 in
theorem e_X0_doAct {l : Launch} {D : va_G} {aC : Nat → ClassId} {b0 : Nat} {p : Program} {e : Env} {s : State} {m : MethodId} {args : Array Value} {below : List Frame} {meth : Method} {c : Code} (X : Cx D aC p s m args meth c cX0_doAct RX0 5 "doAct" (some .long)) {res : (Int64 × Wd)} (o : Nat) (x1 : Option Nat) (w : Wd) : BW l D aC b0 p e rX0_doAct s m args below meth c (Qe D aC b0 below args s 0 0 (some (.long res.1)) res.2) res 0 0 0 0 (f_X0_doAct o x1 w) w 0 5 [(0, va_rf (some o)), (1, va_rf x1)] [] := by
  intro H locs cells slots ls hf M hS hc hs hl
  unfold f_X0_doAct at hf
  refine q_aload_n X dX0_doAct_0 rfl (lv_at hl 1 rfl) ?_
  have ho := gI_e hf
  clear hf
  obtain ⟨a1, v2, e3, k4, q5, hf⟩ := ho
  cases e3
  refine q_get X M flX0_87.g k4 (congrArg Value.int q5) dX0_doAct_1 ?_
  have ho := bnd_e hf
  clear hf
  obtain ⟨v6, w7, q8, hf⟩ := ho
  refine q_cSN X M hS hl.1 (As := [.int v2]) (m_X5_placeOf v2 _ _ q8) mn_X5_placeOf (X.2.2.2.2.2.2.2.2.2.2.1) gm_398 rfl ⟨(Nat.le_of_ble_eq_true rfl), (Nat.le_of_ble_eq_true rfl)⟩ (rest := []) rfl (Nat.le_of_ble_eq_true rfl) (mc := 0) (ms := 0) (MC := 0) (MS := 0) rfl rfl rfl rfl (by omega) (by omega) dX0_doAct_4 (st2 := [.int v6]) rfl (fun H locs M hS => ?_)
  refine lv_istore_n (i := 2) (lv' := [(2, .int v6), (0, va_rf (some o)), (1, va_rf (some a1))]) X.1 X.2.1 dX0_doAct_7 rfl hl (by decide) rfl (fun ls hl => ?_)
  refine lv_iload_n X.1 X.2.1 dX0_doAct_8 rfl (lv_at hl 0 rfl) ?_
  refine lv_if_lt (tgt := 17) X.1 X.2.1 dX0_doAct_9 (by decide) (fun c9 => ?_) (fun c9 => ?_)
  · rw [if_pos c9] at hf
    refine lv_lconst (v := 0) X.1 X.2.1 dX0_doAct_17 (by decide) ?_
    obtain rfl := Option.some.inj hf
    exact q_lret X M hS (by omega) (by omega) dX0_doAct_18
  · rw [if_neg c9] at hf
    refine lv_iload_n X.1 X.2.1 dX0_doAct_12 rfl (lv_at hl 0 rfl) ?_
    refine lv_iconst (v := 4) X.1 X.2.1 dX0_doAct_13 (by decide) ?_
    refine lv_icmp_lt (tgt := 19) X.1 X.2.1 dX0_doAct_14 (by decide) (fun c10 => ?_) (fun c10 => ?_)
    · rw [if_pos c10] at hf
      refine q_aload_n X dX0_doAct_19 rfl (lv_at hl 1 rfl) ?_
      have ho := gR_e hf
      clear hf
      obtain ⟨a11, v12, e13, k14, q15, hf⟩ := ho
      cases e13
      refine q_get X M flX0_9.g k14 (congrArg va_rf q15) dX0_doAct_20 ?_
      refine lv_iload_n X.1 X.2.1 dX0_doAct_23 rfl (lv_at hl 0 rfl) ?_
      have ho := aL_e hf
      clear hf
      obtain ⟨a16, v17, e18, k19, i20, q21, hf⟩ := ho
      cases e18
      refine q_lald X M k19 i20 dX0_doAct_24 ?_
      rw [q21]
      refine lv_lstore_n (i := 3) (lv' := [(3, .long v17), (2, .int v6), (0, va_rf (some o)), (1, va_rf (some a1))]) X.1 X.2.1 dX0_doAct_25 rfl hl (by decide) rfl (fun ls hl => ?_)
      refine q_aload_n X dX0_doAct_26 rfl (lv_at hl 3 rfl) ?_
      have ho := gI_e hf
      clear hf
      obtain ⟨a22, v23, e24, k25, q26, hf⟩ := ho
      cases e24
      refine q_get X M flX0_94.g k25 (congrArg Value.int q26) dX0_doAct_27 ?_
      by_cases c27 : v23 = 0
      · rw [if_pos c27] at hf
        refine lv_tableIn (tgt := 56) (off := 26) X.1 X.2.1 dX0_doAct_30 (by rw [c27]; decide) (by rw [c27]; decide) (by rw [c27]; rfl) (by decide) ?_
        refine q_aload_n X dX0_doAct_56 rfl (lv_at hl 2 rfl) ?_
        have ho := gR_e hf
        clear hf
        obtain ⟨a28, v29, e30, k31, q32, hf⟩ := ho
        cases e30
        refine q_get X M flX0_9.g k31 (congrArg va_rf q32) dX0_doAct_57 ?_
        refine lv_iload_n X.1 X.2.1 dX0_doAct_60 rfl (lv_at hl 1 rfl) ?_
        refine q_aload_n X dX0_doAct_61 rfl (lv_at hl 3 rfl) ?_
        have ho := gL_e hf
        clear hf
        obtain ⟨a33, v34, e35, k36, q37, hf⟩ := ho
        cases e35
        refine q_get X M flX0_97.g k36 (congrArg Value.long q37) dX0_doAct_62 ?_
        have ho := tL_e hf
        clear hf
        obtain ⟨a38, w39, e40, k41, i42, q43, hf⟩ := ho
        cases e40
        refine q_last X M hS k41 i42 dX0_doAct_65 (fun H locs M hS => ?_)
        rw [q43] at M
        refine lv_lload_n X.1 X.2.1 dX0_doAct_66 rfl (lv_at hl 0 rfl) ?_
        obtain rfl := Option.some.inj hf
        exact q_lret X M hS (by omega) (by omega) dX0_doAct_67
      rw [if_neg c27] at hf
      by_cases c44 : v23 = 1
      · rw [if_pos c44] at hf
        refine lv_tableIn (tgt := 68) (off := 38) X.1 X.2.1 dX0_doAct_30 (by rw [c44]; decide) (by rw [c44]; decide) (by rw [c44]; rfl) (by decide) ?_
        refine q_aload_n X dX0_doAct_68 rfl (lv_at hl 2 rfl) ?_
        have ho := gR_e hf
        clear hf
        obtain ⟨a45, v46, e47, k48, q49, hf⟩ := ho
        cases e47
        refine q_get X M flX0_9.g k48 (congrArg va_rf q49) dX0_doAct_69 ?_
        refine lv_iload_n X.1 X.2.1 dX0_doAct_72 rfl (lv_at hl 1 rfl) ?_
        refine lv_lload_n X.1 X.2.1 dX0_doAct_73 rfl (lv_at hl 0 rfl) ?_
        refine q_aload_n X dX0_doAct_74 rfl (lv_at hl 3 rfl) ?_
        have ho := gL_e hf
        clear hf
        obtain ⟨a50, v51, e52, k53, q54, hf⟩ := ho
        cases e52
        refine q_get X M flX0_97.g k53 (congrArg Value.long q54) dX0_doAct_75 ?_
        refine lv_ladd X.1 X.2.1 dX0_doAct_78 ?_
        have ho := tL_e hf
        clear hf
        obtain ⟨a55, w56, e57, k58, i59, q60, hf⟩ := ho
        cases e57
        refine q_last X M hS k58 i59 dX0_doAct_79 (fun H locs M hS => ?_)
        rw [q60] at M
        refine q_aload_n X dX0_doAct_80 rfl (lv_at hl 2 rfl) ?_
        have ho := gR_e hf
        clear hf
        obtain ⟨a61, v62, e63, k64, q65, hf⟩ := ho
        cases e63
        refine q_get X M flX0_9.g k64 (congrArg va_rf q65) dX0_doAct_81 ?_
        refine lv_iload_n X.1 X.2.1 dX0_doAct_84 rfl (lv_at hl 1 rfl) ?_
        have ho := aL_e hf
        clear hf
        obtain ⟨a66, v67, e68, k69, i70, q71, hf⟩ := ho
        cases e68
        refine q_lald X M k69 i70 dX0_doAct_85 ?_
        rw [q71]
        obtain rfl := Option.some.inj hf
        exact q_lret X M hS (by omega) (by omega) dX0_doAct_86
      rw [if_neg c44] at hf
      by_cases c72 : v23 = 2
      · rw [if_pos c72] at hf
        refine lv_tableIn (tgt := 87) (off := 57) X.1 X.2.1 dX0_doAct_30 (by rw [c72]; decide) (by rw [c72]; decide) (by rw [c72]; rfl) (by decide) ?_
        refine lv_lload_n X.1 X.2.1 dX0_doAct_87 rfl (lv_at hl 0 rfl) ?_
        refine q_aload_n X dX0_doAct_88 rfl (lv_at hl 3 rfl) ?_
        have ho := gL_e hf
        clear hf
        obtain ⟨a73, v74, e75, k76, q77, hf⟩ := ho
        cases e75
        refine q_get X M flX0_97.g k76 (congrArg Value.long q77) dX0_doAct_89 ?_
        refine W.lcmp X.1 X.2.1 dX0_doAct_92 ?_
        refine lv_if_eq (tgt := 98) X.1 X.2.1 dX0_doAct_93 (by decide) (fun c78 => ?_) (fun c78 => ?_)
        · rw [if_pos c78] at hf
          refine q_aload_n X dX0_doAct_98 rfl (lv_at hl 2 rfl) ?_
          have ho := gR_e hf
          clear hf
          obtain ⟨a79, v80, e81, k82, q83, hf⟩ := ho
          cases e81
          refine q_get X M flX0_9.g k82 (congrArg va_rf q83) dX0_doAct_99 ?_
          refine lv_iload_n X.1 X.2.1 dX0_doAct_102 rfl (lv_at hl 1 rfl) ?_
          refine q_aload_n X dX0_doAct_103 rfl (lv_at hl 3 rfl) ?_
          have ho := gL_e hf
          clear hf
          obtain ⟨a84, v85, e86, k87, q88, hf⟩ := ho
          cases e86
          refine q_get X M flX0_101.g k87 (congrArg Value.long q88) dX0_doAct_104 ?_
          have ho := tL_e hf
          clear hf
          obtain ⟨a89, w90, e91, k92, i93, q94, hf⟩ := ho
          cases e91
          refine q_last X M hS k92 i93 dX0_doAct_107 (fun H locs M hS => ?_)
          rw [q94] at M
          refine lv_lconst (v := 1) X.1 X.2.1 dX0_doAct_108 (by decide) ?_
          obtain rfl := Option.some.inj hf
          exact q_lret X M hS (by omega) (by omega) dX0_doAct_109
        · rw [if_neg c78] at hf
          refine lv_lconst (v := 0) X.1 X.2.1 dX0_doAct_96 (by decide) ?_
          obtain rfl := Option.some.inj hf
          exact q_lret X M hS (by omega) (by omega) dX0_doAct_97
      rw [if_neg c72] at hf
      have ht30 : v23.toInt < 0 ∨ 2 < v23.toInt := by
        have g0 : v23.toInt ≠ 0 := by simpa using ne_i c27
        have g1 : v23.toInt ≠ 1 := by simpa using ne_i c44
        have g2 : v23.toInt ≠ 2 := by simpa using ne_i c72
        omega
      refine lv_tableOut (tgt := 110) X.1 X.2.1 dX0_doAct_30 ht30 (by decide) ?_
      refine q_aload_n X dX0_doAct_110 rfl (lv_at hl 2 rfl) ?_
      have ho := gR_e hf
      clear hf
      obtain ⟨a95, v96, e97, k98, q99, hf⟩ := ho
      cases e97
      refine q_get X M flX0_9.g k98 (congrArg va_rf q99) dX0_doAct_111 ?_
      refine lv_iload_n X.1 X.2.1 dX0_doAct_114 rfl (lv_at hl 1 rfl) ?_
      refine lv_lload_n X.1 X.2.1 dX0_doAct_115 rfl (lv_at hl 0 rfl) ?_
      refine q_aload_n X dX0_doAct_116 rfl (lv_at hl 3 rfl) ?_
      have ho := gL_e hf
      clear hf
      obtain ⟨a100, v101, e102, k103, q104, hf⟩ := ho
      cases e102
      refine q_get X M flX0_97.g k103 (congrArg Value.long q104) dX0_doAct_117 ?_
      refine lv_lmul X.1 X.2.1 dX0_doAct_120 ?_
      have ho := tL_e hf
      clear hf
      obtain ⟨a105, w106, e107, k108, i109, q110, hf⟩ := ho
      cases e107
      refine q_last X M hS k108 i109 dX0_doAct_121 (fun H locs M hS => ?_)
      rw [q110] at M
      refine q_aload_n X dX0_doAct_122 rfl (lv_at hl 2 rfl) ?_
      have ho := gR_e hf
      clear hf
      obtain ⟨a111, v112, e113, k114, q115, hf⟩ := ho
      cases e113
      refine q_get X M flX0_9.g k114 (congrArg va_rf q115) dX0_doAct_123 ?_
      refine lv_iload_n X.1 X.2.1 dX0_doAct_126 rfl (lv_at hl 1 rfl) ?_
      have ho := aL_e hf
      clear hf
      obtain ⟨a116, v117, e118, k119, i120, q121, hf⟩ := ho
      cases e118
      refine q_lald X M k119 i120 dX0_doAct_127 ?_
      rw [q121]
      obtain rfl := Option.some.inj hf
      exact q_lret X M hS (by omega) (by omega) dX0_doAct_128
    · rw [if_neg c10] at hf
      refine lv_lconst (v := 0) X.1 X.2.1 dX0_doAct_17 (by decide) ?_
      obtain rfl := Option.some.inj hf
      exact q_lret X M hS (by omega) (by omega) dX0_doAct_18
theorem m_X0_doAct {l : Launch} {D : va_G} {aC : Nat → ClassId} {b0 : Nat} {w : Wd} (o : Nat) (x1 : Option Nat) (v : Int64) (w' : Wd) (hf : f_X0_doAct o x1 w = some (v, w')) : Ct l D aC b0 yX0_doAct (Cond.code yX0_doAct cX0_doAct 5 (some .long) :: Gw) rX0_doAct [va_rf (some o), va_rf x1] w (some (.long v)) w' :=
  q_met (by decide) (by simp [lg_sl, cat1, cati, catl]) (fun p e s m below meth c X M ls hl => e_X0_doAct X (res := (v, w')) o x1 w s.heap [] 0 0 ls hf M va_S.rf (by decide) (by decide) (by simpa [lv_args, cat1, cati, catl] using hl))
abbrev rX0_addRecord : Room := { frames := 0, cells := 0, slots := 0, locals := 0 }
def f_X0_addRecord (o : Nat) (x1 : Option Nat) (x2 : Int64) (w : Wd) : Option (Unit × Wd) := gI w (some o) 1 3 (fun v2 => if v2 < 12 then (gR w (some o) 1 5 (fun v8 => gI w (some o) 1 3 (fun v13 => gI w x1 3 2 (fun v18 => tI w v8 100 v13 v18 (fun w23 => gR w23 (some o) 1 6 (fun v29 => gI w23 (some o) 1 3 (fun v34 => gI w23 x1 3 3 (fun v39 => tI w23 v29 100 v34 v39 (fun w44 => gR w44 (some o) 1 7 (fun v50 => gI w44 (some o) 1 3 (fun v55 => gI w44 x1 3 5 (fun v60 => tI w44 v50 100 v55 v60 (fun w65 => gR w65 (some o) 1 8 (fun v71 => gI w65 (some o) 1 3 (fun v76 => tL w65 v71 101 v76 x2 (fun w81 => gI w81 (some o) 1 3 (fun v87 => pI w81 (some o) 1 3 (v87 + 1) (fun w92 => some ((), w92))))))))))))))))))) else (some ((), w)))
set_option maxHeartbeats 4000000 in
set_option maxRecDepth 100000 in
theorem e_X0_addRecord {l : Launch} {D : va_G} {aC : Nat → ClassId} {b0 : Nat} {p : Program} {e : Env} {s : State} {m : MethodId} {args : Array Value} {below : List Frame} {meth : Method} {c : Code} (X : Cx D aC p s m args meth c cX0_addRecord RX0 4 "addRecord" none) {res : (Unit × Wd)} (o : Nat) (x1 : Option Nat) (x2 : Int64) (w : Wd) : BW l D aC b0 p e rX0_addRecord s m args below meth c (Qe D aC b0 below args s 0 0 none res.2) res 0 0 0 0 (f_X0_addRecord o x1 x2 w) w 0 4 [(0, va_rf (some o)), (1, va_rf x1), (2, .long x2)] [] := by
  intro H locs cells slots ls hf M hS hc hs hl
  unfold f_X0_addRecord at hf
  refine q_aload_n X dX0_addRecord_0 rfl (lv_at hl 0 rfl) ?_
  have ho := gI_e hf
  clear hf
  obtain ⟨a1, v2, e3, k4, q5, hf⟩ := ho
  cases e3
  refine q_get X M flX0_44.g k4 (congrArg Value.int q5) dX0_addRecord_1 ?_
  refine lv_bipush (v := 12) X.1 X.2.1 dX0_addRecord_4 (by decide) ?_
  refine lv_icmp_lt (tgt := 10) X.1 X.2.1 dX0_addRecord_6 (by decide) (fun c6 => ?_) (fun c6 => ?_)
  · rw [if_pos c6] at hf
    refine q_aload_n X dX0_addRecord_10 rfl (lv_at hl 0 rfl) ?_
    have ho := gR_e hf
    clear hf
    obtain ⟨a7, v8, e9, k10, q11, hf⟩ := ho
    cases e9
    refine q_get X M flX0_15.g k10 (congrArg va_rf q11) dX0_addRecord_11 ?_
    refine q_aload_n X dX0_addRecord_14 rfl (lv_at hl 0 rfl) ?_
    have ho := gI_e hf
    clear hf
    obtain ⟨a12, v13, e14, k15, q16, hf⟩ := ho
    cases e14
    refine q_get X M flX0_44.g k15 (congrArg Value.int q16) dX0_addRecord_15 ?_
    refine q_aload_n X dX0_addRecord_18 rfl (lv_at hl 1 rfl) ?_
    have ho := gI_e hf
    clear hf
    obtain ⟨a17, v18, e19, k20, q21, hf⟩ := ho
    cases e19
    refine q_get X M flX0_62 k20 (congrArg Value.int q21) dX0_addRecord_19 ?_
    have ho := tI_e hf
    clear hf
    obtain ⟨a22, w23, e24, k25, i26, q27, hf⟩ := ho
    cases e24
    refine q_iast X M hS k25 i26 dX0_addRecord_22 (fun H locs M hS => ?_)
    rw [q27] at M
    refine q_aload_n X dX0_addRecord_23 rfl (lv_at hl 0 rfl) ?_
    have ho := gR_e hf
    clear hf
    obtain ⟨a28, v29, e30, k31, q32, hf⟩ := ho
    cases e30
    refine q_get X M flX0_19.g k31 (congrArg va_rf q32) dX0_addRecord_24 ?_
    refine q_aload_n X dX0_addRecord_27 rfl (lv_at hl 0 rfl) ?_
    have ho := gI_e hf
    clear hf
    obtain ⟨a33, v34, e35, k36, q37, hf⟩ := ho
    cases e35
    refine q_get X M flX0_44.g k36 (congrArg Value.int q37) dX0_addRecord_28 ?_
    refine q_aload_n X dX0_addRecord_31 rfl (lv_at hl 1 rfl) ?_
    have ho := gI_e hf
    clear hf
    obtain ⟨a38, v39, e40, k41, q42, hf⟩ := ho
    cases e40
    refine q_get X M flX0_67.g k41 (congrArg Value.int q42) dX0_addRecord_32 ?_
    have ho := tI_e hf
    clear hf
    obtain ⟨a43, w44, e45, k46, i47, q48, hf⟩ := ho
    cases e45
    refine q_iast X M hS k46 i47 dX0_addRecord_35 (fun H locs M hS => ?_)
    rw [q48] at M
    refine q_aload_n X dX0_addRecord_36 rfl (lv_at hl 0 rfl) ?_
    have ho := gR_e hf
    clear hf
    obtain ⟨a49, v50, e51, k52, q53, hf⟩ := ho
    cases e51
    refine q_get X M flX0_22.g k52 (congrArg va_rf q53) dX0_addRecord_37 ?_
    refine q_aload_n X dX0_addRecord_40 rfl (lv_at hl 0 rfl) ?_
    have ho := gI_e hf
    clear hf
    obtain ⟨a54, v55, e56, k57, q58, hf⟩ := ho
    cases e56
    refine q_get X M flX0_44.g k57 (congrArg Value.int q58) dX0_addRecord_41 ?_
    refine q_aload_n X dX0_addRecord_44 rfl (lv_at hl 1 rfl) ?_
    have ho := gI_e hf
    clear hf
    obtain ⟨a59, v60, e61, k62, q63, hf⟩ := ho
    cases e61
    refine q_get X M flX0_84.g k62 (congrArg Value.int q63) dX0_addRecord_45 ?_
    have ho := tI_e hf
    clear hf
    obtain ⟨a64, w65, e66, k67, i68, q69, hf⟩ := ho
    cases e66
    refine q_iast X M hS k67 i68 dX0_addRecord_48 (fun H locs M hS => ?_)
    rw [q69] at M
    refine q_aload_n X dX0_addRecord_49 rfl (lv_at hl 0 rfl) ?_
    have ho := gR_e hf
    clear hf
    obtain ⟨a70, v71, e72, k73, q74, hf⟩ := ho
    cases e72
    refine q_get X M flX0_25.g k73 (congrArg va_rf q74) dX0_addRecord_50 ?_
    refine q_aload_n X dX0_addRecord_53 rfl (lv_at hl 0 rfl) ?_
    have ho := gI_e hf
    clear hf
    obtain ⟨a75, v76, e77, k78, q79, hf⟩ := ho
    cases e77
    refine q_get X M flX0_44.g k78 (congrArg Value.int q79) dX0_addRecord_54 ?_
    refine lv_lload_n X.1 X.2.1 dX0_addRecord_57 rfl (lv_at hl 2 rfl) ?_
    have ho := tL_e hf
    clear hf
    obtain ⟨a80, w81, e82, k83, i84, q85, hf⟩ := ho
    cases e82
    refine q_last X M hS k83 i84 dX0_addRecord_58 (fun H locs M hS => ?_)
    rw [q85] at M
    refine q_aload_n X dX0_addRecord_59 rfl (lv_at hl 0 rfl) ?_
    refine lv_dup X.1 X.2.1 dX0_addRecord_60 rfl ?_
    have ho := gI_e hf
    clear hf
    obtain ⟨a86, v87, e88, k89, q90, hf⟩ := ho
    cases e88
    refine q_get X M flX0_44.g k89 (congrArg Value.int q90) dX0_addRecord_61 ?_
    refine lv_iconst (v := 1) X.1 X.2.1 dX0_addRecord_64 (by decide) ?_
    refine lv_iadd X.1 X.2.1 dX0_addRecord_65 ?_
    have ho := pI_e hf
    clear hf
    obtain ⟨a91, w92, e93, k94, q95, hf⟩ := ho
    cases e93
    refine q_putI X M hS flX0_44 (Or.inl rfl) k94 dX0_addRecord_66 (fun H locs M hS => ?_)
    rw [q95] at M
    obtain rfl := Option.some.inj hf
    exact q_vret X M hS (by omega) (by omega) dX0_addRecord_69
  · rw [if_neg c6] at hf
    obtain rfl := Option.some.inj hf
    exact q_vret X M hS (by omega) (by omega) dX0_addRecord_9
theorem m_X0_addRecord {l : Launch} {D : va_G} {aC : Nat → ClassId} {b0 : Nat} {w : Wd} (o : Nat) (x1 : Option Nat) (x2 : Int64) (v : Unit) (w' : Wd) (hf : f_X0_addRecord o x1 x2 w = some (v, w')) : Ct l D aC b0 yX0_addRecord (Cond.code yX0_addRecord cX0_addRecord 4 none :: Gw) rX0_addRecord [va_rf (some o), va_rf x1, .long x2] w none w' :=
  q_met (by decide) (by simp [lg_sl, cat1, cati, catl]) (fun p e s m below meth c X M ls hl => e_X0_addRecord X (res := (v, w')) o x1 x2 w s.heap [] 0 0 ls hf M va_S.rf (by decide) (by decide) (by simpa [lv_args, cat1, cati, catl] using hl))
abbrev rJ7_fill_d0a16 : Room := { frames := 0, cells := 0, slots := 0, locals := 0 }
def f_J7_fill_d0a16_6 : Nat → Option Nat → Int64 → Int32 → Int32 → Wd → Option (Unit × Wd)
  | 0, _, _, _, _, _ => none
  | n + 1, x0, x1, x3, x4, w => if x4 ≤ x3 then (some ((), w)) else (tL w x0 101 x3 x1 (fun w8 => (f_J7_fill_d0a16_6 n) x0 x1 (x3 + 1) x4 w8))
set_option maxHeartbeats 4000000 in
set_option maxRecDepth 100000 in
theorem b_J7_fill_d0a16_6 {l : Launch} {D : va_G} {aC : Nat → ClassId} {b0 : Nat} {p : Program} {e : Env} {s : State} {m : MethodId} {args : Array Value} {below : List Frame} {meth : Method} {c : Code} (X : Cx D aC p s m args meth c cJ7_fill_d0a16 RJ7 5 "fill" none) {res : (Unit × Wd)} : ∀ (n : Nat) (x0 : Option Nat) (x1 : Int64) (x3 : Int32) (x4 : Int32) (w : Wd), BW l D aC b0 p e rJ7_fill_d0a16 s m args below meth c (Qe D aC b0 below args s 0 0 none res.2) res 0 0 0 0 (f_J7_fill_d0a16_6 n x0 x1 x3 x4 w) w 6 5 [(0, va_rf x0), (1, .long x1), (3, .int x3), (4, .int x4)] [] := by
  intro n
  induction n with
  | zero =>
    intro x0 x1 x3 x4 w H locs cells slots ls hf
    rw [f_J7_fill_d0a16_6.eq_1] at hf
    cases hf
  | succ n ih =>
    intro x0 x1 x3 x4 w H locs cells slots ls hf M hS hc hs hl
    rw [f_J7_fill_d0a16_6.eq_2] at hf
    refine lv_iload_n X.1 X.2.1 dJ7_fill_d0a16_6 rfl (lv_at hl 2 rfl) ?_
    refine lv_iload X.1 X.2.1 dJ7_fill_d0a16_7 (lv_at hl 3 rfl) ?_
    refine lv_icmp_ge (tgt := 22) X.1 X.2.1 dJ7_fill_d0a16_9 (by decide) (fun c6 => ?_) (fun c6 => ?_)
    · rw [if_pos c6] at hf
      obtain rfl := Option.some.inj hf
      exact q_vret X M hS (by omega) (by omega) dJ7_fill_d0a16_22
    · rw [if_neg c6] at hf
      refine q_aload_n X dJ7_fill_d0a16_12 rfl (lv_at hl 0 rfl) ?_
      refine lv_iload_n X.1 X.2.1 dJ7_fill_d0a16_13 rfl (lv_at hl 2 rfl) ?_
      refine lv_lload_n X.1 X.2.1 dJ7_fill_d0a16_14 rfl (lv_at hl 1 rfl) ?_
      have ho := tL_e hf
      clear hf
      obtain ⟨a7, w8, e9, k10, i11, q12, hf⟩ := ho
      cases e9
      refine q_last X M hS k10 i11 dJ7_fill_d0a16_15 (fun H locs M hS => ?_)
      rw [q12] at M
      refine lv_iinc (v := (x3 + 1)) (lv' := [(3, .int (x3 + 1)), (0, va_rf (some a7)), (1, .long x1), (4, .int x4)]) X.1 X.2.1 dJ7_fill_d0a16_16 hl (k := 2) rfl rfl (by decide) rfl (fun ls hl => ?_)
      refine lv_goto (tgt := 6) X.1 X.2.1 dJ7_fill_d0a16_19 (by decide) ?_
      exact ih (some a7) x1 (x3 + 1) x4 w8 _ _ _ _ _ hf M hS (by omega) (by omega) (lv_sub hl [1, 2, 0, 3] rfl)
def f_J7_fill_d0a16 (x0 : Option Nat) (x1 : Int64) (w : Wd) : Option (Unit × Wd) := gN w x0 101 (fun v2 => (f_J7_fill_d0a16_6 FU) x0 x1 0 v2 w)
set_option maxHeartbeats 4000000 in
set_option maxRecDepth 100000 in
theorem e_J7_fill_d0a16 {l : Launch} {D : va_G} {aC : Nat → ClassId} {b0 : Nat} {p : Program} {e : Env} {s : State} {m : MethodId} {args : Array Value} {below : List Frame} {meth : Method} {c : Code} (X : Cx D aC p s m args meth c cJ7_fill_d0a16 RJ7 5 "fill" none) {res : (Unit × Wd)} (x0 : Option Nat) (x1 : Int64) (w : Wd) : BW l D aC b0 p e rJ7_fill_d0a16 s m args below meth c (Qe D aC b0 below args s 0 0 none res.2) res 0 0 0 0 (f_J7_fill_d0a16 x0 x1 w) w 0 5 [(0, va_rf x0), (1, .long x1)] [] := by
  intro H locs cells slots ls hf M hS hc hs hl
  unfold f_J7_fill_d0a16 at hf
  refine lv_iconst (v := 0) X.1 X.2.1 dJ7_fill_d0a16_0 (by decide) ?_
  refine lv_istore_n (i := 3) (lv' := [(3, .int 0), (0, va_rf x0), (1, .long x1)]) X.1 X.2.1 dJ7_fill_d0a16_1 rfl hl (by decide) rfl (fun ls hl => ?_)
  refine q_aload_n X dJ7_fill_d0a16_2 rfl (lv_at hl 1 rfl) ?_
  have ho := gN_e hf
  clear hf
  obtain ⟨a1, v2, e3, k4, q5, hf⟩ := ho
  cases e3
  refine q_alen X M (t := 1) (by decide) k4 dJ7_fill_d0a16_3 ?_
  rw [q5]
  refine lv_istore (i := 4) (lv' := [(4, .int v2), (3, .int 0), (0, va_rf (some a1)), (1, .long x1)]) X.1 X.2.1 dJ7_fill_d0a16_4 hl (by decide) rfl (fun ls hl => ?_)
  exact (b_J7_fill_d0a16_6 X FU) (some a1) x1 0 v2 w _ _ _ _ _ hf M hS (by omega) (by omega) (lv_sub hl [2, 3, 1, 0] rfl)
theorem m_J7_fill_d0a16 {l : Launch} {D : va_G} {aC : Nat → ClassId} {b0 : Nat} {w : Wd} (x0 : Option Nat) (x1 : Int64) (v : Unit) (w' : Wd) (hf : f_J7_fill_d0a16 x0 x1 w = some (v, w')) : Ct l D aC b0 yJ7_fill_d0a16 (Cond.code yJ7_fill_d0a16 cJ7_fill_d0a16 5 none :: Gw) rJ7_fill_d0a16 [va_rf x0, .long x1] w none w' :=
  q_met (by decide) (by simp [lg_sl, cat1, cati, catl]) (fun p e s m below meth c X M ls hl => e_J7_fill_d0a16 X (res := (v, w')) x0 x1 w s.heap [] 0 0 ls hf M va_S.rf (by decide) (by decide) (by simpa [lv_args, cat1, cati, catl] using hl))
abbrev rJ7_fill_53178 : Room := { frames := 0, cells := 0, slots := 0, locals := 0 }
def f_J7_fill_53178_5 : Nat → Option Nat → Int32 → Int32 → Int32 → Wd → Option (Unit × Wd)
  | 0, _, _, _, _, _ => none
  | n + 1, x0, x1, x2, x3, w => if x3 ≤ x2 then (some ((), w)) else (tI w x0 100 x2 x1 (fun w8 => (f_J7_fill_53178_5 n) x0 x1 (x2 + 1) x3 w8))
set_option maxHeartbeats 4000000 in
set_option maxRecDepth 100000 in
theorem b_J7_fill_53178_5 {l : Launch} {D : va_G} {aC : Nat → ClassId} {b0 : Nat} {p : Program} {e : Env} {s : State} {m : MethodId} {args : Array Value} {below : List Frame} {meth : Method} {c : Code} (X : Cx D aC p s m args meth c cJ7_fill_53178 RJ7 4 "fill" none) {res : (Unit × Wd)} : ∀ (n : Nat) (x0 : Option Nat) (x1 : Int32) (x2 : Int32) (x3 : Int32) (w : Wd), BW l D aC b0 p e rJ7_fill_53178 s m args below meth c (Qe D aC b0 below args s 0 0 none res.2) res 0 0 0 0 (f_J7_fill_53178_5 n x0 x1 x2 x3 w) w 5 4 [(0, va_rf x0), (1, .int x1), (2, .int x2), (3, .int x3)] [] := by
  intro n
  induction n with
  | zero =>
    intro x0 x1 x2 x3 w H locs cells slots ls hf
    rw [f_J7_fill_53178_5.eq_1] at hf
    cases hf
  | succ n ih =>
    intro x0 x1 x2 x3 w H locs cells slots ls hf M hS hc hs hl
    rw [f_J7_fill_53178_5.eq_2] at hf
    refine lv_iload_n X.1 X.2.1 dJ7_fill_53178_5 rfl (lv_at hl 2 rfl) ?_
    refine lv_iload_n X.1 X.2.1 dJ7_fill_53178_6 rfl (lv_at hl 3 rfl) ?_
    refine lv_icmp_ge (tgt := 20) X.1 X.2.1 dJ7_fill_53178_7 (by decide) (fun c6 => ?_) (fun c6 => ?_)
    · rw [if_pos c6] at hf
      obtain rfl := Option.some.inj hf
      exact q_vret X M hS (by omega) (by omega) dJ7_fill_53178_20
    · rw [if_neg c6] at hf
      refine q_aload_n X dJ7_fill_53178_10 rfl (lv_at hl 0 rfl) ?_
      refine lv_iload_n X.1 X.2.1 dJ7_fill_53178_11 rfl (lv_at hl 2 rfl) ?_
      refine lv_iload_n X.1 X.2.1 dJ7_fill_53178_12 rfl (lv_at hl 1 rfl) ?_
      have ho := tI_e hf
      clear hf
      obtain ⟨a7, w8, e9, k10, i11, q12, hf⟩ := ho
      cases e9
      refine q_iast X M hS k10 i11 dJ7_fill_53178_13 (fun H locs M hS => ?_)
      rw [q12] at M
      refine lv_iinc (v := (x2 + 1)) (lv' := [(2, .int (x2 + 1)), (0, va_rf (some a7)), (1, .int x1), (3, .int x3)]) X.1 X.2.1 dJ7_fill_53178_14 hl (k := 2) rfl rfl (by decide) rfl (fun ls hl => ?_)
      refine lv_goto (tgt := 5) X.1 X.2.1 dJ7_fill_53178_17 (by decide) ?_
      exact ih (some a7) x1 (x2 + 1) x3 w8 _ _ _ _ _ hf M hS (by omega) (by omega) (lv_sub hl [1, 2, 0, 3] rfl)
def f_J7_fill_53178 (x0 : Option Nat) (x1 : Int32) (w : Wd) : Option (Unit × Wd) := gN w x0 100 (fun v2 => (f_J7_fill_53178_5 FU) x0 x1 0 v2 w)
set_option maxHeartbeats 4000000 in
set_option maxRecDepth 100000 in
theorem e_J7_fill_53178 {l : Launch} {D : va_G} {aC : Nat → ClassId} {b0 : Nat} {p : Program} {e : Env} {s : State} {m : MethodId} {args : Array Value} {below : List Frame} {meth : Method} {c : Code} (X : Cx D aC p s m args meth c cJ7_fill_53178 RJ7 4 "fill" none) {res : (Unit × Wd)} (x0 : Option Nat) (x1 : Int32) (w : Wd) : BW l D aC b0 p e rJ7_fill_53178 s m args below meth c (Qe D aC b0 below args s 0 0 none res.2) res 0 0 0 0 (f_J7_fill_53178 x0 x1 w) w 0 4 [(0, va_rf x0), (1, .int x1)] [] := by
  intro H locs cells slots ls hf M hS hc hs hl
  unfold f_J7_fill_53178 at hf
  refine lv_iconst (v := 0) X.1 X.2.1 dJ7_fill_53178_0 (by decide) ?_
  refine lv_istore_n (i := 2) (lv' := [(2, .int 0), (0, va_rf x0), (1, .int x1)]) X.1 X.2.1 dJ7_fill_53178_1 rfl hl (by decide) rfl (fun ls hl => ?_)
  refine q_aload_n X dJ7_fill_53178_2 rfl (lv_at hl 1 rfl) ?_
  have ho := gN_e hf
  clear hf
  obtain ⟨a1, v2, e3, k4, q5, hf⟩ := ho
  cases e3
  refine q_alen X M (t := 0) (by decide) k4 dJ7_fill_53178_3 ?_
  rw [q5]
  refine lv_istore_n (i := 3) (lv' := [(3, .int v2), (2, .int 0), (0, va_rf (some a1)), (1, .int x1)]) X.1 X.2.1 dJ7_fill_53178_4 rfl hl (by decide) rfl (fun ls hl => ?_)
  exact (b_J7_fill_53178_5 X FU) (some a1) x1 0 v2 w _ _ _ _ _ hf M hS (by omega) (by omega) (lv_sub hl [2, 3, 1, 0] rfl)
theorem m_J7_fill_53178 {l : Launch} {D : va_G} {aC : Nat → ClassId} {b0 : Nat} {w : Wd} (x0 : Option Nat) (x1 : Int32) (v : Unit) (w' : Wd) (hf : f_J7_fill_53178 x0 x1 w = some (v, w')) : Ct l D aC b0 yJ7_fill_53178 (Cond.code yJ7_fill_53178 cJ7_fill_53178 4 none :: Gw) rJ7_fill_53178 [va_rf x0, .int x1] w none w' :=
  q_met (by decide) (by simp [lg_sl, cat1, cati, catl]) (fun p e s m below meth c X M ls hl => e_J7_fill_53178 X (res := (v, w')) x0 x1 w s.heap [] 0 0 ls hf M va_S.rf (by decide) (by decide) (by simpa [lv_args, cat1, cati, catl] using hl))
abbrev rX0_empty : Room := { frames := 1, cells := 0, slots := 0, locals := 24 }
def f_X0_empty (o : Nat) (w : Wd) : Option (Unit × Wd) := pI w (some o) 1 3 0 (fun w2 => gR w2 (some o) 1 4 (fun v7 => bnd (f_J7_fill_d0a16 v7 0 w2) (fun v11 w12 => gR w12 (some o) 1 9 (fun v15 => bnd (f_J7_fill_53178 v15 0 w12) (fun v19 w20 => gR w20 (some o) 1 10 (fun v23 => bnd (f_J7_fill_53178 v23 0 w20) (fun v27 w28 => some ((), w28))))))))
set_option maxHeartbeats 4000000 in
set_option maxRecDepth 100000 in
theorem e_X0_empty {l : Launch} {D : va_G} {aC : Nat → ClassId} {b0 : Nat} {p : Program} {e : Env} {s : State} {m : MethodId} {args : Array Value} {below : List Frame} {meth : Method} {c : Code} (X : Cx D aC p s m args meth c cX0_empty RX0 1 "empty" none) {res : (Unit × Wd)} (o : Nat) (w : Wd) : BW l D aC b0 p e rX0_empty s m args below meth c (Qe D aC b0 below args s 0 0 none res.2) res 0 0 0 0 (f_X0_empty o w) w 0 1 [(0, va_rf (some o))] [] := by
  intro H locs cells slots ls hf M hS hc hs hl
  unfold f_X0_empty at hf
  refine q_aload_n X dX0_empty_0 rfl (lv_at hl 0 rfl) ?_
  refine lv_iconst (v := 0) X.1 X.2.1 dX0_empty_1 (by decide) ?_
  have ho := pI_e hf
  clear hf
  obtain ⟨a1, w2, e3, k4, q5, hf⟩ := ho
  cases e3
  refine q_putI X M hS flX0_44 (Or.inl rfl) k4 dX0_empty_2 (fun H locs M hS => ?_)
  rw [q5] at M
  refine q_aload_n X dX0_empty_5 rfl (lv_at hl 0 rfl) ?_
  have ho := gR_e hf
  clear hf
  obtain ⟨a6, v7, e8, k9, q10, hf⟩ := ho
  cases e8
  refine q_get X M flX0_9.g k9 (congrArg va_rf q10) dX0_empty_6 ?_
  refine lv_lconst (v := 0) X.1 X.2.1 dX0_empty_9 (by decide) ?_
  have ho := bnd_e hf
  clear hf
  obtain ⟨v11, w12, q13, hf⟩ := ho
  refine q_cS X M hS hl.1 (As := [va_rf v7, .long 0]) (m_J7_fill_d0a16 v7 0 _ _ q13) mlX0_53 gm_422 rfl ⟨(Nat.le_of_ble_eq_true rfl), (Nat.le_of_ble_eq_true rfl)⟩ (rest := []) rfl (Nat.le_of_ble_eq_true rfl) (mc := 0) (ms := 0) (MC := 0) (MS := 0) rfl rfl rfl rfl (by omega) (by omega) dX0_empty_10 (st2 := []) rfl (fun H locs M hS => ?_)
  refine q_aload_n X dX0_empty_13 rfl (lv_at hl 0 rfl) ?_
  have ho := gR_e hf
  clear hf
  obtain ⟨a14, v15, e16, k17, q18, hf⟩ := ho
  cases e16
  refine q_get X M flX0_28.g k17 (congrArg va_rf q18) dX0_empty_14 ?_
  refine lv_iconst (v := 0) X.1 X.2.1 dX0_empty_17 (by decide) ?_
  have ho := bnd_e hf
  clear hf
  obtain ⟨v19, w20, q21, hf⟩ := ho
  refine q_cS X M hS hl.1 (As := [va_rf v15, .int 0]) (m_J7_fill_53178 v15 0 _ _ q21) mlX0_59 gm_426 rfl ⟨(Nat.le_of_ble_eq_true rfl), (Nat.le_of_ble_eq_true rfl)⟩ (rest := []) rfl (Nat.le_of_ble_eq_true rfl) (mc := 0) (ms := 0) (MC := 0) (MS := 0) rfl rfl rfl rfl (by omega) (by omega) dX0_empty_18 (st2 := []) rfl (fun H locs M hS => ?_)
  refine q_aload_n X dX0_empty_21 rfl (lv_at hl 0 rfl) ?_
  have ho := gR_e hf
  clear hf
  obtain ⟨a22, v23, e24, k25, q26, hf⟩ := ho
  cases e24
  refine q_get X M flX0_31.g k25 (congrArg va_rf q26) dX0_empty_22 ?_
  refine lv_iconst (v := 0) X.1 X.2.1 dX0_empty_25 (by decide) ?_
  have ho := bnd_e hf
  clear hf
  obtain ⟨v27, w28, q29, hf⟩ := ho
  refine q_cS X M hS hl.1 (As := [va_rf v23, .int 0]) (m_J7_fill_53178 v23 0 _ _ q29) mlX0_59 gm_426 rfl ⟨(Nat.le_of_ble_eq_true rfl), (Nat.le_of_ble_eq_true rfl)⟩ (rest := []) rfl (Nat.le_of_ble_eq_true rfl) (mc := 0) (ms := 0) (MC := 0) (MS := 0) rfl rfl rfl rfl (by omega) (by omega) dX0_empty_26 (st2 := []) rfl (fun H locs M hS => ?_)
  obtain rfl := Option.some.inj hf
  exact q_vret X M hS (by omega) (by omega) dX0_empty_29
theorem m_X0_empty {l : Launch} {D : va_G} {aC : Nat → ClassId} {b0 : Nat} {w : Wd} (o : Nat) (v : Unit) (w' : Wd) (hf : f_X0_empty o w = some (v, w')) : Ct l D aC b0 yX0_empty (Cond.code yX0_empty cX0_empty 1 none :: Gw) rX0_empty [va_rf (some o)] w none w' :=
  q_met (by decide) (Nat.le_of_ble_eq_true rfl) (fun p e s m below meth c X M ls hl => e_X0_empty X (res := (v, w')) o w s.heap [] 0 0 ls hf M va_S.rf (by decide) (by decide) hl)
abbrev rX4_keep : Room := { frames := 2, cells := 0, slots := 0, locals := 47 }
def f_X4_keep_2 : Nat → Nat → Int32 → Wd → Option (Unit × Wd)
  | 0, _, _, _ => none
  | n + 1, o, x1, w => if 8 ≤ x1 then (pZ w (some o) 5 5 1 (fun w3 => some ((), w3))) else (gR w (some o) 5 3 (fun v9 => aR w v9 103 x1 (fun v14 => gR w (some o) 5 2 (fun v20 => aR w v20 103 x1 (fun v25 => chk w v14 1 (fun a33 => bnd (f_X0_copyFrom a33 v25 w) (fun v30 w31 => (f_X4_keep_2 n) o (x1 + 1) w31)))))))
set_option maxHeartbeats 4000000 in
set_option maxRecDepth 100000 in
theorem b_X4_keep_2 {l : Launch} {D : va_G} {aC : Nat → ClassId} {b0 : Nat} {p : Program} {e : Env} {s : State} {m : MethodId} {args : Array Value} {below : List Frame} {meth : Method} {c : Code} (X : Cx D aC p s m args meth c cX4_keep RX4 2 "keep" none) {res : (Unit × Wd)} : ∀ (n : Nat) (o : Nat) (x1 : Int32) (w : Wd), BW l D aC b0 p e rX4_keep s m args below meth c (Qe D aC b0 below args s 0 0 none res.2) res 0 0 0 0 (f_X4_keep_2 n o x1 w) w 2 2 [(0, va_rf (some o)), (1, .int x1)] [] := by
  intro n
  induction n with
  | zero =>
    intro o x1 w H locs cells slots ls hf
    rw [f_X4_keep_2.eq_1] at hf
    cases hf
  | succ n ih =>
    intro o x1 w H locs cells slots ls hf M hS hc hs hl
    rw [f_X4_keep_2.eq_2] at hf
    refine lv_iload_n X.1 X.2.1 dX4_keep_2 rfl (lv_at hl 1 rfl) ?_
    refine lv_bipush (v := 8) X.1 X.2.1 dX4_keep_3 (by decide) ?_
    refine lv_icmp_ge (tgt := 29) X.1 X.2.1 dX4_keep_5 (by decide) (fun c1 => ?_) (fun c1 => ?_)
    · rw [if_pos c1] at hf
      refine q_aload_n X dX4_keep_29 rfl (lv_at hl 0 rfl) ?_
      refine lv_iconst (v := 1) X.1 X.2.1 dX4_keep_30 (by decide) ?_
      have ho := pZ_e hf
      clear hf
      obtain ⟨a2, w3, e4, k5, z7, q6, hf⟩ := ho
      cases e4
      refine q_putZ X M hS flX4_33 (Or.inl rfl) k5 z7 dX4_keep_31 (fun H locs M hS => ?_)
      rw [q6] at M
      obtain rfl := Option.some.inj hf
      exact q_vret X M hS (by omega) (by omega) dX4_keep_34
    · rw [if_neg c1] at hf
      refine q_aload_n X dX4_keep_8 rfl (lv_at hl 0 rfl) ?_
      have ho := gR_e hf
      clear hf
      obtain ⟨a8, v9, e10, k11, q12, hf⟩ := ho
      cases e10
      refine q_get X M flX4_26.g k11 (congrArg va_rf q12) dX4_keep_9 ?_
      refine lv_iload_n X.1 X.2.1 dX4_keep_12 rfl (lv_at hl 1 rfl) ?_
      have ho := aR_e hf
      clear hf
      obtain ⟨a13, v14, e15, k16, i17, q18, hf⟩ := ho
      cases e15
      refine q_aald X M (Or.inl ⟨rfl, rfl, rfl⟩) k16 i17 dX4_keep_13 ?_
      rw [q18]
      refine q_aload_n X dX4_keep_14 rfl (lv_at hl 0 rfl) ?_
      have ho := gR_e hf
      clear hf
      obtain ⟨a19, v20, e21, k22, q23, hf⟩ := ho
      cases e21
      refine q_get X M flX4_22.g k22 (congrArg va_rf q23) dX4_keep_15 ?_
      refine lv_iload_n X.1 X.2.1 dX4_keep_18 rfl (lv_at hl 1 rfl) ?_
      have ho := aR_e hf
      clear hf
      obtain ⟨a24, v25, e26, k27, i28, q29, hf⟩ := ho
      cases e26
      refine q_aald X M (Or.inl ⟨rfl, rfl, rfl⟩) k27 i28 dX4_keep_19 ?_
      rw [q29]
      have ho := chk_e hf
      clear hf
      obtain ⟨a33, e34, k35, hf⟩ := ho
      cases e34
      have ho := bnd_e hf
      clear hf
      obtain ⟨v30, w31, q32, hf⟩ := ho
      refine q_cV X M hS hl.1 (ci := 0) (r := (RX0, TX0, 11)) (As := [va_rf v25]) (m_X0_copyFrom a33 v25 _ _ q32) mlX4_56 gm_71 gm_72 rfl (by decide) k35 rfl ⟨(Nat.le_of_ble_eq_true rfl), (Nat.le_of_ble_eq_true rfl)⟩ (rest := []) rfl (Nat.le_of_ble_eq_true rfl) (mc := 0) (ms := 0) (MC := 0) (MS := 0) rfl rfl rfl rfl (by omega) (by omega) dX4_keep_20 (st2 := []) rfl (fun H locs M hS => ?_)
      refine lv_iinc (v := (x1 + 1)) (lv' := [(1, .int (x1 + 1)), (0, va_rf (some o))]) X.1 X.2.1 dX4_keep_23 hl (k := 1) rfl rfl (by decide) rfl (fun ls hl => ?_)
      refine lv_goto (tgt := 2) X.1 X.2.1 dX4_keep_26 (by decide) ?_
      exact ih o (x1 + 1) w31 _ _ _ _ _ hf M hS (by omega) (by omega) (lv_sub hl [1, 0] rfl)
def f_X4_keep (o : Nat) (w : Wd) : Option (Unit × Wd) := (f_X4_keep_2 FU) o 0 w
set_option maxHeartbeats 4000000 in
set_option maxRecDepth 100000 in
theorem e_X4_keep {l : Launch} {D : va_G} {aC : Nat → ClassId} {b0 : Nat} {p : Program} {e : Env} {s : State} {m : MethodId} {args : Array Value} {below : List Frame} {meth : Method} {c : Code} (X : Cx D aC p s m args meth c cX4_keep RX4 2 "keep" none) {res : (Unit × Wd)} (o : Nat) (w : Wd) : BW l D aC b0 p e rX4_keep s m args below meth c (Qe D aC b0 below args s 0 0 none res.2) res 0 0 0 0 (f_X4_keep o w) w 0 2 [(0, va_rf (some o))] [] := by
  intro H locs cells slots ls hf M hS hc hs hl
  unfold f_X4_keep at hf
  refine lv_iconst (v := 0) X.1 X.2.1 dX4_keep_0 (by decide) ?_
  refine lv_istore_n (i := 1) (lv' := [(1, .int 0), (0, va_rf (some o))]) X.1 X.2.1 dX4_keep_1 rfl hl (by decide) rfl (fun ls hl => ?_)
  exact (b_X4_keep_2 X FU) o 0 w _ _ _ _ _ hf M hS (by omega) (by omega) (lv_sub hl [1, 0] rfl)
theorem m_X4_keep {l : Launch} {D : va_G} {aC : Nat → ClassId} {b0 : Nat} {w : Wd} (o : Nat) (v : Unit) (w' : Wd) (hf : f_X4_keep o w = some (v, w')) : Ct l D aC b0 yX4_keep (Cond.code yX4_keep cX4_keep 2 none :: Gw) rX4_keep [va_rf (some o)] w none w' :=
  q_met (by decide) (Nat.le_of_ble_eq_true rfl) (fun p e s m below meth c X M ls hl => e_X4_keep X (res := (v, w')) o w s.heap [] 0 0 ls hf M va_S.rf (by decide) (by decide) hl)
abbrev rX3_clear : Room := { frames := 0, cells := 0, slots := 0, locals := 0 }
def f_X3_clear_2 : Nat → Nat → Int32 → Wd → Option (Unit × Wd)
  | 0, _, _, _ => none
  | n + 1, o, x1, w => gI w (some o) 4 1 (fun v2 => if v2 ≤ x1 then (pI w (some o) 4 1 0 (fun w8 => some ((), w8))) else (gR w (some o) 4 0 (fun v13 => tR w v13 105 x1 none 3 (fun w18 => (f_X3_clear_2 n) o (x1 + 1) w18))))
set_option maxHeartbeats 4000000 in
set_option maxRecDepth 100000 in
theorem b_X3_clear_2 {l : Launch} {D : va_G} {aC : Nat → ClassId} {b0 : Nat} {p : Program} {e : Env} {s : State} {m : MethodId} {args : Array Value} {below : List Frame} {meth : Method} {c : Code} (X : Cx D aC p s m args meth c cX3_clear RX3 2 "clear" none) {res : (Unit × Wd)} : ∀ (n : Nat) (o : Nat) (x1 : Int32) (w : Wd), BW l D aC b0 p e rX3_clear s m args below meth c (Qe D aC b0 below args s 0 0 none res.2) res 0 0 0 0 (f_X3_clear_2 n o x1 w) w 2 2 [(0, va_rf (some o)), (1, .int x1)] [] := by
  intro n
  induction n with
  | zero =>
    intro o x1 w H locs cells slots ls hf
    rw [f_X3_clear_2.eq_1] at hf
    cases hf
  | succ n ih =>
    intro o x1 w H locs cells slots ls hf M hS hc hs hl
    rw [f_X3_clear_2.eq_2] at hf
    refine lv_iload_n X.1 X.2.1 dX3_clear_2 rfl (lv_at hl 1 rfl) ?_
    refine q_aload_n X dX3_clear_3 rfl (lv_at hl 0 rfl) ?_
    have ho := gI_e hf
    clear hf
    obtain ⟨a1, v2, e3, k4, q5, hf⟩ := ho
    cases e3
    refine q_get X M flX3_21.g k4 (congrArg Value.int q5) dX3_clear_4 ?_
    refine lv_icmp_ge (tgt := 23) X.1 X.2.1 dX3_clear_7 (by decide) (fun c6 => ?_) (fun c6 => ?_)
    · rw [if_pos c6] at hf
      refine q_aload_n X dX3_clear_23 rfl (lv_at hl 0 rfl) ?_
      refine lv_iconst (v := 0) X.1 X.2.1 dX3_clear_24 (by decide) ?_
      have ho := pI_e hf
      clear hf
      obtain ⟨a7, w8, e9, k10, q11, hf⟩ := ho
      cases e9
      refine q_putI X M hS flX3_21 (Or.inl rfl) k10 dX3_clear_25 (fun H locs M hS => ?_)
      rw [q11] at M
      obtain rfl := Option.some.inj hf
      exact q_vret X M hS (by omega) (by omega) dX3_clear_28
    · rw [if_neg c6] at hf
      refine q_aload_n X dX3_clear_10 rfl (lv_at hl 0 rfl) ?_
      have ho := gR_e hf
      clear hf
      obtain ⟨a12, v13, e14, k15, q16, hf⟩ := ho
      cases e14
      refine q_get X M flX3_15.g k15 (congrArg va_rf q16) dX3_clear_11 ?_
      refine lv_iload_n X.1 X.2.1 dX3_clear_14 rfl (lv_at hl 1 rfl) ?_
      refine q_null X dX3_clear_15 ?_
      have ho := tR_e hf
      clear hf
      obtain ⟨a17, w18, e19, k20, i21, z23, q22, hf⟩ := ho
      cases e19
      refine q_aast X M hS (Or.inr (Or.inr (Or.inl ⟨rfl, rfl, rfl⟩))) k20 z23 i21 dX3_clear_16 (fun H locs M hS => ?_)
      rw [q22] at M
      refine lv_iinc (v := (x1 + 1)) (lv' := [(1, .int (x1 + 1)), (0, va_rf (some o))]) X.1 X.2.1 dX3_clear_17 hl (k := 1) rfl rfl (by decide) rfl (fun ls hl => ?_)
      refine lv_goto (tgt := 2) X.1 X.2.1 dX3_clear_20 (by decide) ?_
      exact ih o (x1 + 1) w18 _ _ _ _ _ hf M hS (by omega) (by omega) (lv_sub hl [1, 0] rfl)
def f_X3_clear (o : Nat) (w : Wd) : Option (Unit × Wd) := (f_X3_clear_2 FU) o 0 w
set_option maxHeartbeats 4000000 in
set_option maxRecDepth 100000 in
theorem e_X3_clear {l : Launch} {D : va_G} {aC : Nat → ClassId} {b0 : Nat} {p : Program} {e : Env} {s : State} {m : MethodId} {args : Array Value} {below : List Frame} {meth : Method} {c : Code} (X : Cx D aC p s m args meth c cX3_clear RX3 2 "clear" none) {res : (Unit × Wd)} (o : Nat) (w : Wd) : BW l D aC b0 p e rX3_clear s m args below meth c (Qe D aC b0 below args s 0 0 none res.2) res 0 0 0 0 (f_X3_clear o w) w 0 2 [(0, va_rf (some o))] [] := by
  intro H locs cells slots ls hf M hS hc hs hl
  unfold f_X3_clear at hf
  refine lv_iconst (v := 0) X.1 X.2.1 dX3_clear_0 (by decide) ?_
  refine lv_istore_n (i := 1) (lv' := [(1, .int 0), (0, va_rf (some o))]) X.1 X.2.1 dX3_clear_1 rfl hl (by decide) rfl (fun ls hl => ?_)
  exact (b_X3_clear_2 X FU) o 0 w _ _ _ _ _ hf M hS (by omega) (by omega) (lv_sub hl [1, 0] rfl)
theorem m_X3_clear {l : Launch} {D : va_G} {aC : Nat → ClassId} {b0 : Nat} {w : Wd} (o : Nat) (v : Unit) (w' : Wd) (hf : f_X3_clear o w = some (v, w')) : Ct l D aC b0 yX3_clear (Cond.code yX3_clear cX3_clear 2 none :: Gw) rX3_clear [va_rf (some o)] w none w' :=
  q_met (by decide) (Nat.le_of_ble_eq_true rfl) (fun p e s m below meth c X M ls hl => e_X3_clear X (res := (v, w')) o w s.heap [] 0 0 ls hf M va_S.rf (by decide) (by decide) hl)
abbrev rX4_restore : Room := { frames := 2, cells := 0, slots := 0, locals := 47 }
def f_X4_restore_2 : Nat → Nat → Int32 → Wd → Option (Unit × Wd)
  | 0, _, _, _ => none
  | n + 1, o, x1, w => if 8 ≤ x1 then (pZ w (some o) 5 5 1 (fun w3 => some ((), w3))) else (gR w (some o) 5 2 (fun v9 => aR w v9 103 x1 (fun v14 => gR w (some o) 5 3 (fun v20 => aR w v20 103 x1 (fun v25 => chk w v14 1 (fun a33 => bnd (f_X0_copyFrom a33 v25 w) (fun v30 w31 => (f_X4_restore_2 n) o (x1 + 1) w31)))))))
set_option maxHeartbeats 4000000 in
set_option maxRecDepth 100000 in
theorem b_X4_restore_2 {l : Launch} {D : va_G} {aC : Nat → ClassId} {b0 : Nat} {p : Program} {e : Env} {s : State} {m : MethodId} {args : Array Value} {below : List Frame} {meth : Method} {c : Code} (X : Cx D aC p s m args meth c cX4_restore RX4 2 "restore" none) {res : (Unit × Wd)} : ∀ (n : Nat) (o : Nat) (x1 : Int32) (w : Wd), BW l D aC b0 p e rX4_restore s m args below meth c (Qe D aC b0 below args s 0 0 none res.2) res 0 0 0 0 (f_X4_restore_2 n o x1 w) w 2 2 [(0, va_rf (some o)), (1, .int x1)] [] := by
  intro n
  induction n with
  | zero =>
    intro o x1 w H locs cells slots ls hf
    rw [f_X4_restore_2.eq_1] at hf
    cases hf
  | succ n ih =>
    intro o x1 w H locs cells slots ls hf M hS hc hs hl
    rw [f_X4_restore_2.eq_2] at hf
    refine lv_iload_n X.1 X.2.1 dX4_restore_2 rfl (lv_at hl 1 rfl) ?_
    refine lv_bipush (v := 8) X.1 X.2.1 dX4_restore_3 (by decide) ?_
    refine lv_icmp_ge (tgt := 29) X.1 X.2.1 dX4_restore_5 (by decide) (fun c1 => ?_) (fun c1 => ?_)
    · rw [if_pos c1] at hf
      refine q_aload_n X dX4_restore_29 rfl (lv_at hl 0 rfl) ?_
      refine lv_iconst (v := 1) X.1 X.2.1 dX4_restore_30 (by decide) ?_
      have ho := pZ_e hf
      clear hf
      obtain ⟨a2, w3, e4, k5, z7, q6, hf⟩ := ho
      cases e4
      refine q_putZ X M hS flX4_33 (Or.inl rfl) k5 z7 dX4_restore_31 (fun H locs M hS => ?_)
      rw [q6] at M
      obtain rfl := Option.some.inj hf
      exact q_vret X M hS (by omega) (by omega) dX4_restore_34
    · rw [if_neg c1] at hf
      refine q_aload_n X dX4_restore_8 rfl (lv_at hl 0 rfl) ?_
      have ho := gR_e hf
      clear hf
      obtain ⟨a8, v9, e10, k11, q12, hf⟩ := ho
      cases e10
      refine q_get X M flX4_22.g k11 (congrArg va_rf q12) dX4_restore_9 ?_
      refine lv_iload_n X.1 X.2.1 dX4_restore_12 rfl (lv_at hl 1 rfl) ?_
      have ho := aR_e hf
      clear hf
      obtain ⟨a13, v14, e15, k16, i17, q18, hf⟩ := ho
      cases e15
      refine q_aald X M (Or.inl ⟨rfl, rfl, rfl⟩) k16 i17 dX4_restore_13 ?_
      rw [q18]
      refine q_aload_n X dX4_restore_14 rfl (lv_at hl 0 rfl) ?_
      have ho := gR_e hf
      clear hf
      obtain ⟨a19, v20, e21, k22, q23, hf⟩ := ho
      cases e21
      refine q_get X M flX4_26.g k22 (congrArg va_rf q23) dX4_restore_15 ?_
      refine lv_iload_n X.1 X.2.1 dX4_restore_18 rfl (lv_at hl 1 rfl) ?_
      have ho := aR_e hf
      clear hf
      obtain ⟨a24, v25, e26, k27, i28, q29, hf⟩ := ho
      cases e26
      refine q_aald X M (Or.inl ⟨rfl, rfl, rfl⟩) k27 i28 dX4_restore_19 ?_
      rw [q29]
      have ho := chk_e hf
      clear hf
      obtain ⟨a33, e34, k35, hf⟩ := ho
      cases e34
      have ho := bnd_e hf
      clear hf
      obtain ⟨v30, w31, q32, hf⟩ := ho
      refine q_cV X M hS hl.1 (ci := 0) (r := (RX0, TX0, 11)) (As := [va_rf v25]) (m_X0_copyFrom a33 v25 _ _ q32) mlX4_56 gm_71 gm_72 rfl (by decide) k35 rfl ⟨(Nat.le_of_ble_eq_true rfl), (Nat.le_of_ble_eq_true rfl)⟩ (rest := []) rfl (Nat.le_of_ble_eq_true rfl) (mc := 0) (ms := 0) (MC := 0) (MS := 0) rfl rfl rfl rfl (by omega) (by omega) dX4_restore_20 (st2 := []) rfl (fun H locs M hS => ?_)
      refine lv_iinc (v := (x1 + 1)) (lv' := [(1, .int (x1 + 1)), (0, va_rf (some o))]) X.1 X.2.1 dX4_restore_23 hl (k := 1) rfl rfl (by decide) rfl (fun ls hl => ?_)
      refine lv_goto (tgt := 2) X.1 X.2.1 dX4_restore_26 (by decide) ?_
      exact ih o (x1 + 1) w31 _ _ _ _ _ hf M hS (by omega) (by omega) (lv_sub hl [1, 0] rfl)
def f_X4_restore (o : Nat) (w : Wd) : Option (Unit × Wd) := (f_X4_restore_2 FU) o 0 w
set_option maxHeartbeats 4000000 in
set_option maxRecDepth 100000 in
theorem e_X4_restore {l : Launch} {D : va_G} {aC : Nat → ClassId} {b0 : Nat} {p : Program} {e : Env} {s : State} {m : MethodId} {args : Array Value} {below : List Frame} {meth : Method} {c : Code} (X : Cx D aC p s m args meth c cX4_restore RX4 2 "restore" none) {res : (Unit × Wd)} (o : Nat) (w : Wd) : BW l D aC b0 p e rX4_restore s m args below meth c (Qe D aC b0 below args s 0 0 none res.2) res 0 0 0 0 (f_X4_restore o w) w 0 2 [(0, va_rf (some o))] [] := by
  intro H locs cells slots ls hf M hS hc hs hl
  unfold f_X4_restore at hf
  refine lv_iconst (v := 0) X.1 X.2.1 dX4_restore_0 (by decide) ?_
  refine lv_istore_n (i := 1) (lv' := [(1, .int 0), (0, va_rf (some o))]) X.1 X.2.1 dX4_restore_1 rfl hl (by decide) rfl (fun ls hl => ?_)
  exact (b_X4_restore_2 X FU) o 0 w _ _ _ _ _ hf M hS (by omega) (by omega) (lv_sub hl [1, 0] rfl)
theorem m_X4_restore {l : Launch} {D : va_G} {aC : Nat → ClassId} {b0 : Nat} {w : Wd} (o : Nat) (v : Unit) (w' : Wd) (hf : f_X4_restore o w = some (v, w')) : Ct l D aC b0 yX4_restore (Cond.code yX4_restore cX4_restore 2 none :: Gw) rX4_restore [va_rf (some o)] w none w' :=
  q_met (by decide) (Nat.le_of_ble_eq_true rfl) (fun p e s m below meth c X M ls hl => e_X4_restore X (res := (v, w')) o w s.heap [] 0 0 ls hf M va_S.rf (by decide) (by decide) hl)
abbrev rX0_canLeaveFor : Room := { frames := 0, cells := 0, slots := 0, locals := 0 }
def f_X0_canLeaveFor (o : Nat) (x1 : Int32) (w : Wd) : Option (Int32 × Wd) := gI w (some o) 1 0 (fun v2 => if v2 = 1 then (retZ 1 w) else (gI w (some o) 1 0 (fun v9 => if v9 = 2 then (gI w (some o) 1 2 (fun v16 => if v16 = x1 then (retZ 1 w) else (retZ 0 w))) else (retZ 0 w))))
set_option maxHeartbeats 4000000 in
set_option maxRecDepth 100000 in
theorem e_X0_canLeaveFor {l : Launch} {D : va_G} {aC : Nat → ClassId} {b0 : Nat} {p : Program} {e : Env} {s : State} {m : MethodId} {args : Array Value} {below : List Frame} {meth : Method} {c : Code} (X : Cx D aC p s m args meth c cX0_canLeaveFor RX0 2 "canLeaveFor" (some .boolean)) {res : (Int32 × Wd)} (o : Nat) (x1 : Int32) (w : Wd) : BW l D aC b0 p e rX0_canLeaveFor s m args below meth c (Qe D aC b0 below args s 0 0 (some (.int res.1)) res.2) res 0 0 0 0 (f_X0_canLeaveFor o x1 w) w 0 2 [(0, va_rf (some o)), (1, .int x1)] [] := by
  intro H locs cells slots ls hf M hS hc hs hl
  unfold f_X0_canLeaveFor at hf
  refine q_aload_n X dX0_canLeaveFor_0 rfl (lv_at hl 0 rfl) ?_
  have ho := gI_e hf
  clear hf
  obtain ⟨a1, v2, e3, k4, q5, hf⟩ := ho
  cases e3
  refine q_get X M flX0_34.g k4 (congrArg Value.int q5) dX0_canLeaveFor_1 ?_
  refine lv_iconst (v := 1) X.1 X.2.1 dX0_canLeaveFor_4 (by decide) ?_
  refine lv_icmp_eq (tgt := 24) X.1 X.2.1 dX0_canLeaveFor_5 (by decide) (fun c6 => ?_) (fun c6 => ?_)
  · rw [if_pos c6] at hf
    refine lv_iconst (v := 1) X.1 X.2.1 dX0_canLeaveFor_24 (by decide) ?_
    refine lv_goto (tgt := 29) X.1 X.2.1 dX0_canLeaveFor_25 (by decide) ?_
    have ho := retZ_e hf
    clear hf
    obtain ⟨z7, rfl⟩ := ho
    exact q_zret X M hS (by omega) (by omega) z7 dX0_canLeaveFor_29
  · rw [if_neg c6] at hf
    refine q_aload_n X dX0_canLeaveFor_8 rfl (lv_at hl 0 rfl) ?_
    have ho := gI_e hf
    clear hf
    obtain ⟨a8, v9, e10, k11, q12, hf⟩ := ho
    cases e10
    refine q_get X M flX0_34.g k11 (congrArg Value.int q12) dX0_canLeaveFor_9 ?_
    refine lv_iconst (v := 2) X.1 X.2.1 dX0_canLeaveFor_12 (by decide) ?_
    refine lv_icmp_ne (tgt := 28) X.1 X.2.1 dX0_canLeaveFor_13 (by decide) (fun c13 => ?_) (fun c13 => ?_)
    · rw [if_neg c13] at hf
      refine lv_iconst (v := 0) X.1 X.2.1 dX0_canLeaveFor_28 (by decide) ?_
      have ho := retZ_e hf
      clear hf
      obtain ⟨z14, rfl⟩ := ho
      exact q_zret X M hS (by omega) (by omega) z14 dX0_canLeaveFor_29
    · rw [if_pos c13] at hf
      refine q_aload_n X dX0_canLeaveFor_16 rfl (lv_at hl 0 rfl) ?_
      have ho := gI_e hf
      clear hf
      obtain ⟨a15, v16, e17, k18, q19, hf⟩ := ho
      cases e17
      refine q_get X M flX0_41.g k18 (congrArg Value.int q19) dX0_canLeaveFor_17 ?_
      refine lv_iload_n X.1 X.2.1 dX0_canLeaveFor_20 rfl (lv_at hl 1 rfl) ?_
      refine lv_icmp_ne (tgt := 28) X.1 X.2.1 dX0_canLeaveFor_21 (by decide) (fun c20 => ?_) (fun c20 => ?_)
      · rw [if_neg c20] at hf
        refine lv_iconst (v := 0) X.1 X.2.1 dX0_canLeaveFor_28 (by decide) ?_
        have ho := retZ_e hf
        clear hf
        obtain ⟨z21, rfl⟩ := ho
        exact q_zret X M hS (by omega) (by omega) z21 dX0_canLeaveFor_29
      · rw [if_pos c20] at hf
        refine lv_iconst (v := 1) X.1 X.2.1 dX0_canLeaveFor_24 (by decide) ?_
        refine lv_goto (tgt := 29) X.1 X.2.1 dX0_canLeaveFor_25 (by decide) ?_
        have ho := retZ_e hf
        clear hf
        obtain ⟨z22, rfl⟩ := ho
        exact q_zret X M hS (by omega) (by omega) z22 dX0_canLeaveFor_29
theorem m_X0_canLeaveFor {l : Launch} {D : va_G} {aC : Nat → ClassId} {b0 : Nat} {w : Wd} (o : Nat) (x1 : Int32) (v : Int32) (w' : Wd) (hf : f_X0_canLeaveFor o x1 w = some (v, w')) : Ct l D aC b0 yX0_canLeaveFor (Cond.code yX0_canLeaveFor cX0_canLeaveFor 2 (some .boolean) :: Gw) rX0_canLeaveFor [va_rf (some o), .int x1] w (some (.int v)) w' :=
  q_met (by decide) (Nat.le_of_ble_eq_true rfl) (fun p e s m below meth c X M ls hl => e_X0_canLeaveFor X (res := (v, w')) o x1 w s.heap [] 0 0 ls hf M va_S.rf (by decide) (by decide) hl)
abbrev rX4_recordsInAll : Room := { frames := 0, cells := 0, slots := 0, locals := 0 }
def f_X4_recordsInAll_4 : Nat → Nat → Int32 → Int32 → Wd → Option (Int32 × Wd)
  | 0, _, _, _, _ => none
  | n + 1, o, x1, x2, w => if 8 ≤ x2 then (some (x1, w)) else (gR w (some o) 5 2 (fun v3 => aR w v3 103 x2 (fun v8 => gI w v8 1 3 (fun v14 => (f_X4_recordsInAll_4 n) o (x1 + v14) (x2 + 1) w))))
set_option maxHeartbeats 4000000 in
set_option maxRecDepth 100000 in
theorem b_X4_recordsInAll_4 {l : Launch} {D : va_G} {aC : Nat → ClassId} {b0 : Nat} {p : Program} {e : Env} {s : State} {m : MethodId} {args : Array Value} {below : List Frame} {meth : Method} {c : Code} (X : Cx D aC p s m args meth c cX4_recordsInAll RX4 3 "recordsInAll" (some .int)) {res : (Int32 × Wd)} : ∀ (n : Nat) (o : Nat) (x1 : Int32) (x2 : Int32) (w : Wd), BW l D aC b0 p e rX4_recordsInAll s m args below meth c (Qe D aC b0 below args s 0 0 (some (.int res.1)) res.2) res 0 0 0 0 (f_X4_recordsInAll_4 n o x1 x2 w) w 4 3 [(0, va_rf (some o)), (1, .int x1), (2, .int x2)] [] := by
  intro n
  induction n with
  | zero =>
    intro o x1 x2 w H locs cells slots ls hf
    rw [f_X4_recordsInAll_4.eq_1] at hf
    cases hf
  | succ n ih =>
    intro o x1 x2 w H locs cells slots ls hf M hS hc hs hl
    rw [f_X4_recordsInAll_4.eq_2] at hf
    refine lv_iload_n X.1 X.2.1 dX4_recordsInAll_4 rfl (lv_at hl 2 rfl) ?_
    refine lv_bipush (v := 8) X.1 X.2.1 dX4_recordsInAll_5 (by decide) ?_
    refine lv_icmp_ge (tgt := 28) X.1 X.2.1 dX4_recordsInAll_7 (by decide) (fun c1 => ?_) (fun c1 => ?_)
    · rw [if_pos c1] at hf
      refine lv_iload_n X.1 X.2.1 dX4_recordsInAll_28 rfl (lv_at hl 1 rfl) ?_
      obtain rfl := Option.some.inj hf
      exact q_iret X M hS (by omega) (by omega) dX4_recordsInAll_29
    · rw [if_neg c1] at hf
      refine lv_iload_n X.1 X.2.1 dX4_recordsInAll_10 rfl (lv_at hl 1 rfl) ?_
      refine q_aload_n X dX4_recordsInAll_11 rfl (lv_at hl 0 rfl) ?_
      have ho := gR_e hf
      clear hf
      obtain ⟨a2, v3, e4, k5, q6, hf⟩ := ho
      cases e4
      refine q_get X M flX4_22.g k5 (congrArg va_rf q6) dX4_recordsInAll_12 ?_
      refine lv_iload_n X.1 X.2.1 dX4_recordsInAll_15 rfl (lv_at hl 2 rfl) ?_
      have ho := aR_e hf
      clear hf
      obtain ⟨a7, v8, e9, k10, i11, q12, hf⟩ := ho
      cases e9
      refine q_aald X M (Or.inl ⟨rfl, rfl, rfl⟩) k10 i11 dX4_recordsInAll_16 ?_
      rw [q12]
      have ho := gI_e hf
      clear hf
      obtain ⟨a13, v14, e15, k16, q17, hf⟩ := ho
      cases e15
      refine q_get X M flX4_60.g k16 (congrArg Value.int q17) dX4_recordsInAll_17 ?_
      refine lv_iadd X.1 X.2.1 dX4_recordsInAll_20 ?_
      refine lv_istore_n (i := 1) (lv' := [(1, .int (x1 + v14)), (0, va_rf (some o)), (2, .int x2)]) X.1 X.2.1 dX4_recordsInAll_21 rfl hl (by decide) rfl (fun ls hl => ?_)
      refine lv_iinc (v := (x2 + 1)) (lv' := [(2, .int (x2 + 1)), (1, .int (x1 + v14)), (0, va_rf (some o))]) X.1 X.2.1 dX4_recordsInAll_22 hl (k := 2) rfl rfl (by decide) rfl (fun ls hl => ?_)
      refine lv_goto (tgt := 4) X.1 X.2.1 dX4_recordsInAll_25 (by decide) ?_
      exact ih o (x1 + v14) (x2 + 1) w _ _ _ _ _ hf M hS (by omega) (by omega) (lv_sub hl [2, 1, 0] rfl)
def f_X4_recordsInAll (o : Nat) (w : Wd) : Option (Int32 × Wd) := (f_X4_recordsInAll_4 FU) o 0 0 w
set_option maxHeartbeats 4000000 in
set_option maxRecDepth 100000 in
theorem e_X4_recordsInAll {l : Launch} {D : va_G} {aC : Nat → ClassId} {b0 : Nat} {p : Program} {e : Env} {s : State} {m : MethodId} {args : Array Value} {below : List Frame} {meth : Method} {c : Code} (X : Cx D aC p s m args meth c cX4_recordsInAll RX4 3 "recordsInAll" (some .int)) {res : (Int32 × Wd)} (o : Nat) (w : Wd) : BW l D aC b0 p e rX4_recordsInAll s m args below meth c (Qe D aC b0 below args s 0 0 (some (.int res.1)) res.2) res 0 0 0 0 (f_X4_recordsInAll o w) w 0 3 [(0, va_rf (some o))] [] := by
  intro H locs cells slots ls hf M hS hc hs hl
  unfold f_X4_recordsInAll at hf
  refine lv_iconst (v := 0) X.1 X.2.1 dX4_recordsInAll_0 (by decide) ?_
  refine lv_istore_n (i := 1) (lv' := [(1, .int 0), (0, va_rf (some o))]) X.1 X.2.1 dX4_recordsInAll_1 rfl hl (by decide) rfl (fun ls hl => ?_)
  refine lv_iconst (v := 0) X.1 X.2.1 dX4_recordsInAll_2 (by decide) ?_
  refine lv_istore_n (i := 2) (lv' := [(2, .int 0), (1, .int 0), (0, va_rf (some o))]) X.1 X.2.1 dX4_recordsInAll_3 rfl hl (by decide) rfl (fun ls hl => ?_)
  exact (b_X4_recordsInAll_4 X FU) o 0 0 w _ _ _ _ _ hf M hS (by omega) (by omega) (lv_sub hl [2, 1, 0] rfl)
theorem m_X4_recordsInAll {l : Launch} {D : va_G} {aC : Nat → ClassId} {b0 : Nat} {w : Wd} (o : Nat) (v : Int32) (w' : Wd) (hf : f_X4_recordsInAll o w = some (v, w')) : Ct l D aC b0 yX4_recordsInAll (Cond.code yX4_recordsInAll cX4_recordsInAll 3 (some .int) :: Gw) rX4_recordsInAll [va_rf (some o)] w (some (.int v)) w' :=
  q_met (by decide) (Nat.le_of_ble_eq_true rfl) (fun p e s m below meth c X M ls hl => e_X4_recordsInAll X (res := (v, w')) o w s.heap [] 0 0 ls hf M va_S.rf (by decide) (by decide) hl)
abbrev rX2_isBetweenServers : Room := { frames := 0, cells := 0, slots := 0, locals := 0 }
def f_X2_isBetweenServers (o : Nat) (w : Wd) : Option (Int32 × Wd) := gI w (some o) 3 0 (fun v2 => if v2 = 3 then (retZ 1 w) else (gI w (some o) 3 0 (fun v9 => if v9 = 4 then (retZ 1 w) else (retZ 0 w))))
set_option maxHeartbeats 4000000 in
set_option maxRecDepth 100000 in
theorem e_X2_isBetweenServers {l : Launch} {D : va_G} {aC : Nat → ClassId} {b0 : Nat} {p : Program} {e : Env} {s : State} {m : MethodId} {args : Array Value} {below : List Frame} {meth : Method} {c : Code} (X : Cx D aC p s m args meth c cX2_isBetweenServers RX2 1 "isBetweenServers" (some .boolean)) {res : (Int32 × Wd)} (o : Nat) (w : Wd) : BW l D aC b0 p e rX2_isBetweenServers s m args below meth c (Qe D aC b0 below args s 0 0 (some (.int res.1)) res.2) res 0 0 0 0 (f_X2_isBetweenServers o w) w 0 1 [(0, va_rf (some o))] [] := by
  intro H locs cells slots ls hf M hS hc hs hl
  unfold f_X2_isBetweenServers at hf
  refine q_aload_n X dX2_isBetweenServers_0 rfl (lv_at hl 0 rfl) ?_
  have ho := gI_e hf
  clear hf
  obtain ⟨a1, v2, e3, k4, q5, hf⟩ := ho
  cases e3
  refine q_get X M flX2_9.g k4 (congrArg Value.int q5) dX2_isBetweenServers_1 ?_
  refine lv_iconst (v := 3) X.1 X.2.1 dX2_isBetweenServers_4 (by decide) ?_
  refine lv_icmp_eq (tgt := 16) X.1 X.2.1 dX2_isBetweenServers_5 (by decide) (fun c6 => ?_) (fun c6 => ?_)
  · rw [if_pos c6] at hf
    refine lv_iconst (v := 1) X.1 X.2.1 dX2_isBetweenServers_16 (by decide) ?_
    refine lv_goto (tgt := 21) X.1 X.2.1 dX2_isBetweenServers_17 (by decide) ?_
    have ho := retZ_e hf
    clear hf
    obtain ⟨z7, rfl⟩ := ho
    exact q_zret X M hS (by omega) (by omega) z7 dX2_isBetweenServers_21
  · rw [if_neg c6] at hf
    refine q_aload_n X dX2_isBetweenServers_8 rfl (lv_at hl 0 rfl) ?_
    have ho := gI_e hf
    clear hf
    obtain ⟨a8, v9, e10, k11, q12, hf⟩ := ho
    cases e10
    refine q_get X M flX2_9.g k11 (congrArg Value.int q12) dX2_isBetweenServers_9 ?_
    refine lv_iconst (v := 4) X.1 X.2.1 dX2_isBetweenServers_12 (by decide) ?_
    refine lv_icmp_ne (tgt := 20) X.1 X.2.1 dX2_isBetweenServers_13 (by decide) (fun c13 => ?_) (fun c13 => ?_)
    · rw [if_neg c13] at hf
      refine lv_iconst (v := 0) X.1 X.2.1 dX2_isBetweenServers_20 (by decide) ?_
      have ho := retZ_e hf
      clear hf
      obtain ⟨z14, rfl⟩ := ho
      exact q_zret X M hS (by omega) (by omega) z14 dX2_isBetweenServers_21
    · rw [if_pos c13] at hf
      refine lv_iconst (v := 1) X.1 X.2.1 dX2_isBetweenServers_16 (by decide) ?_
      refine lv_goto (tgt := 21) X.1 X.2.1 dX2_isBetweenServers_17 (by decide) ?_
      have ho := retZ_e hf
      clear hf
      obtain ⟨z15, rfl⟩ := ho
      exact q_zret X M hS (by omega) (by omega) z15 dX2_isBetweenServers_21
theorem m_X2_isBetweenServers {l : Launch} {D : va_G} {aC : Nat → ClassId} {b0 : Nat} {w : Wd} (o : Nat) (v : Int32) (w' : Wd) (hf : f_X2_isBetweenServers o w = some (v, w')) : Ct l D aC b0 yX2_isBetweenServers (Cond.code yX2_isBetweenServers cX2_isBetweenServers 1 (some .boolean) :: Gw) rX2_isBetweenServers [va_rf (some o)] w (some (.int v)) w' :=
  q_met (by decide) (Nat.le_of_ble_eq_true rfl) (fun p e s m below meth c X M ls hl => e_X2_isBetweenServers X (res := (v, w')) o w s.heap [] 0 0 ls hf M va_S.rf (by decide) (by decide) hl)
abbrev rX2_fourthPart : Room := { frames := 1, cells := 0, slots := 0, locals := 20 }
def f_X2_fourthPart (o : Nat) (w : Wd) : Option (Int32 × Wd) := chk w (some o) 3 (fun a4 => bnd (f_X2_isBetweenServers a4 w) (fun v1 w2 => if v1 = 0 then (gI w2 (some o) 3 0 (fun v9 => if v9 = 5 then (gI w2 (some o) 3 6 (fun v20 => some (v20, w2))) else (gI w2 (some o) 3 5 (fun v15 => some (v15, w2))))) else (gI w2 (some o) 3 7 (fun v25 => some (v25, w2)))))
set_option maxHeartbeats 4000000 in
set_option maxRecDepth 100000 in
theorem e_X2_fourthPart {l : Launch} {D : va_G} {aC : Nat → ClassId} {b0 : Nat} {p : Program} {e : Env} {s : State} {m : MethodId} {args : Array Value} {below : List Frame} {meth : Method} {c : Code} (X : Cx D aC p s m args meth c cX2_fourthPart RX2 1 "fourthPart" (some .int)) {res : (Int32 × Wd)} (o : Nat) (w : Wd) : BW l D aC b0 p e rX2_fourthPart s m args below meth c (Qe D aC b0 below args s 0 0 (some (.int res.1)) res.2) res 0 0 0 0 (f_X2_fourthPart o w) w 0 1 [(0, va_rf (some o))] [] := by
  intro H locs cells slots ls hf M hS hc hs hl
  unfold f_X2_fourthPart at hf
  refine q_aload_n X dX2_fourthPart_0 rfl (lv_at hl 0 rfl) ?_
  have ho := chk_e hf
  clear hf
  obtain ⟨a4, e5, k6, hf⟩ := ho
  cases e5
  have ho := bnd_e hf
  clear hf
  obtain ⟨v1, w2, q3, hf⟩ := ho
  refine q_cV X M hS hl.1 (ci := 2) (r := (RX2, TX2, 15)) (As := []) (m_X2_isBetweenServers o _ _ q3) mlX2_21 gm_659 gm_660 rfl (by decide) k6 rfl ⟨(Nat.le_of_ble_eq_true rfl), (Nat.le_of_ble_eq_true rfl)⟩ (rest := []) rfl (Nat.le_of_ble_eq_true rfl) (mc := 0) (ms := 0) (MC := 0) (MS := 0) rfl rfl rfl rfl (by omega) (by omega) dX2_fourthPart_1 (st2 := [.int v1]) rfl (fun H locs M hS => ?_)
  refine lv_if_eq (tgt := 12) X.1 X.2.1 dX2_fourthPart_4 (by decide) (fun c7 => ?_) (fun c7 => ?_)
  · rw [if_pos c7] at hf
    refine q_aload_n X dX2_fourthPart_12 rfl (lv_at hl 0 rfl) ?_
    have ho := gI_e hf
    clear hf
    obtain ⟨a8, v9, e10, k11, q12, hf⟩ := ho
    cases e10
    refine q_get X M flX2_9.g k11 (congrArg Value.int q12) dX2_fourthPart_13 ?_
    refine lv_iconst (v := 5) X.1 X.2.1 dX2_fourthPart_16 (by decide) ?_
    refine lv_icmp_ne (tgt := 27) X.1 X.2.1 dX2_fourthPart_17 (by decide) (fun c13 => ?_) (fun c13 => ?_)
    · rw [if_neg c13] at hf
      refine q_aload_n X dX2_fourthPart_27 rfl (lv_at hl 0 rfl) ?_
      have ho := gI_e hf
      clear hf
      obtain ⟨a14, v15, e16, k17, q18, hf⟩ := ho
      cases e16
      refine q_get X M flX2_44.g k17 (congrArg Value.int q18) dX2_fourthPart_28 ?_
      obtain rfl := Option.some.inj hf
      exact q_iret X M hS (by omega) (by omega) dX2_fourthPart_31
    · rw [if_pos c13] at hf
      refine q_aload_n X dX2_fourthPart_20 rfl (lv_at hl 0 rfl) ?_
      have ho := gI_e hf
      clear hf
      obtain ⟨a19, v20, e21, k22, q23, hf⟩ := ho
      cases e21
      refine q_get X M flX2_41.g k22 (congrArg Value.int q23) dX2_fourthPart_21 ?_
      refine lv_goto (tgt := 31) X.1 X.2.1 dX2_fourthPart_24 (by decide) ?_
      obtain rfl := Option.some.inj hf
      exact q_iret X M hS (by omega) (by omega) dX2_fourthPart_31
  · rw [if_neg c7] at hf
    refine q_aload_n X dX2_fourthPart_7 rfl (lv_at hl 0 rfl) ?_
    have ho := gI_e hf
    clear hf
    obtain ⟨a24, v25, e26, k27, q28, hf⟩ := ho
    cases e26
    refine q_get X M flX2_38.g k27 (congrArg Value.int q28) dX2_fourthPart_8 ?_
    obtain rfl := Option.some.inj hf
    exact q_iret X M hS (by omega) (by omega) dX2_fourthPart_11
theorem m_X2_fourthPart {l : Launch} {D : va_G} {aC : Nat → ClassId} {b0 : Nat} {w : Wd} (o : Nat) (v : Int32) (w' : Wd) (hf : f_X2_fourthPart o w = some (v, w')) : Ct l D aC b0 yX2_fourthPart (Cond.code yX2_fourthPart cX2_fourthPart 1 (some .int) :: Gw) rX2_fourthPart [va_rf (some o)] w (some (.int v)) w' :=
  q_met (by decide) (Nat.le_of_ble_eq_true rfl) (fun p e s m below meth c X M ls hl => e_X2_fourthPart X (res := (v, w')) o w s.heap [] 0 0 ls hf M va_S.rf (by decide) (by decide) hl)
abbrev rX2_fifthPart : Room := { frames := 0, cells := 0, slots := 0, locals := 0 }
def f_X2_fifthPart (o : Nat) (w : Wd) : Option (Int32 × Wd) := gI w (some o) 3 0 (fun v2 => if v2 = 1 then (gI w (some o) 3 6 (fun v35 => some (v35, w))) else (gI w (some o) 3 0 (fun v8 => if v8 = 2 then (gI w (some o) 3 8 (fun v30 => some (v30, w))) else (gR w (some o) 3 14 (fun v14 => if v14 = none then (some (0, w)) else (gR w (some o) 3 14 (fun v20 => gI w v20 1 3 (fun v25 => some (v25, w)))))))))
set_option maxHeartbeats 4000000 in
set_option maxRecDepth 100000 in
theorem e_X2_fifthPart {l : Launch} {D : va_G} {aC : Nat → ClassId} {b0 : Nat} {p : Program} {e : Env} {s : State} {m : MethodId} {args : Array Value} {below : List Frame} {meth : Method} {c : Code} (X : Cx D aC p s m args meth c cX2_fifthPart RX2 1 "fifthPart" (some .int)) {res : (Int32 × Wd)} (o : Nat) (w : Wd) : BW l D aC b0 p e rX2_fifthPart s m args below meth c (Qe D aC b0 below args s 0 0 (some (.int res.1)) res.2) res 0 0 0 0 (f_X2_fifthPart o w) w 0 1 [(0, va_rf (some o))] [] := by
  intro H locs cells slots ls hf M hS hc hs hl
  unfold f_X2_fifthPart at hf
  refine q_aload_n X dX2_fifthPart_0 rfl (lv_at hl 0 rfl) ?_
  have ho := gI_e hf
  clear hf
  obtain ⟨a1, v2, e3, k4, q5, hf⟩ := ho
  cases e3
  refine q_get X M flX2_9.g k4 (congrArg Value.int q5) dX2_fifthPart_1 ?_
  refine lv_iconst (v := 1) X.1 X.2.1 dX2_fifthPart_4 (by decide) ?_
  refine lv_icmp_ne (tgt := 13) X.1 X.2.1 dX2_fifthPart_5 (by decide) (fun c6 => ?_) (fun c6 => ?_)
  · rw [if_neg c6] at hf
    refine q_aload_n X dX2_fifthPart_13 rfl (lv_at hl 0 rfl) ?_
    have ho := gI_e hf
    clear hf
    obtain ⟨a7, v8, e9, k10, q11, hf⟩ := ho
    cases e9
    refine q_get X M flX2_9.g k10 (congrArg Value.int q11) dX2_fifthPart_14 ?_
    refine lv_iconst (v := 2) X.1 X.2.1 dX2_fifthPart_17 (by decide) ?_
    refine lv_icmp_ne (tgt := 26) X.1 X.2.1 dX2_fifthPart_18 (by decide) (fun c12 => ?_) (fun c12 => ?_)
    · rw [if_neg c12] at hf
      refine q_aload_n X dX2_fifthPart_26 rfl (lv_at hl 0 rfl) ?_
      have ho := gR_e hf
      clear hf
      obtain ⟨a13, v14, e15, k16, q17, hf⟩ := ho
      cases e15
      refine q_get X M flX2_50.g k16 (congrArg va_rf q17) dX2_fifthPart_27 ?_
      refine q_ifnonnull (tgt := 37) X dX2_fifthPart_30 (by decide) (fun c18 => ?_) (fun c18 => ?_)
      · rw [if_neg c18] at hf
        refine q_aload_n X dX2_fifthPart_37 rfl (lv_at hl 0 rfl) ?_
        have ho := gR_e hf
        clear hf
        obtain ⟨a19, v20, e21, k22, q23, hf⟩ := ho
        cases e21
        refine q_get X M flX2_50.g k22 (congrArg va_rf q23) dX2_fifthPart_38 ?_
        have ho := gI_e hf
        clear hf
        obtain ⟨a24, v25, e26, k27, q28, hf⟩ := ho
        cases e26
        refine q_get X M flX2_54.g k27 (congrArg Value.int q28) dX2_fifthPart_41 ?_
        obtain rfl := Option.some.inj hf
        exact q_iret X M hS (by omega) (by omega) dX2_fifthPart_44
      · rw [if_pos c18] at hf
        refine lv_iconst (v := 0) X.1 X.2.1 dX2_fifthPart_33 (by decide) ?_
        refine lv_goto (tgt := 44) X.1 X.2.1 dX2_fifthPart_34 (by decide) ?_
        obtain rfl := Option.some.inj hf
        exact q_iret X M hS (by omega) (by omega) dX2_fifthPart_44
    · rw [if_pos c12] at hf
      refine q_aload_n X dX2_fifthPart_21 rfl (lv_at hl 0 rfl) ?_
      have ho := gI_e hf
      clear hf
      obtain ⟨a29, v30, e31, k32, q33, hf⟩ := ho
      cases e31
      refine q_get X M flX2_47.g k32 (congrArg Value.int q33) dX2_fifthPart_22 ?_
      obtain rfl := Option.some.inj hf
      exact q_iret X M hS (by omega) (by omega) dX2_fifthPart_25
  · rw [if_pos c6] at hf
    refine q_aload_n X dX2_fifthPart_8 rfl (lv_at hl 0 rfl) ?_
    have ho := gI_e hf
    clear hf
    obtain ⟨a34, v35, e36, k37, q38, hf⟩ := ho
    cases e36
    refine q_get X M flX2_41.g k37 (congrArg Value.int q38) dX2_fifthPart_9 ?_
    obtain rfl := Option.some.inj hf
    exact q_iret X M hS (by omega) (by omega) dX2_fifthPart_12
theorem m_X2_fifthPart {l : Launch} {D : va_G} {aC : Nat → ClassId} {b0 : Nat} {w : Wd} (o : Nat) (v : Int32) (w' : Wd) (hf : f_X2_fifthPart o w = some (v, w')) : Ct l D aC b0 yX2_fifthPart (Cond.code yX2_fifthPart cX2_fifthPart 1 (some .int) :: Gw) rX2_fifthPart [va_rf (some o)] w (some (.int v)) w' :=
  q_met (by decide) (Nat.le_of_ble_eq_true rfl) (fun p e s m below meth c X M ls hl => e_X2_fifthPart X (res := (v, w')) o w s.heap [] 0 0 ls hf M va_S.rf (by decide) (by decide) hl)
abbrev rX2_part : Room := { frames := 2, cells := 0, slots := 0, locals := 40 }
def f_X2_part (o : Nat) (x1 : Int32) (w : Wd) : Option (Int32 × Wd) := if x1 = 0 then (gI w (some o) 3 0 (fun v3 => some (v3, w))) else if x1 = 1 then (gI w (some o) 3 1 (fun v9 => some (v9, w))) else if x1 = 2 then (gI w (some o) 3 2 (fun v15 => some (v15, w))) else if x1 = 3 then (chk w (some o) 3 (fun a23 => bnd (f_X2_isBetweenServers a23 w) (fun v20 w21 => if v20 = 0 then (gI w21 (some o) 3 3 (fun v28 => some (v28, w21))) else (gI w21 (some o) 3 4 (fun v33 => some (v33, w21)))))) else if x1 = 4 then (chk w (some o) 3 (fun a41 => bnd (f_X2_fourthPart a41 w) (fun v38 w39 => some (v38, w39)))) else if x1 = 5 then (chk w (some o) 3 (fun a48 => bnd (f_X2_fifthPart a48 w) (fun v45 w46 => some (v45, w46)))) else (some ((-1), w))
set_option maxHeartbeats 4000000 in
set_option maxRecDepth 100000 in
theorem e_X2_part {l : Launch} {D : va_G} {aC : Nat → ClassId} {b0 : Nat} {p : Program} {e : Env} {s : State} {m : MethodId} {args : Array Value} {below : List Frame} {meth : Method} {c : Code} (X : Cx D aC p s m args meth c cX2_part RX2 2 "part" (some .int)) {res : (Int32 × Wd)} (o : Nat) (x1 : Int32) (w : Wd) : BW l D aC b0 p e rX2_part s m args below meth c (Qe D aC b0 below args s 0 0 (some (.int res.1)) res.2) res 0 0 0 0 (f_X2_part o x1 w) w 0 2 [(0, va_rf (some o)), (1, .int x1)] [] := by
  intro H locs cells slots ls hf M hS hc hs hl
  unfold f_X2_part at hf
  refine lv_iload_n X.1 X.2.1 dX2_part_0 rfl (lv_at hl 1 rfl) ?_
  by_cases c1 : x1 = 0
  · rw [if_pos c1] at hf
    refine lv_tableIn (tgt := 40) (off := 39) X.1 X.2.1 dX2_part_1 (by rw [c1]; decide) (by rw [c1]; decide) (by rw [c1]; rfl) (by decide) ?_
    refine q_aload_n X dX2_part_40 rfl (lv_at hl 0 rfl) ?_
    have ho := gI_e hf
    clear hf
    obtain ⟨a2, v3, e4, k5, q6, hf⟩ := ho
    cases e4
    refine q_get X M flX2_9.g k5 (congrArg Value.int q6) dX2_part_41 ?_
    obtain rfl := Option.some.inj hf
    exact q_iret X M hS (by omega) (by omega) dX2_part_44
  rw [if_neg c1] at hf
  by_cases c7 : x1 = 1
  · rw [if_pos c7] at hf
    refine lv_tableIn (tgt := 45) (off := 44) X.1 X.2.1 dX2_part_1 (by rw [c7]; decide) (by rw [c7]; decide) (by rw [c7]; rfl) (by decide) ?_
    refine q_aload_n X dX2_part_45 rfl (lv_at hl 0 rfl) ?_
    have ho := gI_e hf
    clear hf
    obtain ⟨a8, v9, e10, k11, q12, hf⟩ := ho
    cases e10
    refine q_get X M flX2_15.g k11 (congrArg Value.int q12) dX2_part_46 ?_
    obtain rfl := Option.some.inj hf
    exact q_iret X M hS (by omega) (by omega) dX2_part_49
  rw [if_neg c7] at hf
  by_cases c13 : x1 = 2
  · rw [if_pos c13] at hf
    refine lv_tableIn (tgt := 50) (off := 49) X.1 X.2.1 dX2_part_1 (by rw [c13]; decide) (by rw [c13]; decide) (by rw [c13]; rfl) (by decide) ?_
    refine q_aload_n X dX2_part_50 rfl (lv_at hl 0 rfl) ?_
    have ho := gI_e hf
    clear hf
    obtain ⟨a14, v15, e16, k17, q18, hf⟩ := ho
    cases e16
    refine q_get X M flX2_18.g k17 (congrArg Value.int q18) dX2_part_51 ?_
    obtain rfl := Option.some.inj hf
    exact q_iret X M hS (by omega) (by omega) dX2_part_54
  rw [if_neg c13] at hf
  by_cases c19 : x1 = 3
  · rw [if_pos c19] at hf
    refine lv_tableIn (tgt := 55) (off := 54) X.1 X.2.1 dX2_part_1 (by rw [c19]; decide) (by rw [c19]; decide) (by rw [c19]; rfl) (by decide) ?_
    refine q_aload_n X dX2_part_55 rfl (lv_at hl 0 rfl) ?_
    have ho := chk_e hf
    clear hf
    obtain ⟨a23, e24, k25, hf⟩ := ho
    cases e24
    have ho := bnd_e hf
    clear hf
    obtain ⟨v20, w21, q22, hf⟩ := ho
    refine q_cV X M hS hl.1 (ci := 2) (r := (RX2, TX2, 15)) (As := []) (m_X2_isBetweenServers o _ _ q22) mlX2_21 gm_659 gm_660 rfl (by decide) k25 rfl ⟨(Nat.le_of_ble_eq_true rfl), (Nat.le_of_ble_eq_true rfl)⟩ (rest := []) rfl (Nat.le_of_ble_eq_true rfl) (mc := 0) (ms := 0) (MC := 0) (MS := 0) rfl rfl rfl rfl (by omega) (by omega) dX2_part_56 (st2 := [.int v20]) rfl (fun H locs M hS => ?_)
    refine lv_if_eq (tgt := 69) X.1 X.2.1 dX2_part_59 (by decide) (fun c26 => ?_) (fun c26 => ?_)
    · rw [if_pos c26] at hf
      refine q_aload_n X dX2_part_69 rfl (lv_at hl 0 rfl) ?_
      have ho := gI_e hf
      clear hf
      obtain ⟨a27, v28, e29, k30, q31, hf⟩ := ho
      cases e29
      refine q_get X M flX2_28.g k30 (congrArg Value.int q31) dX2_part_70 ?_
      obtain rfl := Option.some.inj hf
      exact q_iret X M hS (by omega) (by omega) dX2_part_73
    · rw [if_neg c26] at hf
      refine q_aload_n X dX2_part_62 rfl (lv_at hl 0 rfl) ?_
      have ho := gI_e hf
      clear hf
      obtain ⟨a32, v33, e34, k35, q36, hf⟩ := ho
      cases e34
      refine q_get X M flX2_25.g k35 (congrArg Value.int q36) dX2_part_63 ?_
      refine lv_goto (tgt := 73) X.1 X.2.1 dX2_part_66 (by decide) ?_
      obtain rfl := Option.some.inj hf
      exact q_iret X M hS (by omega) (by omega) dX2_part_73
  rw [if_neg c19] at hf
  by_cases c37 : x1 = 4
  · rw [if_pos c37] at hf
    refine lv_tableIn (tgt := 74) (off := 73) X.1 X.2.1 dX2_part_1 (by rw [c37]; decide) (by rw [c37]; decide) (by rw [c37]; rfl) (by decide) ?_
    refine q_aload_n X dX2_part_74 rfl (lv_at hl 0 rfl) ?_
    have ho := chk_e hf
    clear hf
    obtain ⟨a41, e42, k43, hf⟩ := ho
    cases e42
    have ho := bnd_e hf
    clear hf
    obtain ⟨v38, w39, q40, hf⟩ := ho
    refine q_cV X M hS hl.1 (ci := 2) (r := (RX2, TX2, 15)) (As := []) (m_X2_fourthPart o _ _ q40) mlX2_31 gm_663 gm_664 rfl (by decide) k43 rfl ⟨(Nat.le_of_ble_eq_true rfl), (Nat.le_of_ble_eq_true rfl)⟩ (rest := []) rfl (Nat.le_of_ble_eq_true rfl) (mc := 0) (ms := 0) (MC := 0) (MS := 0) rfl rfl rfl rfl (by omega) (by omega) dX2_part_75 (st2 := [.int v38]) rfl (fun H locs M hS => ?_)
    obtain rfl := Option.some.inj hf
    exact q_iret X M hS (by omega) (by omega) dX2_part_78
  rw [if_neg c37] at hf
  by_cases c44 : x1 = 5
  · rw [if_pos c44] at hf
    refine lv_tableIn (tgt := 79) (off := 78) X.1 X.2.1 dX2_part_1 (by rw [c44]; decide) (by rw [c44]; decide) (by rw [c44]; rfl) (by decide) ?_
    refine q_aload_n X dX2_part_79 rfl (lv_at hl 0 rfl) ?_
    have ho := chk_e hf
    clear hf
    obtain ⟨a48, e49, k50, hf⟩ := ho
    cases e49
    have ho := bnd_e hf
    clear hf
    obtain ⟨v45, w46, q47, hf⟩ := ho
    refine q_cV X M hS hl.1 (ci := 2) (r := (RX2, TX2, 15)) (As := []) (m_X2_fifthPart o _ _ q47) mlX2_35 gm_670 gm_671 rfl (by decide) k50 rfl ⟨(Nat.le_of_ble_eq_true rfl), (Nat.le_of_ble_eq_true rfl)⟩ (rest := []) rfl (Nat.le_of_ble_eq_true rfl) (mc := 0) (ms := 0) (MC := 0) (MS := 0) rfl rfl rfl rfl (by omega) (by omega) dX2_part_80 (st2 := [.int v45]) rfl (fun H locs M hS => ?_)
    obtain rfl := Option.some.inj hf
    exact q_iret X M hS (by omega) (by omega) dX2_part_83
  rw [if_neg c44] at hf
  have ht1 : x1.toInt < 0 ∨ 5 < x1.toInt := by
    have g0 : x1.toInt ≠ 0 := by simpa using ne_i c1
    have g1 : x1.toInt ≠ 1 := by simpa using ne_i c7
    have g2 : x1.toInt ≠ 2 := by simpa using ne_i c13
    have g3 : x1.toInt ≠ 3 := by simpa using ne_i c19
    have g4 : x1.toInt ≠ 4 := by simpa using ne_i c37
    have g5 : x1.toInt ≠ 5 := by simpa using ne_i c44
    omega
  refine lv_tableOut (tgt := 84) X.1 X.2.1 dX2_part_1 ht1 (by decide) ?_
  refine lv_iconst (v := (-1)) X.1 X.2.1 dX2_part_84 (by decide) ?_
  obtain rfl := Option.some.inj hf
  exact q_iret X M hS (by omega) (by omega) dX2_part_85
theorem m_X2_part {l : Launch} {D : va_G} {aC : Nat → ClassId} {b0 : Nat} {w : Wd} (o : Nat) (x1 : Int32) (v : Int32) (w' : Wd) (hf : f_X2_part o x1 w = some (v, w')) : Ct l D aC b0 yX2_part (Cond.code yX2_part cX2_part 2 (some .int) :: Gw) rX2_part [va_rf (some o), .int x1] w (some (.int v)) w' :=
  q_met (by decide) (Nat.le_of_ble_eq_true rfl) (fun p e s m below meth c X M ls hl => e_X2_part X (res := (v, w')) o x1 w s.heap [] 0 0 ls hf M va_S.rf (by decide) (by decide) hl)
