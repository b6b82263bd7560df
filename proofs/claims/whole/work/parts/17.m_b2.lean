abbrev rX5_takeRequest : Room := { frames := 4, cells := 1, slots := 15, locals := 96 }
def f_X5_takeRequest (o : Nat) (x1 : Option Nat) (x2 : Option Nat) (w : Wd) : Option (Unit × Wd) := gI w x2 3 9 (fun v2 => bnd (f_X5_bucketOf v2 w) (fun v6 w7 => chk w7 x1 5 (fun a12 => bnd (f_X4_bucketAt a12 v6 w7) (fun v9 w10 => if v9 = none then (some ((), w10)) else (gI w10 x2 3 2 (fun v17 => gI w10 x2 3 3 (fun v22 => chk w10 (some o) 6 (fun a29 => bnd (f_X5_isLive a29 v17 v22 w10) (fun v26 w27 => if v26 = 0 then (chk w27 (some o) 6 (fun a71 => bnd (f_X5_answer a71 x1 x2 3 0 w27) (fun v68 w69 => some ((), w69)))) else (gI w27 v9 1 0 (fun v34 => if v34 = 2 then (chk w27 (some o) 6 (fun a65 => bnd (f_X5_answer a65 x1 x2 2 0 w27) (fun v62 w63 => some ((), w63)))) else (gI w27 v9 1 0 (fun v40 => if v40 = 0 then (gI w27 v9 1 2 (fun v52 => chk w27 (some o) 6 (fun a59 => bnd (f_X5_answer a59 x1 x2 1 (v52.toInt64) w27) (fun v56 w57 => some ((), w57))))) else (chk w27 (some o) 6 (fun a48 => bnd (f_X5_takeOwnRequest a48 x1 v9 x2 w27) (fun v45 w46 => some ((), w46)))))))))))))))))
set_option maxHeartbeats 4000000 in
set_option maxRecDepth 100000 in
theorem e_X5_takeRequest {l : Launch} {D : va_G} {aC : Nat → ClassId} {b0 : Nat} {p : Program} {e : Env} {s : State} {m : MethodId} {args : Array Value} {below : List Frame} {meth : Method} {c : Code} (X : Cx D aC p s m args meth c cX5_takeRequest RX5 4 "takeRequest" none) {res : (Unit × Wd)} (o : Nat) (x1 : Option Nat) (x2 : Option Nat) (w : Wd) : BW l D aC b0 p e rX5_takeRequest s m args below meth c (Qe D aC b0 below args s 1 15 none res.2) res 1 15 1 15 (f_X5_takeRequest o x1 x2 w) w 0 4 [(0, va_rf (some o)), (1, va_rf x1), (2, va_rf x2)] [] := by
  intro H locs cells slots ls hf M hS hc hs hl
  unfold f_X5_takeRequest at hf
  refine q_aload_n X dX5_takeRequest_0 rfl (lv_at hl 1 rfl) ?_
  refine q_aload_n X dX5_takeRequest_1 rfl (lv_at hl 2 rfl) ?_
  have ho := gI_e hf
  clear hf
  obtain ⟨a1, v2, e3, k4, q5, hf⟩ := ho
  cases e3
  refine q_get X M flX5_268.g k4 (congrArg Value.int q5) dX5_takeRequest_2 ?_
  have ho := bnd_e hf
  clear hf
  obtain ⟨v6, w7, q8, hf⟩ := ho
  refine q_cS X M hS hl.1 (As := [.int v2]) (m_X5_bucketOf v2 _ _ q8) mlX5_205 gm_222 rfl ⟨(Nat.le_of_ble_eq_true rfl), (Nat.le_of_ble_eq_true rfl)⟩ (rest := [va_rf x1]) rfl (by simp [cat1, cati, catl]) (mc := 0) (ms := 0) (MC := 1) (MS := 15) rfl rfl rfl rfl (by omega) (by omega) dX5_takeRequest_5 (st2 := [.int v6, va_rf x1]) rfl (fun H locs M hS => ?_)
  have ho := chk_e hf
  clear hf
  obtain ⟨a12, e13, k14, hf⟩ := ho
  cases e13
  have ho := bnd_e hf
  clear hf
  obtain ⟨v9, w10, q11, hf⟩ := ho
  refine q_cV X M hS hl.1 (ci := 4) (r := (RX4, TX4, 6)) (As := [.int v6]) (m_X4_bucketAt a12 v6 _ _ q11) mlX5_146 gm_344 gm_345 rfl (by decide) k14 rfl ⟨(Nat.le_of_ble_eq_true rfl), (Nat.le_of_ble_eq_true rfl)⟩ (rest := []) rfl (Nat.le_of_ble_eq_true rfl) (mc := 0) (ms := 0) (MC := 1) (MS := 15) rfl rfl rfl rfl (by omega) (by omega) dX5_takeRequest_8 (st2 := [va_rf v9]) rfl (fun H locs M hS => ?_)
  refine q_astore_n (i := 3) (lv' := [(3, va_rf v9), (0, va_rf (some o)), (1, va_rf (some a12)), (2, va_rf (some a1))]) X dX5_takeRequest_11 rfl hl (by decide) rfl (fun ls hl => ?_)
  refine q_aload_n X dX5_takeRequest_12 rfl (lv_at hl 0 rfl) ?_
  refine q_ifnonnull (tgt := 17) X dX5_takeRequest_13 (by decide) (fun c15 => ?_) (fun c15 => ?_)
  · rw [if_neg c15] at hf
    refine q_aload_n X dX5_takeRequest_17 rfl (lv_at hl 1 rfl) ?_
    refine q_aload_n X dX5_takeRequest_18 rfl (lv_at hl 3 rfl) ?_
    have ho := gI_e hf
    clear hf
    obtain ⟨a16, v17, e18, k19, q20, hf⟩ := ho
    cases e18
    refine q_get X M flX5_271 k19 (congrArg Value.int q20) dX5_takeRequest_19 ?_
    refine q_aload_n X dX5_takeRequest_22 rfl (lv_at hl 3 rfl) ?_
    have ho := gI_e hf
    clear hf
    obtain ⟨a21, v22, e23, k24, q25, hf⟩ := ho
    cases e23
    refine q_get X M flX5_94.g k24 (congrArg Value.int q25) dX5_takeRequest_23 ?_
    have ho := chk_e hf
    clear hf
    obtain ⟨a29, e30, k31, hf⟩ := ho
    cases e30
    have ho := bnd_e hf
    clear hf
    obtain ⟨v26, w27, q28, hf⟩ := ho
    refine q_cV X M hS hl.1 (ci := 5) (r := (RX5, TX5, 9)) (As := [.int v17, .int v22]) (m_X5_isLive o v17 v22 _ _ q28) mlX5_57 gm_178 gm_179 rfl (by decide) k31 rfl ⟨(Nat.le_of_ble_eq_true rfl), (Nat.le_of_ble_eq_true rfl)⟩ (rest := []) rfl (Nat.le_of_ble_eq_true rfl) (mc := 0) (ms := 0) (MC := 1) (MS := 15) rfl rfl rfl rfl (by omega) (by omega) dX5_takeRequest_26 (st2 := [.int v26]) rfl (fun H locs M hS => ?_)
    refine lv_if_ne (tgt := 43) X.1 X.2.1 dX5_takeRequest_29 (by decide) (fun c32 => ?_) (fun c32 => ?_)
    · rw [if_neg c32] at hf
      refine q_aload_n X dX5_takeRequest_43 rfl (lv_at hl 0 rfl) ?_
      have ho := gI_e hf
      clear hf
      obtain ⟨a33, v34, e35, k36, q37, hf⟩ := ho
      cases e35
      refine q_get X M flX5_155.g k36 (congrArg Value.int q37) dX5_takeRequest_44 ?_
      refine lv_iconst (v := 2) X.1 X.2.1 dX5_takeRequest_47 (by decide) ?_
      refine lv_icmp_ne (tgt := 62) X.1 X.2.1 dX5_takeRequest_48 (by decide) (fun c38 => ?_) (fun c38 => ?_)
      · rw [if_neg c38] at hf
        refine q_aload_n X dX5_takeRequest_62 rfl (lv_at hl 0 rfl) ?_
        have ho := gI_e hf
        clear hf
        obtain ⟨a39, v40, e41, k42, q43, hf⟩ := ho
        cases e41
        refine q_get X M flX5_155.g k42 (congrArg Value.int q43) dX5_takeRequest_63 ?_
        refine lv_if_ne (tgt := 84) X.1 X.2.1 dX5_takeRequest_66 (by decide) (fun c44 => ?_) (fun c44 => ?_)
        · rw [if_neg c44] at hf
          refine q_aload_n X dX5_takeRequest_84 rfl (lv_at hl 1 rfl) ?_
          refine q_aload_n X dX5_takeRequest_85 rfl (lv_at hl 2 rfl) ?_
          refine q_aload_n X dX5_takeRequest_86 rfl (lv_at hl 0 rfl) ?_
          refine q_aload_n X dX5_takeRequest_87 rfl (lv_at hl 3 rfl) ?_
          have ho := chk_e hf
          clear hf
          obtain ⟨a48, e49, k50, hf⟩ := ho
          cases e49
          have ho := bnd_e hf
          clear hf
          obtain ⟨v45, w46, q47, hf⟩ := ho
          refine q_cV X M hS hl.1 (ci := 5) (r := (RX5, TX5, 9)) (As := [va_rf (some a12), va_rf (some a33), va_rf (some a1)]) (m_X5_takeOwnRequest o (some a12) (some a33) (some a1) _ _ q47) mlX5_278 gm_359 gm_360 rfl (by decide) k50 rfl ⟨(Nat.le_of_ble_eq_true rfl), (Nat.le_of_ble_eq_true rfl)⟩ (rest := []) rfl (Nat.le_of_ble_eq_true rfl) (mc := 1) (ms := 15) (MC := 1) (MS := 15) rfl rfl rfl rfl (by omega) (by omega) dX5_takeRequest_88 (st2 := []) rfl (fun H locs M hS => ?_)
          obtain rfl := Option.some.inj hf
          exact q_vret X M hS (by omega) (by omega) dX5_takeRequest_91
        · rw [if_pos c44] at hf
          refine q_aload_n X dX5_takeRequest_69 rfl (lv_at hl 1 rfl) ?_
          refine q_aload_n X dX5_takeRequest_70 rfl (lv_at hl 2 rfl) ?_
          refine q_aload_n X dX5_takeRequest_71 rfl (lv_at hl 3 rfl) ?_
          refine lv_iconst (v := 1) X.1 X.2.1 dX5_takeRequest_72 (by decide) ?_
          refine q_aload_n X dX5_takeRequest_73 rfl (lv_at hl 0 rfl) ?_
          have ho := gI_e hf
          clear hf
          obtain ⟨a51, v52, e53, k54, q55, hf⟩ := ho
          cases e53
          refine q_get X M flX5_158.g k54 (congrArg Value.int q55) dX5_takeRequest_74 ?_
          refine lv_i2l (v := v52.toInt64) X.1 X.2.1 dX5_takeRequest_77 rfl ?_
          have ho := chk_e hf
          clear hf
          obtain ⟨a59, e60, k61, hf⟩ := ho
          cases e60
          have ho := bnd_e hf
          clear hf
          obtain ⟨v56, w57, q58, hf⟩ := ho
          refine q_cV X M hS hl.1 (ci := 5) (r := (RX5, TX5, 9)) (As := [va_rf (some a12), va_rf (some a1), .int 1, .long (v52.toInt64)]) (m_X5_answer o (some a12) (some a1) 1 (v52.toInt64) _ _ q58) mlX5_274 gm_348 gm_349 rfl (by decide) k61 rfl ⟨(Nat.le_of_ble_eq_true rfl), (Nat.le_of_ble_eq_true rfl)⟩ (rest := []) rfl (Nat.le_of_ble_eq_true rfl) (mc := 1) (ms := 15) (MC := 1) (MS := 15) rfl rfl rfl rfl (by omega) (by omega) dX5_takeRequest_78 (st2 := []) rfl (fun H locs M hS => ?_)
          refine lv_goto (tgt := 91) X.1 X.2.1 dX5_takeRequest_81 (by decide) ?_
          obtain rfl := Option.some.inj hf
          exact q_vret X M hS (by omega) (by omega) dX5_takeRequest_91
      · rw [if_pos c38] at hf
        refine q_aload_n X dX5_takeRequest_51 rfl (lv_at hl 1 rfl) ?_
        refine q_aload_n X dX5_takeRequest_52 rfl (lv_at hl 2 rfl) ?_
        refine q_aload_n X dX5_takeRequest_53 rfl (lv_at hl 3 rfl) ?_
        refine lv_iconst (v := 2) X.1 X.2.1 dX5_takeRequest_54 (by decide) ?_
        refine lv_lconst (v := 0) X.1 X.2.1 dX5_takeRequest_55 (by decide) ?_
        have ho := chk_e hf
        clear hf
        obtain ⟨a65, e66, k67, hf⟩ := ho
        cases e66
        have ho := bnd_e hf
        clear hf
        obtain ⟨v62, w63, q64, hf⟩ := ho
        refine q_cV X M hS hl.1 (ci := 5) (r := (RX5, TX5, 9)) (As := [va_rf (some a12), va_rf (some a1), .int 2, .long 0]) (m_X5_answer o (some a12) (some a1) 2 0 _ _ q64) mlX5_274 gm_348 gm_349 rfl (by decide) k67 rfl ⟨(Nat.le_of_ble_eq_true rfl), (Nat.le_of_ble_eq_true rfl)⟩ (rest := []) rfl (Nat.le_of_ble_eq_true rfl) (mc := 1) (ms := 15) (MC := 1) (MS := 15) rfl rfl rfl rfl (by omega) (by omega) dX5_takeRequest_56 (st2 := []) rfl (fun H locs M hS => ?_)
        refine lv_goto (tgt := 91) X.1 X.2.1 dX5_takeRequest_59 (by decide) ?_
        obtain rfl := Option.some.inj hf
        exact q_vret X M hS (by omega) (by omega) dX5_takeRequest_91
    · rw [if_pos c32] at hf
      refine q_aload_n X dX5_takeRequest_32 rfl (lv_at hl 1 rfl) ?_
      refine q_aload_n X dX5_takeRequest_33 rfl (lv_at hl 2 rfl) ?_
      refine q_aload_n X dX5_takeRequest_34 rfl (lv_at hl 3 rfl) ?_
      refine lv_iconst (v := 3) X.1 X.2.1 dX5_takeRequest_35 (by decide) ?_
      refine lv_lconst (v := 0) X.1 X.2.1 dX5_takeRequest_36 (by decide) ?_
      have ho := chk_e hf
      clear hf
      obtain ⟨a71, e72, k73, hf⟩ := ho
      cases e72
      have ho := bnd_e hf
      clear hf
      obtain ⟨v68, w69, q70, hf⟩ := ho
      refine q_cV X M hS hl.1 (ci := 5) (r := (RX5, TX5, 9)) (As := [va_rf (some a12), va_rf (some a1), .int 3, .long 0]) (m_X5_answer o (some a12) (some a1) 3 0 _ _ q70) mlX5_274 gm_348 gm_349 rfl (by decide) k73 rfl ⟨(Nat.le_of_ble_eq_true rfl), (Nat.le_of_ble_eq_true rfl)⟩ (rest := []) rfl (Nat.le_of_ble_eq_true rfl) (mc := 1) (ms := 15) (MC := 1) (MS := 15) rfl rfl rfl rfl (by omega) (by omega) dX5_takeRequest_37 (st2 := []) rfl (fun H locs M hS => ?_)
      refine lv_goto (tgt := 91) X.1 X.2.1 dX5_takeRequest_40 (by decide) ?_
      obtain rfl := Option.some.inj hf
      exact q_vret X M hS (by omega) (by omega) dX5_takeRequest_91
  · rw [if_pos c15] at hf
    obtain rfl := Option.some.inj hf
    exact q_vret X M hS (by omega) (by omega) dX5_takeRequest_16
theorem m_X5_takeRequest {l : Launch} {D : va_G} {aC : Nat → ClassId} {b0 : Nat} {w : Wd} (o : Nat) (x1 : Option Nat) (x2 : Option Nat) (v : Unit) (w' : Wd) (hf : f_X5_takeRequest o x1 x2 w = some (v, w')) : Ct l D aC b0 yX5_takeRequest (Cond.code yX5_takeRequest cX5_takeRequest 4 none :: Gw) rX5_takeRequest [va_rf (some o), va_rf x1, va_rf x2] w none w' :=
  q_met (by decide) (by simp [lg_sl, cat1, cati, catl]) (fun p e s m below meth c X M ls hl => e_X5_takeRequest X (res := (v, w')) o x1 x2 w s.heap [] 0 0 ls hf M va_S.rf (by decide) (by decide) (by simpa [lv_args, cat1, cati, catl] using hl))
abbrev rX5_takeMove : Room := { frames := 2, cells := 1, slots := 15, locals := 47 }
def f_X5_takeMove_66 (o : Nat) (x1 : Option Nat) (x2 : Option Nat) (w : Wd) : Option (Unit × Wd) := nwO w 3 (fun w30 => gI w30 x2 3 2 (fun v33 => gI w30 x1 5 0 (fun v38 => bnd (f_X2_init (wn w) 4 v33 v38 w30) (fun v42 w43 => gI w43 x2 3 7 (fun v46 => pI w43 (some (wn w)) 3 7 v46 (fun w51 => gI w51 x2 3 4 (fun v56 => pI w51 (some (wn w)) 3 4 v56 (fun w61 => chk w61 (some o) 6 (fun a68 => bnd (f_X5_sendFrom a68 x1 (some (wn w)) w61) (fun v65 w66 => some ((), w66)))))))))))
set_option maxHeartbeats 4000000 in
set_option maxRecDepth 100000 in
theorem b_X5_takeMove_66 {l : Launch} {D : va_G} {aC : Nat → ClassId} {b0 : Nat} {p : Program} {e : Env} {s : State} {m : MethodId} {args : Array Value} {below : List Frame} {meth : Method} {c : Code} (X : Cx D aC p s m args meth c cX5_takeMove RX5 5 "takeMove" none) {res : (Unit × Wd)} : ∀ (o : Nat) (x1 : Option Nat) (x2 : Option Nat) (w : Wd), BW l D aC b0 p e rX5_takeMove s m args below meth c (Qe D aC b0 below args s 1 15 none res.2) res 1 15 1 15 (f_X5_takeMove_66 o x1 x2 w) w 66 5 [(0, va_rf (some o)), (1, va_rf x1), (2, va_rf x2)] [] := by
  intro o x1 x2 w H locs cells slots ls hf M hS hc hs hl
  unfold f_X5_takeMove_66 at hf
  have ho := nwO_e hf
  clear hf
  obtain ⟨w30, q31, hf⟩ := ho
  refine q_new X M hS clX5_89 (MC := 1) (MS := 15) rfl rfl (by omega) (by omega) dX5_takeMove_66 (fun H M hS => ?_)
  rw [q31] at M
  refine lv_dup X.1 X.2.1 dX5_takeMove_69 rfl ?_
  refine lv_iconst (v := 4) X.1 X.2.1 dX5_takeMove_70 (by decide) ?_
  refine q_aload_n X dX5_takeMove_71 rfl (lv_at hl 2 rfl) ?_
  have ho := gI_e hf
  clear hf
  obtain ⟨a32, v33, e34, k35, q36, hf⟩ := ho
  cases e34
  refine q_get X M flX5_271 k35 (congrArg Value.int q36) dX5_takeMove_72 ?_
  refine q_aload_n X dX5_takeMove_75 rfl (lv_at hl 1 rfl) ?_
  have ho := gI_e hf
  clear hf
  obtain ⟨a37, v38, e39, k40, q41, hf⟩ := ho
  cases e39
  refine q_get X M flX5_303 k40 (congrArg Value.int q41) dX5_takeMove_76 ?_
  have ho := bnd_e hf
  clear hf
  obtain ⟨v42, w43, q44, hf⟩ := ho
  refine q_cI X M hS hl.1 (As := [.int 4, .int v33, .int v38]) (m_X2_init (wn w) 4 v33 v38 _ _ q44) mlX5_91 gm_225 rfl rfl ⟨(Nat.le_of_ble_eq_true rfl), (Nat.le_of_ble_eq_true rfl)⟩ (rest := [va_rf (some (wn w))]) rfl (Nat.le_of_ble_eq_true rfl) (mc := 0) (ms := 0) (MC := 1) (MS := 15) rfl rfl rfl rfl (by omega) (by omega) dX5_takeMove_79 (fun H locs M hS => ?_)
  refine q_astore (i := 4) (lv' := [(4, va_rf (some (wn w))), (0, va_rf (some o)), (1, va_rf (some a37)), (2, va_rf (some a32))]) X dX5_takeMove_82 hl (by decide) rfl (fun ls hl => ?_)
  refine q_aload X dX5_takeMove_84 (lv_at hl 0 rfl) ?_
  refine q_aload_n X dX5_takeMove_86 rfl (lv_at hl 3 rfl) ?_
  have ho := gI_e hf
  clear hf
  obtain ⟨a45, v46, e47, k48, q49, hf⟩ := ho
  cases e47
  refine q_get X M flX5_164.g k48 (congrArg Value.int q49) dX5_takeMove_87 ?_
  have ho := pI_e hf
  clear hf
  obtain ⟨a50, w51, e52, k53, q54, hf⟩ := ho
  cases e52
  refine q_putI X M hS flX5_164 (Or.inl rfl) k53 dX5_takeMove_90 (fun H locs M hS => ?_)
  rw [q54] at M
  refine q_aload X dX5_takeMove_93 (lv_at hl 0 rfl) ?_
  refine q_aload_n X dX5_takeMove_95 rfl (lv_at hl 3 rfl) ?_
  have ho := gI_e hf
  clear hf
  obtain ⟨a55, v56, e57, k58, q59, hf⟩ := ho
  cases e57
  refine q_get X M flX5_170.g k58 (congrArg Value.int q59) dX5_takeMove_96 ?_
  have ho := pI_e hf
  clear hf
  obtain ⟨a60, w61, e62, k63, q64, hf⟩ := ho
  cases e62
  refine q_putI X M hS flX5_170 (Or.inl rfl) k63 dX5_takeMove_99 (fun H locs M hS => ?_)
  rw [q64] at M
  refine q_aload_n X dX5_takeMove_102 rfl (lv_at hl 1 rfl) ?_
  refine q_aload_n X dX5_takeMove_103 rfl (lv_at hl 2 rfl) ?_
  refine q_aload X dX5_takeMove_104 (lv_at hl 0 rfl) ?_
  have ho := chk_e hf
  clear hf
  obtain ⟨a68, e69, k70, hf⟩ := ho
  cases e69
  have ho := bnd_e hf
  clear hf
  obtain ⟨v65, w66, q67, hf⟩ := ho
  refine q_cV X M hS hl.1 (ci := 5) (r := (RX5, TX5, 9)) (As := [va_rf (some a37), va_rf (some (wn w))]) (m_X5_sendFrom o (some a37) (some (wn w)) _ _ q67) mlX5_180 gm_353 gm_354 rfl (by decide) k70 rfl ⟨(Nat.le_of_ble_eq_true rfl), (Nat.le_of_ble_eq_true rfl)⟩ (rest := []) rfl (Nat.le_of_ble_eq_true rfl) (mc := 0) (ms := 0) (MC := 1) (MS := 15) rfl rfl rfl rfl (by omega) (by omega) dX5_takeMove_106 (st2 := []) rfl (fun H locs M hS => ?_)
  obtain rfl := Option.some.inj hf
  exact q_vret X M hS (by omega) (by omega) dX5_takeMove_109
def f_X5_takeMove (o : Nat) (x1 : Option Nat) (x2 : Option Nat) (w : Wd) : Option (Unit × Wd) := gI w x2 3 7 (fun v2 => chk w x1 5 (fun a9 => bnd (f_X4_bucketAt a9 v2 w) (fun v6 w7 => if v6 = none then (some ((), w7)) else (gR w7 x2 3 14 (fun v14 => if v14 = none then (some ((), w7)) else (gI w7 x2 3 4 (fun v20 => gI w7 v6 1 1 (fun v25 => if v20 ≤ v25 then ((f_X5_takeMove_66) o x1 x2 w7) else (gR w7 x2 3 14 (fun v72 => chk w7 v6 1 (fun a79 => bnd (f_X0_copyFrom a79 v72 w7) (fun v76 w77 => pI w77 v6 1 0 1 (fun w83 => gI w83 x2 3 4 (fun v88 => pI w83 v6 1 1 v88 (fun w93 => gI w93 x1 5 0 (fun v98 => pI w93 v6 1 2 v98 (fun w103 => pZ w103 x1 5 5 0 (fun w108 => (f_X5_takeMove_66) o x1 x2 w108))))))))))))))))))
set_option maxHeartbeats 4000000 in
set_option maxRecDepth 100000 in
theorem e_X5_takeMove {l : Launch} {D : va_G} {aC : Nat → ClassId} {b0 : Nat} {p : Program} {e : Env} {s : State} {m : MethodId} {args : Array Value} {below : List Frame} {meth : Method} {c : Code} (X : Cx D aC p s m args meth c cX5_takeMove RX5 5 "takeMove" none) {res : (Unit × Wd)} (o : Nat) (x1 : Option Nat) (x2 : Option Nat) (w : Wd) : BW l D aC b0 p e rX5_takeMove s m args below meth c (Qe D aC b0 below args s 1 15 none res.2) res 1 15 1 15 (f_X5_takeMove o x1 x2 w) w 0 5 [(0, va_rf (some o)), (1, va_rf x1), (2, va_rf x2)] [] := by
  intro H locs cells slots ls hf M hS hc hs hl
  unfold f_X5_takeMove at hf
  refine q_aload_n X dX5_takeMove_0 rfl (lv_at hl 1 rfl) ?_
  refine q_aload_n X dX5_takeMove_1 rfl (lv_at hl 2 rfl) ?_
  have ho := gI_e hf
  clear hf
  obtain ⟨a1, v2, e3, k4, q5, hf⟩ := ho
  cases e3
  refine q_get X M flX5_164.g k4 (congrArg Value.int q5) dX5_takeMove_2 ?_
  have ho := chk_e hf
  clear hf
  obtain ⟨a9, e10, k11, hf⟩ := ho
  cases e10
  have ho := bnd_e hf
  clear hf
  obtain ⟨v6, w7, q8, hf⟩ := ho
  refine q_cV X M hS hl.1 (ci := 4) (r := (RX4, TX4, 6)) (As := [.int v2]) (m_X4_bucketAt a9 v2 _ _ q8) mlX5_146 gm_344 gm_345 rfl (by decide) k11 rfl ⟨(Nat.le_of_ble_eq_true rfl), (Nat.le_of_ble_eq_true rfl)⟩ (rest := []) rfl (Nat.le_of_ble_eq_true rfl) (mc := 0) (ms := 0) (MC := 1) (MS := 15) rfl rfl rfl rfl (by omega) (by omega) dX5_takeMove_5 (st2 := [va_rf v6]) rfl (fun H locs M hS => ?_)
  refine q_astore_n (i := 3) (lv' := [(3, va_rf v6), (0, va_rf (some o)), (1, va_rf (some a9)), (2, va_rf (some a1))]) X dX5_takeMove_8 rfl hl (by decide) rfl (fun ls hl => ?_)
  refine q_aload_n X dX5_takeMove_9 rfl (lv_at hl 0 rfl) ?_
  refine q_ifnull (tgt := 20) X dX5_takeMove_10 (by decide) (fun c12 => ?_) (fun c12 => ?_)
  · rw [if_pos c12] at hf
    obtain rfl := Option.some.inj hf
    exact q_vret X M hS (by omega) (by omega) dX5_takeMove_20
  · rw [if_neg c12] at hf
    refine q_aload_n X dX5_takeMove_13 rfl (lv_at hl 3 rfl) ?_
    have ho := gR_e hf
    clear hf
    obtain ⟨a13, v14, e15, k16, q17, hf⟩ := ho
    cases e15
    refine q_get X M flX5_172.g k16 (congrArg va_rf q17) dX5_takeMove_14 ?_
    refine q_ifnonnull (tgt := 21) X dX5_takeMove_17 (by decide) (fun c18 => ?_) (fun c18 => ?_)
    · rw [if_neg c18] at hf
      refine q_aload_n X dX5_takeMove_21 rfl (lv_at hl 3 rfl) ?_
      have ho := gI_e hf
      clear hf
      obtain ⟨a19, v20, e21, k22, q23, hf⟩ := ho
      cases e21
      refine q_get X M flX5_170.g k22 (congrArg Value.int q23) dX5_takeMove_22 ?_
      refine q_aload_n X dX5_takeMove_25 rfl (lv_at hl 0 rfl) ?_
      have ho := gI_e hf
      clear hf
      obtain ⟨a24, v25, e26, k27, q28, hf⟩ := ho
      cases e26
      refine q_get X M flX5_167.g k27 (congrArg Value.int q28) dX5_takeMove_26 ?_
      refine lv_icmp_le (tgt := 66) X.1 X.2.1 dX5_takeMove_29 (by decide) (fun c29 => ?_) (fun c29 => ?_)
      · rw [if_pos c29] at hf
        exact (b_X5_takeMove_66 X) o (some a9) (some a1) w7 _ _ _ _ _ hf M hS (by omega) (by omega) (lv_sub hl [1, 2, 3] rfl)
      · rw [if_neg c29] at hf
        refine q_aload_n X dX5_takeMove_32 rfl (lv_at hl 0 rfl) ?_
        refine q_aload_n X dX5_takeMove_33 rfl (lv_at hl 3 rfl) ?_
        have ho := gR_e hf
        clear hf
        obtain ⟨a71, v72, e73, k74, q75, hf⟩ := ho
        cases e73
        refine q_get X M flX5_172.g k74 (congrArg va_rf q75) dX5_takeMove_34 ?_
        have ho := chk_e hf
        clear hf
        obtain ⟨a79, e80, k81, hf⟩ := ho
        cases e80
        have ho := bnd_e hf
        clear hf
        obtain ⟨v76, w77, q78, hf⟩ := ho
        refine q_cV X M hS hl.1 (ci := 0) (r := (RX0, TX0, 11)) (As := [va_rf v72]) (m_X0_copyFrom a24 v72 _ _ q78) mlX5_176 gm_71 gm_72 rfl (by decide) k81 rfl ⟨(Nat.le_of_ble_eq_true rfl), (Nat.le_of_ble_eq_true rfl)⟩ (rest := []) rfl (Nat.le_of_ble_eq_true rfl) (mc := 0) (ms := 0) (MC := 1) (MS := 15) rfl rfl rfl rfl (by omega) (by omega) dX5_takeMove_37 (st2 := []) rfl (fun H locs M hS => ?_)
        refine q_aload_n X dX5_takeMove_40 rfl (lv_at hl 0 rfl) ?_
        refine lv_iconst (v := 1) X.1 X.2.1 dX5_takeMove_41 (by decide) ?_
        have ho := pI_e hf
        clear hf
        obtain ⟨a82, w83, e84, k85, q86, hf⟩ := ho
        cases e84
        refine q_putI X M hS flX5_155 (Or.inl rfl) k85 dX5_takeMove_42 (fun H locs M hS => ?_)
        rw [q86] at M
        refine q_aload_n X dX5_takeMove_45 rfl (lv_at hl 0 rfl) ?_
        refine q_aload_n X dX5_takeMove_46 rfl (lv_at hl 3 rfl) ?_
        have ho := gI_e hf
        clear hf
        obtain ⟨a87, v88, e89, k90, q91, hf⟩ := ho
        cases e89
        refine q_get X M flX5_170.g k90 (congrArg Value.int q91) dX5_takeMove_47 ?_
        have ho := pI_e hf
        clear hf
        obtain ⟨a92, w93, e94, k95, q96, hf⟩ := ho
        cases e94
        refine q_putI X M hS flX5_167 (Or.inl rfl) k95 dX5_takeMove_50 (fun H locs M hS => ?_)
        rw [q96] at M
        refine q_aload_n X dX5_takeMove_53 rfl (lv_at hl 0 rfl) ?_
        refine q_aload_n X dX5_takeMove_54 rfl (lv_at hl 2 rfl) ?_
        have ho := gI_e hf
        clear hf
        obtain ⟨a97, v98, e99, k100, q101, hf⟩ := ho
        cases e99
        refine q_get X M flX5_303 k100 (congrArg Value.int q101) dX5_takeMove_55 ?_
        have ho := pI_e hf
        clear hf
        obtain ⟨a102, w103, e104, k105, q106, hf⟩ := ho
        cases e104
        refine q_putI X M hS flX5_158 (Or.inl rfl) k105 dX5_takeMove_58 (fun H locs M hS => ?_)
        rw [q106] at M
        refine q_aload_n X dX5_takeMove_61 rfl (lv_at hl 2 rfl) ?_
        refine lv_iconst (v := 0) X.1 X.2.1 dX5_takeMove_62 (by decide) ?_
        have ho := pZ_e hf
        clear hf
        obtain ⟨a107, w108, e109, k110, z112, q111, hf⟩ := ho
        cases e109
        refine q_putZ X M hS flX5_161 (Or.inl rfl) k110 z112 dX5_takeMove_63 (fun H locs M hS => ?_)
        rw [q111] at M
        exact (b_X5_takeMove_66 X) o (some a9) (some a1) w108 _ _ _ _ _ hf M hS (by omega) (by omega) (lv_sub hl [1, 2, 3] rfl)
    · rw [if_pos c18] at hf
      obtain rfl := Option.some.inj hf
      exact q_vret X M hS (by omega) (by omega) dX5_takeMove_20
theorem m_X5_takeMove {l : Launch} {D : va_G} {aC : Nat → ClassId} {b0 : Nat} {w : Wd} (o : Nat) (x1 : Option Nat) (x2 : Option Nat) (v : Unit) (w' : Wd) (hf : f_X5_takeMove o x1 x2 w = some (v, w')) : Ct l D aC b0 yX5_takeMove (Cond.code yX5_takeMove cX5_takeMove 5 none :: Gw) rX5_takeMove [va_rf (some o), va_rf x1, va_rf x2] w none w' :=
  q_met (by decide) (by simp [lg_sl, cat1, cati, catl]) (fun p e s m below meth c X M ls hl => e_X5_takeMove X (res := (v, w')) o x1 x2 w s.heap [] 0 0 ls hf M va_S.rf (by decide) (by decide) (by simpa [lv_args, cat1, cati, catl] using hl))
abbrev rX5_takeTaken : Room := { frames := 2, cells := 0, slots := 0, locals := 44 }
def f_X5_takeTaken (o : Nat) (x1 : Option Nat) (x2 : Option Nat) (w : Wd) : Option (Unit × Wd) := gI w x2 3 7 (fun v2 => chk w x1 5 (fun a9 => bnd (f_X4_bucketAt a9 v2 w) (fun v6 w7 => if v6 = none then (some ((), w7)) else (gI w7 v6 1 0 (fun v14 => if v14 = 2 then (gI w7 v6 1 1 (fun v20 => gI w7 x2 3 4 (fun v25 => if v20 = (v25 - 1) then (chk w7 v6 1 (fun a33 => bnd (f_X0_empty a33 w7) (fun v30 w31 => pI w31 v6 1 0 0 (fun w37 => gI w37 x2 3 4 (fun v42 => pI w37 v6 1 1 v42 (fun w47 => pZ w47 x1 5 5 0 (fun w52 => some ((), w52)))))))) else (some ((), w7))))) else (some ((), w7)))))))
set_option maxHeartbeats 4000000 in
set_option maxRecDepth 100000 in
theorem e_X5_takeTaken {l : Launch} {D : va_G} {aC : Nat → ClassId} {b0 : Nat} {p : Program} {e : Env} {s : State} {m : MethodId} {args : Array Value} {below : List Frame} {meth : Method} {c : Code} (X : Cx D aC p s m args meth c cX5_takeTaken RX5 4 "takeTaken" none) {res : (Unit × Wd)} (o : Nat) (x1 : Option Nat) (x2 : Option Nat) (w : Wd) : BW l D aC b0 p e rX5_takeTaken s m args below meth c (Qe D aC b0 below args s 0 0 none res.2) res 0 0 0 0 (f_X5_takeTaken o x1 x2 w) w 0 4 [(0, va_rf (some o)), (1, va_rf x1), (2, va_rf x2)] [] := by
  intro H locs cells slots ls hf M hS hc hs hl
  unfold f_X5_takeTaken at hf
  refine q_aload_n X dX5_takeTaken_0 rfl (lv_at hl 1 rfl) ?_
  refine q_aload_n X dX5_takeTaken_1 rfl (lv_at hl 2 rfl) ?_
  have ho := gI_e hf
  clear hf
  obtain ⟨a1, v2, e3, k4, q5, hf⟩ := ho
  cases e3
  refine q_get X M flX5_164.g k4 (congrArg Value.int q5) dX5_takeTaken_2 ?_
  have ho := chk_e hf
  clear hf
  obtain ⟨a9, e10, k11, hf⟩ := ho
  cases e10
  have ho := bnd_e hf
  clear hf
  obtain ⟨v6, w7, q8, hf⟩ := ho
  refine q_cV X M hS hl.1 (ci := 4) (r := (RX4, TX4, 6)) (As := [.int v2]) (m_X4_bucketAt a9 v2 _ _ q8) mlX5_146 gm_344 gm_345 rfl (by decide) k11 rfl ⟨(Nat.le_of_ble_eq_true rfl), (Nat.le_of_ble_eq_true rfl)⟩ (rest := []) rfl (Nat.le_of_ble_eq_true rfl) (mc := 0) (ms := 0) (MC := 0) (MS := 0) rfl rfl rfl rfl (by omega) (by omega) dX5_takeTaken_5 (st2 := [va_rf v6]) rfl (fun H locs M hS => ?_)
  refine q_astore_n (i := 3) (lv' := [(3, va_rf v6), (0, va_rf (some o)), (1, va_rf (some a9)), (2, va_rf (some a1))]) X dX5_takeTaken_8 rfl hl (by decide) rfl (fun ls hl => ?_)
  refine q_aload_n X dX5_takeTaken_9 rfl (lv_at hl 0 rfl) ?_
  refine q_ifnull (tgt := 56) X dX5_takeTaken_10 (by decide) (fun c12 => ?_) (fun c12 => ?_)
  · rw [if_pos c12] at hf
    obtain rfl := Option.some.inj hf
    exact q_vret X M hS (by omega) (by omega) dX5_takeTaken_56
  · rw [if_neg c12] at hf
    refine q_aload_n X dX5_takeTaken_13 rfl (lv_at hl 0 rfl) ?_
    have ho := gI_e hf
    clear hf
    obtain ⟨a13, v14, e15, k16, q17, hf⟩ := ho
    cases e15
    refine q_get X M flX5_155.g k16 (congrArg Value.int q17) dX5_takeTaken_14 ?_
    refine lv_iconst (v := 2) X.1 X.2.1 dX5_takeTaken_17 (by decide) ?_
    refine lv_icmp_ne (tgt := 56) X.1 X.2.1 dX5_takeTaken_18 (by decide) (fun c18 => ?_) (fun c18 => ?_)
    · rw [if_neg c18] at hf
      obtain rfl := Option.some.inj hf
      exact q_vret X M hS (by omega) (by omega) dX5_takeTaken_56
    · rw [if_pos c18] at hf
      refine q_aload_n X dX5_takeTaken_21 rfl (lv_at hl 0 rfl) ?_
      have ho := gI_e hf
      clear hf
      obtain ⟨a19, v20, e21, k22, q23, hf⟩ := ho
      cases e21
      refine q_get X M flX5_167.g k22 (congrArg Value.int q23) dX5_takeTaken_22 ?_
      refine q_aload_n X dX5_takeTaken_25 rfl (lv_at hl 3 rfl) ?_
      have ho := gI_e hf
      clear hf
      obtain ⟨a24, v25, e26, k27, q28, hf⟩ := ho
      cases e26
      refine q_get X M flX5_170.g k27 (congrArg Value.int q28) dX5_takeTaken_26 ?_
      refine lv_iconst (v := 1) X.1 X.2.1 dX5_takeTaken_29 (by decide) ?_
      refine lv_isub X.1 X.2.1 dX5_takeTaken_30 ?_
      refine lv_icmp_ne (tgt := 56) X.1 X.2.1 dX5_takeTaken_31 (by decide) (fun c29 => ?_) (fun c29 => ?_)
      · rw [if_neg c29] at hf
        obtain rfl := Option.some.inj hf
        exact q_vret X M hS (by omega) (by omega) dX5_takeTaken_56
      · rw [if_pos c29] at hf
        refine q_aload_n X dX5_takeTaken_34 rfl (lv_at hl 0 rfl) ?_
        have ho := chk_e hf
        clear hf
        obtain ⟨a33, e34, k35, hf⟩ := ho
        cases e34
        have ho := bnd_e hf
        clear hf
        obtain ⟨v30, w31, q32, hf⟩ := ho
        refine q_cV X M hS hl.1 (ci := 0) (r := (RX0, TX0, 11)) (As := []) (m_X0_empty a13 _ _ q32) mlX5_306 gm_418 gm_419 rfl (by decide) k35 rfl ⟨(Nat.le_of_ble_eq_true rfl), (Nat.le_of_ble_eq_true rfl)⟩ (rest := []) rfl (Nat.le_of_ble_eq_true rfl) (mc := 0) (ms := 0) (MC := 0) (MS := 0) rfl rfl rfl rfl (by omega) (by omega) dX5_takeTaken_35 (st2 := []) rfl (fun H locs M hS => ?_)
        refine q_aload_n X dX5_takeTaken_38 rfl (lv_at hl 0 rfl) ?_
        refine lv_iconst (v := 0) X.1 X.2.1 dX5_takeTaken_39 (by decide) ?_
        have ho := pI_e hf
        clear hf
        obtain ⟨a36, w37, e38, k39, q40, hf⟩ := ho
        cases e38
        refine q_putI X M hS flX5_155 (Or.inl rfl) k39 dX5_takeTaken_40 (fun H locs M hS => ?_)
        rw [q40] at M
        refine q_aload_n X dX5_takeTaken_43 rfl (lv_at hl 0 rfl) ?_
        refine q_aload_n X dX5_takeTaken_44 rfl (lv_at hl 3 rfl) ?_
        have ho := gI_e hf
        clear hf
        obtain ⟨a41, v42, e43, k44, q45, hf⟩ := ho
        cases e43
        refine q_get X M flX5_170.g k44 (congrArg Value.int q45) dX5_takeTaken_45 ?_
        have ho := pI_e hf
        clear hf
        obtain ⟨a46, w47, e48, k49, q50, hf⟩ := ho
        cases e48
        refine q_putI X M hS flX5_167 (Or.inl rfl) k49 dX5_takeTaken_48 (fun H locs M hS => ?_)
        rw [q50] at M
        refine q_aload_n X dX5_takeTaken_51 rfl (lv_at hl 2 rfl) ?_
        refine lv_iconst (v := 0) X.1 X.2.1 dX5_takeTaken_52 (by decide) ?_
        have ho := pZ_e hf
        clear hf
        obtain ⟨a51, w52, e53, k54, z56, q55, hf⟩ := ho
        cases e53
        refine q_putZ X M hS flX5_161 (Or.inl rfl) k54 z56 dX5_takeTaken_53 (fun H locs M hS => ?_)
        rw [q55] at M
        obtain rfl := Option.some.inj hf
        exact q_vret X M hS (by omega) (by omega) dX5_takeTaken_56
theorem m_X5_takeTaken {l : Launch} {D : va_G} {aC : Nat → ClassId} {b0 : Nat} {w : Wd} (o : Nat) (x1 : Option Nat) (x2 : Option Nat) (v : Unit) (w' : Wd) (hf : f_X5_takeTaken o x1 x2 w = some (v, w')) : Ct l D aC b0 yX5_takeTaken (Cond.code yX5_takeTaken cX5_takeTaken 4 none :: Gw) rX5_takeTaken [va_rf (some o), va_rf x1, va_rf x2] w none w' :=
  q_met (by decide) (by simp [lg_sl, cat1, cati, catl]) (fun p e s m below meth c X M ls hl => e_X5_takeTaken X (res := (v, w')) o x1 x2 w s.heap [] 0 0 ls hf M va_S.rf (by decide) (by decide) (by simpa [lv_args, cat1, cati, catl] using hl))
abbrev rX5_takeAck : Room := { frames := 3, cells := 0, slots := 0, locals := 67 }
def f_X5_takeAck_43 (K2 : Option Nat → Option Nat → Int32 → Wd → Option (Unit × Wd)) (x1 : Option Nat) (x2 : Option Nat) (x3 : Int32) (w : Wd) : Option (Unit × Wd) := K2 x1 x2 (x3 + 1) w
set_option maxHeartbeats 4000000 in
set_option maxRecDepth 100000 in
theorem b_X5_takeAck_43 {l : Launch} {D : va_G} {aC : Nat → ClassId} {b0 : Nat} {p : Program} {e : Env} {s : State} {m : MethodId} {args : Array Value} {below : List Frame} {meth : Method} {c : Code} (X : Cx D aC p s m args meth c cX5_takeAck RX5 5 "takeAck" none) {res : (Unit × Wd)} {K2 : Option Nat → Option Nat → Int32 → Wd → Option (Unit × Wd)} (hK2 : ∀ (x1 : Option Nat) (x2 : Option Nat) (x3 : Int32) (w : Wd), BW l D aC b0 p e rX5_takeAck s m args below meth c (Qe D aC b0 below args s 0 0 none res.2) res 0 0 0 0 (K2 x1 x2 x3 w) w 2 5 [(1, va_rf x1), (2, va_rf x2), (3, .int x3)] []) : ∀ (x1 : Option Nat) (x2 : Option Nat) (x3 : Int32) (w : Wd), BW l D aC b0 p e rX5_takeAck s m args below meth c (Qe D aC b0 below args s 0 0 none res.2) res 0 0 0 0 (f_X5_takeAck_43 K2 x1 x2 x3 w) w 43 5 [(1, va_rf x1), (2, va_rf x2), (3, .int x3)] [] := by
  intro x1 x2 x3 w H locs cells slots ls hf M hS hc hs hl
  unfold f_X5_takeAck_43 at hf
  refine lv_iinc (v := (x3 + 1)) (lv' := [(3, .int (x3 + 1)), (1, va_rf x1), (2, va_rf x2)]) X.1 X.2.1 dX5_takeAck_43 hl (k := 2) rfl rfl (by decide) (by simp [cat1, cati, catl]) (fun ls hl => ?_)
  refine lv_goto (tgt := 2) X.1 X.2.1 dX5_takeAck_46 (by decide) ?_
  exact hK2 x1 x2 (x3 + 1) w _ _ _ _ _ hf M hS (by omega) (by omega) (lv_sub hl [1, 2, 0] rfl)
def f_X5_takeAck_2 : Nat → Option Nat → Option Nat → Int32 → Wd → Option (Unit × Wd)
  | 0, _, _, _, _ => none
  | n + 1, x1, x2, x3, w => if 8 ≤ x3 then (some ((), w)) else (chk w x1 5 (fun a5 => bnd (f_X4_bucketAt a5 x3 w) (fun v2 w3 => if v2 = none then ((f_X5_takeAck_43 (f_X5_takeAck_2 n)) x1 x2 x3 w3) else (gI w3 v2 1 0 (fun v10 => if v10 = 1 then (chk w3 v2 1 (fun a18 => bnd (f_X0_know a18 x2 w3) (fun v15 w16 => if v15 = 0 then ((f_X5_takeAck_43 (f_X5_takeAck_2 n)) x1 x2 x3 w16) else (pZ w16 x1 5 5 0 (fun w23 => (f_X5_takeAck_43 (f_X5_takeAck_2 n)) x1 x2 x3 w23))))) else ((f_X5_takeAck_43 (f_X5_takeAck_2 n)) x1 x2 x3 w3))))))
set_option maxHeartbeats 4000000 in
set_option maxRecDepth 100000 in
theorem b_X5_takeAck_2 {l : Launch} {D : va_G} {aC : Nat → ClassId} {b0 : Nat} {p : Program} {e : Env} {s : State} {m : MethodId} {args : Array Value} {below : List Frame} {meth : Method} {c : Code} (X : Cx D aC p s m args meth c cX5_takeAck RX5 5 "takeAck" none) {res : (Unit × Wd)} : ∀ (n : Nat) (x1 : Option Nat) (x2 : Option Nat) (x3 : Int32) (w : Wd), BW l D aC b0 p e rX5_takeAck s m args below meth c (Qe D aC b0 below args s 0 0 none res.2) res 0 0 0 0 (f_X5_takeAck_2 n x1 x2 x3 w) w 2 5 [(1, va_rf x1), (2, va_rf x2), (3, .int x3)] [] := by
  intro n
  induction n with
  | zero =>
    intro x1 x2 x3 w H locs cells slots ls hf
    rw [f_X5_takeAck_2.eq_1] at hf
    cases hf
  | succ n ih =>
    intro x1 x2 x3 w H locs cells slots ls hf M hS hc hs hl
    rw [f_X5_takeAck_2.eq_2] at hf
    refine lv_iload_n X.1 X.2.1 dX5_takeAck_2 rfl (lv_at hl 2 rfl) ?_
    refine lv_bipush (v := 8) X.1 X.2.1 dX5_takeAck_3 (by decide) ?_
    refine lv_icmp_ge (tgt := 49) X.1 X.2.1 dX5_takeAck_5 (by decide) (fun c1 => ?_) (fun c1 => ?_)
    · rw [if_pos c1] at hf
      obtain rfl := Option.some.inj hf
      exact q_vret X M hS (by omega) (by omega) dX5_takeAck_49
    · rw [if_neg c1] at hf
      refine q_aload_n X dX5_takeAck_8 rfl (lv_at hl 0 rfl) ?_
      refine lv_iload_n X.1 X.2.1 dX5_takeAck_9 rfl (lv_at hl 2 rfl) ?_
      have ho := chk_e hf
      clear hf
      obtain ⟨a5, e6, k7, hf⟩ := ho
      cases e6
      have ho := bnd_e hf
      clear hf
      obtain ⟨v2, w3, q4, hf⟩ := ho
      refine q_cV X M hS hl.1 (ci := 4) (r := (RX4, TX4, 6)) (As := [.int x3]) (m_X4_bucketAt a5 x3 _ _ q4) mlX5_146 gm_344 gm_345 rfl (by decide) k7 rfl ⟨(Nat.le_of_ble_eq_true rfl), (Nat.le_of_ble_eq_true rfl)⟩ (rest := []) rfl (Nat.le_of_ble_eq_true rfl) (mc := 0) (ms := 0) (MC := 0) (MS := 0) rfl rfl rfl rfl (by omega) (by omega) dX5_takeAck_10 (st2 := [va_rf v2]) rfl (fun H locs M hS => ?_)
      refine q_astore (i := 4) (lv' := [(4, va_rf v2), (1, va_rf (some a5)), (2, va_rf x2), (3, .int x3)]) X dX5_takeAck_13 hl (by decide) rfl (fun ls hl => ?_)
      refine q_aload X dX5_takeAck_15 (lv_at hl 0 rfl) ?_
      refine q_ifnull (tgt := 43) X dX5_takeAck_17 (by decide) (fun c8 => ?_) (fun c8 => ?_)
      · rw [if_pos c8] at hf
        exact (b_X5_takeAck_43 X ih) (some a5) x2 x3 w3 _ _ _ _ _ hf M hS (by omega) (by omega) (lv_sub hl [1, 2, 3] rfl)
      · rw [if_neg c8] at hf
        refine q_aload X dX5_takeAck_20 (lv_at hl 0 rfl) ?_
        have ho := gI_e hf
        clear hf
        obtain ⟨a9, v10, e11, k12, q13, hf⟩ := ho
        cases e11
        refine q_get X M flX5_155.g k12 (congrArg Value.int q13) dX5_takeAck_22 ?_
        refine lv_iconst (v := 1) X.1 X.2.1 dX5_takeAck_25 (by decide) ?_
        refine lv_icmp_ne (tgt := 43) X.1 X.2.1 dX5_takeAck_26 (by decide) (fun c14 => ?_) (fun c14 => ?_)
        · rw [if_neg c14] at hf
          exact (b_X5_takeAck_43 X ih) (some a5) x2 x3 w3 _ _ _ _ _ hf M hS (by omega) (by omega) (lv_sub hl [1, 2, 3] rfl)
        · rw [if_pos c14] at hf
          refine q_aload X dX5_takeAck_29 (lv_at hl 0 rfl) ?_
          refine q_aload_n X dX5_takeAck_31 rfl (lv_at hl 2 rfl) ?_
          have ho := chk_e hf
          clear hf
          obtain ⟨a18, e19, k20, hf⟩ := ho
          cases e19
          have ho := bnd_e hf
          clear hf
          obtain ⟨v15, w16, q17, hf⟩ := ho
          refine q_cV X M hS hl.1 (ci := 0) (r := (RX0, TX0, 11)) (As := [va_rf x2]) (m_X0_know a9 x2 _ _ q17) mlX5_282 gm_366 gm_367 rfl (by decide) k20 rfl ⟨(Nat.le_of_ble_eq_true rfl), (Nat.le_of_ble_eq_true rfl)⟩ (rest := []) rfl (Nat.le_of_ble_eq_true rfl) (mc := 0) (ms := 0) (MC := 0) (MS := 0) rfl rfl rfl rfl (by omega) (by omega) dX5_takeAck_32 (st2 := [.int v15]) rfl (fun H locs M hS => ?_)
          refine lv_if_eq (tgt := 43) X.1 X.2.1 dX5_takeAck_35 (by decide) (fun c21 => ?_) (fun c21 => ?_)
          · rw [if_pos c21] at hf
            exact (b_X5_takeAck_43 X ih) (some a5) x2 x3 w16 _ _ _ _ _ hf M hS (by omega) (by omega) (lv_sub hl [1, 2, 3] rfl)
          · rw [if_neg c21] at hf
            refine q_aload_n X dX5_takeAck_38 rfl (lv_at hl 1 rfl) ?_
            refine lv_iconst (v := 0) X.1 X.2.1 dX5_takeAck_39 (by decide) ?_
            have ho := pZ_e hf
            clear hf
            obtain ⟨a22, w23, e24, k25, z27, q26, hf⟩ := ho
            cases e24
            refine q_putZ X M hS flX5_161 (Or.inl rfl) k25 z27 dX5_takeAck_40 (fun H locs M hS => ?_)
            rw [q26] at M
            exact (b_X5_takeAck_43 X ih) (some a5) x2 x3 w23 _ _ _ _ _ hf M hS (by omega) (by omega) (lv_sub hl [1, 2, 3] rfl)
def f_X5_takeAck (o : Nat) (x1 : Option Nat) (x2 : Option Nat) (w : Wd) : Option (Unit × Wd) := (f_X5_takeAck_2 FU) x1 x2 0 w
set_option maxHeartbeats 4000000 in
set_option maxRecDepth 100000 in
theorem e_X5_takeAck {l : Launch} {D : va_G} {aC : Nat → ClassId} {b0 : Nat} {p : Program} {e : Env} {s : State} {m : MethodId} {args : Array Value} {below : List Frame} {meth : Method} {c : Code} (X : Cx D aC p s m args meth c cX5_takeAck RX5 5 "takeAck" none) {res : (Unit × Wd)} (o : Nat) (x1 : Option Nat) (x2 : Option Nat) (w : Wd) : BW l D aC b0 p e rX5_takeAck s m args below meth c (Qe D aC b0 below args s 0 0 none res.2) res 0 0 0 0 (f_X5_takeAck o x1 x2 w) w 0 5 [(0, va_rf (some o)), (1, va_rf x1), (2, va_rf x2)] [] := by
  intro H locs cells slots ls hf M hS hc hs hl
  unfold f_X5_takeAck at hf
  refine lv_iconst (v := 0) X.1 X.2.1 dX5_takeAck_0 (by decide) ?_
  refine lv_istore_n (i := 3) (lv' := [(3, .int 0), (0, va_rf (some o)), (1, va_rf x1), (2, va_rf x2)]) X.1 X.2.1 dX5_takeAck_1 rfl hl (by decide) (by simp [cat1, cati, catl]) (fun ls hl => ?_)
  exact (b_X5_takeAck_2 X FU) x1 x2 0 w _ _ _ _ _ hf M hS (by omega) (by omega) (lv_sub hl [2, 3, 0] rfl)
theorem m_X5_takeAck {l : Launch} {D : va_G} {aC : Nat → ClassId} {b0 : Nat} {w : Wd} (o : Nat) (x1 : Option Nat) (x2 : Option Nat) (v : Unit) (w' : Wd) (hf : f_X5_takeAck o x1 x2 w = some (v, w')) : Ct l D aC b0 yX5_takeAck (Cond.code yX5_takeAck cX5_takeAck 5 none :: Gw) rX5_takeAck [va_rf (some o), va_rf x1, va_rf x2] w none w' :=
  q_met (by decide) (by simp [lg_sl, cat1, cati, catl]) (fun p e s m below meth c X M ls hl => e_X5_takeAck X (res := (v, w')) o x1 x2 w s.heap [] 0 0 ls hf M va_S.rf (by decide) (by decide) (by simpa [lv_args, cat1, cati, catl] using hl))
abbrev rX5_takeAtServer : Room := { frames := 5, cells := 1, slots := 15, locals := 119 }
def f_X5_takeAtServer (o : Nat) (x1 : Option Nat) (x2 : Option Nat) (w : Wd) : Option (Unit × Wd) := gI w x2 3 0 (fun v2 => if v2 = 1 then (chk w (some o) 6 (fun a10 => bnd (f_X5_takeRequest a10 x1 x2 w) (fun v7 w8 => some ((), w8)))) else if v2 = 2 then (some ((), w)) else if v2 = 3 then (chk w (some o) 6 (fun a18 => bnd (f_X5_takeMove a18 x1 x2 w) (fun v15 w16 => some ((), w16)))) else if v2 = 4 then (chk w (some o) 6 (fun a25 => bnd (f_X5_takeTaken a25 x1 x2 w) (fun v22 w23 => some ((), w23)))) else if v2 = 5 then (chk w (some o) 6 (fun a32 => bnd (f_X5_takeAck a32 x1 x2 w) (fun v29 w30 => some ((), w30)))) else (some ((), w)))
set_option maxHeartbeats 4000000 in
set_option maxRecDepth 100000 in
theorem e_X5_takeAtServer {l : Launch} {D : va_G} {aC : Nat → ClassId} {b0 : Nat} {p : Program} {e : Env} {s : State} {m : MethodId} {args : Array Value} {below : List Frame} {meth : Method} {c : Code} (X : Cx D aC p s m args meth c cX5_takeAtServer RX5 3 "takeAtServer" none) {res : (Unit × Wd)} (o : Nat) (x1 : Option Nat) (x2 : Option Nat) (w : Wd) : BW l D aC b0 p e rX5_takeAtServer s m args below meth c (Qe D aC b0 below args s 1 15 none res.2) res 1 15 1 15 (f_X5_takeAtServer o x1 x2 w) w 0 3 [(0, va_rf (some o)), (1, va_rf x1), (2, va_rf x2)] [] := by
  intro H locs cells slots ls hf M hS hc hs hl
  unfold f_X5_takeAtServer at hf
  refine q_aload_n X dX5_takeAtServer_0 rfl (lv_at hl 2 rfl) ?_
  have ho := gI_e hf
  clear hf
  obtain ⟨a1, v2, e3, k4, q5, hf⟩ := ho
  cases e3
  refine q_get X M flX5_107 k4 (congrArg Value.int q5) dX5_takeAtServer_1 ?_
  by_cases c6 : v2 = 1
  · rw [if_pos c6] at hf
    refine lv_tableIn (tgt := 40) (off := 36) X.1 X.2.1 dX5_takeAtServer_4 (by rw [c6]; decide) (by rw [c6]; decide) (by rw [c6]; rfl) (by decide) ?_
    refine q_aload_n X dX5_takeAtServer_40 rfl (lv_at hl 0 rfl) ?_
    refine q_aload_n X dX5_takeAtServer_41 rfl (lv_at hl 1 rfl) ?_
    refine q_aload_n X dX5_takeAtServer_42 rfl (lv_at hl 2 rfl) ?_
    have ho := chk_e hf
    clear hf
    obtain ⟨a10, e11, k12, hf⟩ := ho
    cases e11
    have ho := bnd_e hf
    clear hf
    obtain ⟨v7, w8, q9, hf⟩ := ho
    refine q_cV X M hS hl.1 (ci := 5) (r := (RX5, TX5, 9)) (As := [va_rf x1, va_rf (some a1)]) (m_X5_takeRequest o x1 (some a1) _ _ q9) mlX5_256 gm_337 gm_338 rfl (by decide) k12 rfl ⟨(Nat.le_of_ble_eq_true rfl), (Nat.le_of_ble_eq_true rfl)⟩ (rest := []) rfl (Nat.le_of_ble_eq_true rfl) (mc := 1) (ms := 15) (MC := 1) (MS := 15) rfl rfl rfl rfl (by omega) (by omega) dX5_takeAtServer_43 (st2 := []) rfl (fun H locs M hS => ?_)
    refine lv_goto (tgt := 76) X.1 X.2.1 dX5_takeAtServer_46 (by decide) ?_
    obtain rfl := Option.some.inj hf
    exact q_vret X M hS (by omega) (by omega) dX5_takeAtServer_76
  rw [if_neg c6] at hf
  by_cases c13 : v2 = 2
  · rw [if_pos c13] at hf
    refine lv_tableIn (tgt := 76) (off := 72) X.1 X.2.1 dX5_takeAtServer_4 (by rw [c13]; decide) (by rw [c13]; decide) (by rw [c13]; rfl) (by decide) ?_
    obtain rfl := Option.some.inj hf
    exact q_vret X M hS (by omega) (by omega) dX5_takeAtServer_76
  rw [if_neg c13] at hf
  by_cases c14 : v2 = 3
  · rw [if_pos c14] at hf
    refine lv_tableIn (tgt := 49) (off := 45) X.1 X.2.1 dX5_takeAtServer_4 (by rw [c14]; decide) (by rw [c14]; decide) (by rw [c14]; rfl) (by decide) ?_
    refine q_aload_n X dX5_takeAtServer_49 rfl (lv_at hl 0 rfl) ?_
    refine q_aload_n X dX5_takeAtServer_50 rfl (lv_at hl 1 rfl) ?_
    refine q_aload_n X dX5_takeAtServer_51 rfl (lv_at hl 2 rfl) ?_
    have ho := chk_e hf
    clear hf
    obtain ⟨a18, e19, k20, hf⟩ := ho
    cases e19
    have ho := bnd_e hf
    clear hf
    obtain ⟨v15, w16, q17, hf⟩ := ho
    refine q_cV X M hS hl.1 (ci := 5) (r := (RX5, TX5, 9)) (As := [va_rf x1, va_rf (some a1)]) (m_X5_takeMove o x1 (some a1) _ _ q17) mlX5_259 gm_405 gm_406 rfl (by decide) k20 rfl ⟨(Nat.le_of_ble_eq_true rfl), (Nat.le_of_ble_eq_true rfl)⟩ (rest := []) rfl (Nat.le_of_ble_eq_true rfl) (mc := 1) (ms := 15) (MC := 1) (MS := 15) rfl rfl rfl rfl (by omega) (by omega) dX5_takeAtServer_52 (st2 := []) rfl (fun H locs M hS => ?_)
    refine lv_goto (tgt := 76) X.1 X.2.1 dX5_takeAtServer_55 (by decide) ?_
    obtain rfl := Option.some.inj hf
    exact q_vret X M hS (by omega) (by omega) dX5_takeAtServer_76
  rw [if_neg c14] at hf
  by_cases c21 : v2 = 4
  · rw [if_pos c21] at hf
    refine lv_tableIn (tgt := 58) (off := 54) X.1 X.2.1 dX5_takeAtServer_4 (by rw [c21]; decide) (by rw [c21]; decide) (by rw [c21]; rfl) (by decide) ?_
    refine q_aload_n X dX5_takeAtServer_58 rfl (lv_at hl 0 rfl) ?_
    refine q_aload_n X dX5_takeAtServer_59 rfl (lv_at hl 1 rfl) ?_
    refine q_aload_n X dX5_takeAtServer_60 rfl (lv_at hl 2 rfl) ?_
    have ho := chk_e hf
    clear hf
    obtain ⟨a25, e26, k27, hf⟩ := ho
    cases e26
    have ho := bnd_e hf
    clear hf
    obtain ⟨v22, w23, q24, hf⟩ := ho
    refine q_cV X M hS hl.1 (ci := 5) (r := (RX5, TX5, 9)) (As := [va_rf x1, va_rf (some a1)]) (m_X5_takeTaken o x1 (some a1) _ _ q24) mlX5_262 gm_414 gm_415 rfl (by decide) k27 rfl ⟨(Nat.le_of_ble_eq_true rfl), (Nat.le_of_ble_eq_true rfl)⟩ (rest := []) rfl (Nat.le_of_ble_eq_true rfl) (mc := 0) (ms := 0) (MC := 1) (MS := 15) rfl rfl rfl rfl (by omega) (by omega) dX5_takeAtServer_61 (st2 := []) rfl (fun H locs M hS => ?_)
    refine lv_goto (tgt := 76) X.1 X.2.1 dX5_takeAtServer_64 (by decide) ?_
    obtain rfl := Option.some.inj hf
    exact q_vret X M hS (by omega) (by omega) dX5_takeAtServer_76
  rw [if_neg c21] at hf
  by_cases c28 : v2 = 5
  · rw [if_pos c28] at hf
    refine lv_tableIn (tgt := 67) (off := 63) X.1 X.2.1 dX5_takeAtServer_4 (by rw [c28]; decide) (by rw [c28]; decide) (by rw [c28]; rfl) (by decide) ?_
    refine q_aload_n X dX5_takeAtServer_67 rfl (lv_at hl 0 rfl) ?_
    refine q_aload_n X dX5_takeAtServer_68 rfl (lv_at hl 1 rfl) ?_
    refine q_aload_n X dX5_takeAtServer_69 rfl (lv_at hl 2 rfl) ?_
    have ho := chk_e hf
    clear hf
    obtain ⟨a32, e33, k34, hf⟩ := ho
    cases e33
    have ho := bnd_e hf
    clear hf
    obtain ⟨v29, w30, q31, hf⟩ := ho
    refine q_cV X M hS hl.1 (ci := 5) (r := (RX5, TX5, 9)) (As := [va_rf x1, va_rf (some a1)]) (m_X5_takeAck o x1 (some a1) _ _ q31) mlX5_265 gm_429 gm_430 rfl (by decide) k34 rfl ⟨(Nat.le_of_ble_eq_true rfl), (Nat.le_of_ble_eq_true rfl)⟩ (rest := []) rfl (Nat.le_of_ble_eq_true rfl) (mc := 0) (ms := 0) (MC := 1) (MS := 15) rfl rfl rfl rfl (by omega) (by omega) dX5_takeAtServer_70 (st2 := []) rfl (fun H locs M hS => ?_)
    refine lv_goto (tgt := 76) X.1 X.2.1 dX5_takeAtServer_73 (by decide) ?_
    obtain rfl := Option.some.inj hf
    exact q_vret X M hS (by omega) (by omega) dX5_takeAtServer_76
  rw [if_neg c28] at hf
  have ht4 : v2.toInt < 1 ∨ 5 < v2.toInt := by
    have g0 : v2.toInt ≠ 1 := by simpa using ne_i c6
    have g1 : v2.toInt ≠ 2 := by simpa using ne_i c13
    have g2 : v2.toInt ≠ 3 := by simpa using ne_i c14
    have g3 : v2.toInt ≠ 4 := by simpa using ne_i c21
    have g4 : v2.toInt ≠ 5 := by simpa using ne_i c28
    omega
  refine lv_tableOut (tgt := 76) X.1 X.2.1 dX5_takeAtServer_4 ht4 (by decide) ?_
  obtain rfl := Option.some.inj hf
  exact q_vret X M hS (by omega) (by omega) dX5_takeAtServer_76
theorem m_X5_takeAtServer {l : Launch} {D : va_G} {aC : Nat → ClassId} {b0 : Nat} {w : Wd} (o : Nat) (x1 : Option Nat) (x2 : Option Nat) (v : Unit) (w' : Wd) (hf : f_X5_takeAtServer o x1 x2 w = some (v, w')) : Ct l D aC b0 yX5_takeAtServer (Cond.code yX5_takeAtServer cX5_takeAtServer 3 none :: Gw) rX5_takeAtServer [va_rf (some o), va_rf x1, va_rf x2] w none w' :=
  q_met (by decide) (by simp [lg_sl, cat1, cati, catl]) (fun p e s m below meth c X M ls hl => e_X5_takeAtServer X (res := (v, w')) o x1 x2 w s.heap [] 0 0 ls hf M va_S.rf (by decide) (by decide) (by simpa [lv_args, cat1, cati, catl] using hl))
abbrev rX5_deliver : Room := { frames := 6, cells := 1, slots := 15, locals := 141 }
def f_X5_deliver_61 (o : Nat) (x2 : Option Nat) (w : Wd) : Option (Int32 × Wd) := gI w (some o) 6 6 (fun v43 => pI w (some o) 6 6 (v43 + 1) (fun w48 => gI w48 x2 3 0 (fun v53 => some ((v53 + 10), w48))))
set_option maxHeartbeats 4000000 in
set_option maxRecDepth 100000 in
theorem b_X5_deliver_61 {l : Launch} {D : va_G} {aC : Nat → ClassId} {b0 : Nat} {p : Program} {e : Env} {s : State} {m : MethodId} {args : Array Value} {below : List Frame} {meth : Method} {c : Code} (X : Cx D aC p s m args meth c cX5_deliver RX5 4 "deliver" (some .int)) {res : (Int32 × Wd)} : ∀ (o : Nat) (x2 : Option Nat) (w : Wd), BW l D aC b0 p e rX5_deliver s m args below meth c (Qe D aC b0 below args s 1 15 (some (.int res.1)) res.2) res 1 15 0 0 (f_X5_deliver_61 o x2 w) w 61 4 [(0, va_rf (some o)), (2, va_rf x2)] [] := by
  intro o x2 w H locs cells slots ls hf M hS hc hs hl
  unfold f_X5_deliver_61 at hf
  refine q_aload_n X dX5_deliver_61 rfl (lv_at hl 0 rfl) ?_
  refine lv_dup X.1 X.2.1 dX5_deliver_62 rfl ?_
  have ho := gI_e hf
  clear hf
  obtain ⟨a42, v43, e44, k45, q46, hf⟩ := ho
  cases e44
  refine q_get X M flX5_120.g k45 (congrArg Value.int q46) dX5_deliver_63 ?_
  refine lv_iconst (v := 1) X.1 X.2.1 dX5_deliver_66 (by decide) ?_
  refine lv_iadd X.1 X.2.1 dX5_deliver_67 ?_
  have ho := pI_e hf
  clear hf
  obtain ⟨a47, w48, e49, k50, q51, hf⟩ := ho
  cases e49
  refine q_putI X M hS flX5_120 (Or.inl rfl) k50 dX5_deliver_68 (fun H locs M hS => ?_)
  rw [q51] at M
  refine q_aload_n X dX5_deliver_71 rfl (lv_at hl 1 rfl) ?_
  have ho := gI_e hf
  clear hf
  obtain ⟨a52, v53, e54, k55, q56, hf⟩ := ho
  cases e54
  refine q_get X M flX5_107 k55 (congrArg Value.int q56) dX5_deliver_72 ?_
  refine lv_bipush (v := 10) X.1 X.2.1 dX5_deliver_75 (by decide) ?_
  refine lv_iadd X.1 X.2.1 dX5_deliver_77 ?_
  obtain rfl := Option.some.inj hf
  exact q_iret X M hS (by omega) (by omega) dX5_deliver_78
def f_X5_deliver (o : Nat) (x1 : Int32) (w : Wd) : Option (Int32 × Wd) := gR w (some o) 6 2 (fun v2 => chk w v2 4 (fun a9 => bnd (f_X3_at a9 x1 w) (fun v6 w7 => if v6 = none then (some ((-1), w7)) else (gR w7 (some o) 6 2 (fun v14 => chk w7 v14 4 (fun a21 => bnd (f_X3_removeAt a21 x1 w7) (fun v18 w19 => gI w19 v6 3 0 (fun v25 => if v25 = 2 then (chk w19 (some o) 6 (fun a77 => bnd (f_X5_takeAnswer a77 v6 w19) (fun v74 w75 => gI w75 v6 3 0 (fun v81 => some (v81, w75))))) else (gI w19 v6 3 1 (fun v31 => chk w19 (some o) 6 (fun a38 => bnd (f_X5_serverAt a38 v31 w19) (fun v35 w36 => if v35 = none then ((f_X5_deliver_61) o v6 w36) else (gI w36 v35 5 4 (fun v58 => if v58 = 0 then ((f_X5_deliver_61) o v6 w36) else (chk w36 (some o) 6 (fun a66 => bnd (f_X5_takeAtServer a66 v35 v6 w36) (fun v63 w64 => gI w64 v6 3 0 (fun v70 => some (v70, w64)))))))))))))))))))
set_option maxHeartbeats 4000000 in
set_option maxRecDepth 100000 in
theorem e_X5_deliver {l : Launch} {D : va_G} {aC : Nat → ClassId} {b0 : Nat} {p : Program} {e : Env} {s : State} {m : MethodId} {args : Array Value} {below : List Frame} {meth : Method} {c : Code} (X : Cx D aC p s m args meth c cX5_deliver RX5 4 "deliver" (some .int)) {res : (Int32 × Wd)} (o : Nat) (x1 : Int32) (w : Wd) : BW l D aC b0 p e rX5_deliver s m args below meth c (Qe D aC b0 below args s 1 15 (some (.int res.1)) res.2) res 1 15 1 15 (f_X5_deliver o x1 w) w 0 4 [(0, va_rf (some o)), (1, .int x1)] [] := by
  intro H locs cells slots ls hf M hS hc hs hl
  unfold f_X5_deliver at hf
  refine q_aload_n X dX5_deliver_0 rfl (lv_at hl 0 rfl) ?_
  have ho := gR_e hf
  clear hf
  obtain ⟨a1, v2, e3, k4, q5, hf⟩ := ho
  cases e3
  refine q_get X M flX5_34.g k4 (congrArg va_rf q5) dX5_deliver_1 ?_
  refine lv_iload_n X.1 X.2.1 dX5_deliver_4 rfl (lv_at hl 1 rfl) ?_
  have ho := chk_e hf
  clear hf
  obtain ⟨a9, e10, k11, hf⟩ := ho
  cases e10
  have ho := bnd_e hf
  clear hf
  obtain ⟨v6, w7, q8, hf⟩ := ho
  refine q_cV X M hS hl.1 (ci := 3) (r := (RX3, TX3, 2)) (As := [.int x1]) (m_X3_at a9 x1 _ _ q8) mlX5_100 gm_313 gm_314 rfl (by decide) k11 rfl ⟨(Nat.le_of_ble_eq_true rfl), (Nat.le_of_ble_eq_true rfl)⟩ (rest := []) rfl (Nat.le_of_ble_eq_true rfl) (mc := 0) (ms := 0) (MC := 1) (MS := 15) rfl rfl rfl rfl (by omega) (by omega) dX5_deliver_5 (st2 := [va_rf v6]) rfl (fun H locs M hS => ?_)
  refine q_astore_n (i := 2) (lv' := [(2, va_rf v6), (0, va_rf (some o)), (1, .int x1)]) X dX5_deliver_8 rfl hl (by decide) rfl (fun ls hl => ?_)
  refine q_aload_n X dX5_deliver_9 rfl (lv_at hl 0 rfl) ?_
  refine q_ifnonnull (tgt := 15) X dX5_deliver_10 (by decide) (fun c12 => ?_) (fun c12 => ?_)
  · rw [if_neg c12] at hf
    refine q_aload_n X dX5_deliver_15 rfl (lv_at hl 1 rfl) ?_
    have ho := gR_e hf
    clear hf
    obtain ⟨a13, v14, e15, k16, q17, hf⟩ := ho
    cases e15
    refine q_get X M flX5_34.g k16 (congrArg va_rf q17) dX5_deliver_16 ?_
    refine lv_iload_n X.1 X.2.1 dX5_deliver_19 rfl (lv_at hl 2 rfl) ?_
    have ho := chk_e hf
    clear hf
    obtain ⟨a21, e22, k23, hf⟩ := ho
    cases e22
    have ho := bnd_e hf
    clear hf
    obtain ⟨v18, w19, q20, hf⟩ := ho
    refine q_cV X M hS hl.1 (ci := 3) (r := (RX3, TX3, 2)) (As := [.int x1]) (m_X3_removeAt a21 x1 _ _ q20) mlX5_104 gm_317 gm_318 rfl (by decide) k23 rfl ⟨(Nat.le_of_ble_eq_true rfl), (Nat.le_of_ble_eq_true rfl)⟩ (rest := []) rfl (Nat.le_of_ble_eq_true rfl) (mc := 0) (ms := 0) (MC := 1) (MS := 15) rfl rfl rfl rfl (by omega) (by omega) dX5_deliver_20 (st2 := []) rfl (fun H locs M hS => ?_)
    refine q_aload_n X dX5_deliver_23 rfl (lv_at hl 0 rfl) ?_
    have ho := gI_e hf
    clear hf
    obtain ⟨a24, v25, e26, k27, q28, hf⟩ := ho
    cases e26
    refine q_get X M flX5_107 k27 (congrArg Value.int q28) dX5_deliver_24 ?_
    refine lv_iconst (v := 2) X.1 X.2.1 dX5_deliver_27 (by decide) ?_
    refine lv_icmp_ne (tgt := 41) X.1 X.2.1 dX5_deliver_28 (by decide) (fun c29 => ?_) (fun c29 => ?_)
    · rw [if_neg c29] at hf
      refine q_aload_n X dX5_deliver_41 rfl (lv_at hl 1 rfl) ?_
      refine q_aload_n X dX5_deliver_42 rfl (lv_at hl 0 rfl) ?_
      have ho := gI_e hf
      clear hf
      obtain ⟨a30, v31, e32, k33, q34, hf⟩ := ho
      cases e32
      refine q_get X M flX5_113 k33 (congrArg Value.int q34) dX5_deliver_43 ?_
      have ho := chk_e hf
      clear hf
      obtain ⟨a38, e39, k40, hf⟩ := ho
      cases e39
      have ho := bnd_e hf
      clear hf
      obtain ⟨v35, w36, q37, hf⟩ := ho
      refine q_cV X M hS hl.1 (ci := 5) (r := (RX5, TX5, 9)) (As := [.int v31]) (m_X5_serverAt o v31 _ _ q37) mlX5_85 gm_294 gm_295 rfl (by decide) k40 rfl ⟨(Nat.le_of_ble_eq_true rfl), (Nat.le_of_ble_eq_true rfl)⟩ (rest := []) rfl (Nat.le_of_ble_eq_true rfl) (mc := 0) (ms := 0) (MC := 1) (MS := 15) rfl rfl rfl rfl (by omega) (by omega) dX5_deliver_46 (st2 := [va_rf v35]) rfl (fun H locs M hS => ?_)
      refine q_astore_n (i := 3) (lv' := [(3, va_rf v35), (2, va_rf (some a24)), (0, va_rf (some o)), (1, .int x1)]) X dX5_deliver_49 rfl hl (by decide) rfl (fun ls hl => ?_)
      refine q_aload_n X dX5_deliver_50 rfl (lv_at hl 0 rfl) ?_
      refine q_ifnull (tgt := 61) X dX5_deliver_51 (by decide) (fun c41 => ?_) (fun c41 => ?_)
      · rw [if_pos c41] at hf
        exact (b_X5_deliver_61 X) o (some a24) w36 _ _ _ _ _ hf M hS (by omega) (by omega) (lv_sub hl [2, 1] rfl)
      · rw [if_neg c41] at hf
        refine q_aload_n X dX5_deliver_54 rfl (lv_at hl 0 rfl) ?_
        have ho := gI_e hf
        clear hf
        obtain ⟨a57, v58, e59, k60, q61, hf⟩ := ho
        cases e59
        refine q_get X M flX5_116.g k60 (congrArg Value.int q61) dX5_deliver_55 ?_
        refine lv_if_ne (tgt := 79) X.1 X.2.1 dX5_deliver_58 (by decide) (fun c62 => ?_) (fun c62 => ?_)
        · rw [if_neg c62] at hf
          refine q_aload_n X dX5_deliver_79 rfl (lv_at hl 2 rfl) ?_
          refine q_aload_n X dX5_deliver_80 rfl (lv_at hl 0 rfl) ?_
          refine q_aload_n X dX5_deliver_81 rfl (lv_at hl 1 rfl) ?_
          have ho := chk_e hf
          clear hf
          obtain ⟨a66, e67, k68, hf⟩ := ho
          cases e67
          have ho := bnd_e hf
          clear hf
          obtain ⟨v63, w64, q65, hf⟩ := ho
          refine q_cV X M hS hl.1 (ci := 5) (r := (RX5, TX5, 9)) (As := [va_rf (some a57), va_rf (some a24)]) (m_X5_takeAtServer o (some a57) (some a24) _ _ q65) mlX5_123 gm_333 gm_334 rfl (by decide) k68 rfl ⟨(Nat.le_of_ble_eq_true rfl), (Nat.le_of_ble_eq_true rfl)⟩ (rest := []) rfl (Nat.le_of_ble_eq_true rfl) (mc := 1) (ms := 15) (MC := 1) (MS := 15) rfl rfl rfl rfl (by omega) (by omega) dX5_deliver_82 (st2 := []) rfl (fun H locs M hS => ?_)
          refine q_aload_n X dX5_deliver_85 rfl (lv_at hl 1 rfl) ?_
          have ho := gI_e hf
          clear hf
          obtain ⟨a69, v70, e71, k72, q73, hf⟩ := ho
          cases e71
          refine q_get X M flX5_107 k72 (congrArg Value.int q73) dX5_deliver_86 ?_
          obtain rfl := Option.some.inj hf
          exact q_iret X M hS (by omega) (by omega) dX5_deliver_89
        · rw [if_pos c62] at hf
          exact (b_X5_deliver_61 X) o (some a24) w36 _ _ _ _ _ hf M hS (by omega) (by omega) (lv_sub hl [2, 1] rfl)
    · rw [if_pos c29] at hf
      refine q_aload_n X dX5_deliver_31 rfl (lv_at hl 1 rfl) ?_
      refine q_aload_n X dX5_deliver_32 rfl (lv_at hl 0 rfl) ?_
      have ho := chk_e hf
      clear hf
      obtain ⟨a77, e78, k79, hf⟩ := ho
      cases e78
      have ho := bnd_e hf
      clear hf
      obtain ⟨v74, w75, q76, hf⟩ := ho
      refine q_cV X M hS hl.1 (ci := 5) (r := (RX5, TX5, 9)) (As := [va_rf (some a24)]) (m_X5_takeAnswer o (some a24) _ _ q76) mlX5_110 gm_321 gm_322 rfl (by decide) k79 rfl ⟨(Nat.le_of_ble_eq_true rfl), (Nat.le_of_ble_eq_true rfl)⟩ (rest := []) rfl (Nat.le_of_ble_eq_true rfl) (mc := 0) (ms := 0) (MC := 1) (MS := 15) rfl rfl rfl rfl (by omega) (by omega) dX5_deliver_33 (st2 := []) rfl (fun H locs M hS => ?_)
      refine q_aload_n X dX5_deliver_36 rfl (lv_at hl 0 rfl) ?_
      have ho := gI_e hf
      clear hf
      obtain ⟨a80, v81, e82, k83, q84, hf⟩ := ho
      cases e82
      refine q_get X M flX5_107 k83 (congrArg Value.int q84) dX5_deliver_37 ?_
      obtain rfl := Option.some.inj hf
      exact q_iret X M hS (by omega) (by omega) dX5_deliver_40
  · rw [if_pos c12] at hf
    refine lv_iconst (v := (-1)) X.1 X.2.1 dX5_deliver_13 (by decide) ?_
    obtain rfl := Option.some.inj hf
    exact q_iret X M hS (by omega) (by omega) dX5_deliver_14
theorem m_X5_deliver {l : Launch} {D : va_G} {aC : Nat → ClassId} {b0 : Nat} {w : Wd} (o : Nat) (x1 : Int32) (v : Int32) (w' : Wd) (hf : f_X5_deliver o x1 w = some (v, w')) : Ct l D aC b0 yX5_deliver (Cond.code yX5_deliver cX5_deliver 4 (some .int) :: Gw) rX5_deliver [va_rf (some o), .int x1] w (some (.int v)) w' :=
  q_met (by decide) (Nat.le_of_ble_eq_true rfl) (fun p e s m below meth c X M ls hl => e_X5_deliver X (res := (v, w')) o x1 w s.heap [] 0 0 ls hf M va_S.rf (by decide) (by decide) hl)
abbrev rX5_drop : Room := { frames := 1, cells := 0, slots := 0, locals := 22 }
def f_X5_drop (o : Nat) (x1 : Int32) (w : Wd) : Option (Int32 × Wd) := gR w (some o) 6 2 (fun v2 => chk w v2 4 (fun a9 => bnd (f_X3_at a9 x1 w) (fun v6 w7 => if v6 = none then (some ((-1), w7)) else (gR w7 (some o) 6 2 (fun v14 => chk w7 v14 4 (fun a21 => bnd (f_X3_removeAt a21 x1 w7) (fun v18 w19 => gI w19 (some o) 6 6 (fun v25 => pI w19 (some o) 6 6 (v25 + 1) (fun w30 => gI w30 v6 3 0 (fun v35 => some (v35, w30)))))))))))
set_option maxHeartbeats 4000000 in
set_option maxRecDepth 100000 in
theorem e_X5_drop {l : Launch} {D : va_G} {aC : Nat → ClassId} {b0 : Nat} {p : Program} {e : Env} {s : State} {m : MethodId} {args : Array Value} {below : List Frame} {meth : Method} {c : Code} (X : Cx D aC p s m args meth c cX5_drop RX5 3 "drop" (some .int)) {res : (Int32 × Wd)} (o : Nat) (x1 : Int32) (w : Wd) : BW l D aC b0 p e rX5_drop s m args below meth c (Qe D aC b0 below args s 0 0 (some (.int res.1)) res.2) res 0 0 0 0 (f_X5_drop o x1 w) w 0 3 [(0, va_rf (some o)), (1, .int x1)] [] := by
  intro H locs cells slots ls hf M hS hc hs hl
  unfold f_X5_drop at hf
  refine q_aload_n X dX5_drop_0 rfl (lv_at hl 0 rfl) ?_
  have ho := gR_e hf
  clear hf
  obtain ⟨a1, v2, e3, k4, q5, hf⟩ := ho
  cases e3
  refine q_get X M flX5_34.g k4 (congrArg va_rf q5) dX5_drop_1 ?_
  refine lv_iload_n X.1 X.2.1 dX5_drop_4 rfl (lv_at hl 1 rfl) ?_
  have ho := chk_e hf
  clear hf
  obtain ⟨a9, e10, k11, hf⟩ := ho
  cases e10
  have ho := bnd_e hf
  clear hf
  obtain ⟨v6, w7, q8, hf⟩ := ho
  refine q_cV X M hS hl.1 (ci := 3) (r := (RX3, TX3, 2)) (As := [.int x1]) (m_X3_at a9 x1 _ _ q8) mlX5_100 gm_313 gm_314 rfl (by decide) k11 rfl ⟨(Nat.le_of_ble_eq_true rfl), (Nat.le_of_ble_eq_true rfl)⟩ (rest := []) rfl (Nat.le_of_ble_eq_true rfl) (mc := 0) (ms := 0) (MC := 0) (MS := 0) rfl rfl rfl rfl (by omega) (by omega) dX5_drop_5 (st2 := [va_rf v6]) rfl (fun H locs M hS => ?_)
  refine q_astore_n (i := 2) (lv' := [(2, va_rf v6), (0, va_rf (some o)), (1, .int x1)]) X dX5_drop_8 rfl hl (by decide) rfl (fun ls hl => ?_)
  refine q_aload_n X dX5_drop_9 rfl (lv_at hl 0 rfl) ?_
  refine q_ifnonnull (tgt := 15) X dX5_drop_10 (by decide) (fun c12 => ?_) (fun c12 => ?_)
  · rw [if_neg c12] at hf
    refine q_aload_n X dX5_drop_15 rfl (lv_at hl 1 rfl) ?_
    have ho := gR_e hf
    clear hf
    obtain ⟨a13, v14, e15, k16, q17, hf⟩ := ho
    cases e15
    refine q_get X M flX5_34.g k16 (congrArg va_rf q17) dX5_drop_16 ?_
    refine lv_iload_n X.1 X.2.1 dX5_drop_19 rfl (lv_at hl 2 rfl) ?_
    have ho := chk_e hf
    clear hf
    obtain ⟨a21, e22, k23, hf⟩ := ho
    cases e22
    have ho := bnd_e hf
    clear hf
    obtain ⟨v18, w19, q20, hf⟩ := ho
    refine q_cV X M hS hl.1 (ci := 3) (r := (RX3, TX3, 2)) (As := [.int x1]) (m_X3_removeAt a21 x1 _ _ q20) mlX5_104 gm_317 gm_318 rfl (by decide) k23 rfl ⟨(Nat.le_of_ble_eq_true rfl), (Nat.le_of_ble_eq_true rfl)⟩ (rest := []) rfl (Nat.le_of_ble_eq_true rfl) (mc := 0) (ms := 0) (MC := 0) (MS := 0) rfl rfl rfl rfl (by omega) (by omega) dX5_drop_20 (st2 := []) rfl (fun H locs M hS => ?_)
    refine q_aload_n X dX5_drop_23 rfl (lv_at hl 1 rfl) ?_
    refine lv_dup X.1 X.2.1 dX5_drop_24 rfl ?_
    have ho := gI_e hf
    clear hf
    obtain ⟨a24, v25, e26, k27, q28, hf⟩ := ho
    cases e26
    refine q_get X M flX5_120.g k27 (congrArg Value.int q28) dX5_drop_25 ?_
    refine lv_iconst (v := 1) X.1 X.2.1 dX5_drop_28 (by decide) ?_
    refine lv_iadd X.1 X.2.1 dX5_drop_29 ?_
    have ho := pI_e hf
    clear hf
    obtain ⟨a29, w30, e31, k32, q33, hf⟩ := ho
    cases e31
    refine q_putI X M hS flX5_120 (Or.inl rfl) k32 dX5_drop_30 (fun H locs M hS => ?_)
    rw [q33] at M
    refine q_aload_n X dX5_drop_33 rfl (lv_at hl 0 rfl) ?_
    have ho := gI_e hf
    clear hf
    obtain ⟨a34, v35, e36, k37, q38, hf⟩ := ho
    cases e36
    refine q_get X M flX5_107 k37 (congrArg Value.int q38) dX5_drop_34 ?_
    obtain rfl := Option.some.inj hf
    exact q_iret X M hS (by omega) (by omega) dX5_drop_37
  · rw [if_pos c12] at hf
    refine lv_iconst (v := (-1)) X.1 X.2.1 dX5_drop_13 (by decide) ?_
    obtain rfl := Option.some.inj hf
    exact q_iret X M hS (by omega) (by omega) dX5_drop_14
theorem m_X5_drop {l : Launch} {D : va_G} {aC : Nat → ClassId} {b0 : Nat} {w : Wd} (o : Nat) (x1 : Int32) (v : Int32) (w' : Wd) (hf : f_X5_drop o x1 w = some (v, w')) : Ct l D aC b0 yX5_drop (Cond.code yX5_drop cX5_drop 3 (some .int) :: Gw) rX5_drop [va_rf (some o), .int x1] w (some (.int v)) w' :=
  q_met (by decide) (Nat.le_of_ble_eq_true rfl) (fun p e s m below meth c X M ls hl => e_X5_drop X (res := (v, w')) o x1 w s.heap [] 0 0 ls hf M va_S.rf (by decide) (by decide) hl)
abbrev rX5_twin : Room := { frames := 1, cells := 0, slots := 0, locals := 21 }
def f_X5_twin (o : Nat) (x1 : Int32) (w : Wd) : Option (Int32 × Wd) := gR w (some o) 6 2 (fun v2 => chk w v2 4 (fun a9 => bnd (f_X3_at a9 x1 w) (fun v6 w7 => if v6 = none then (some ((-1), w7)) else (gR w7 (some o) 6 2 (fun v14 => chk w7 v14 4 (fun a21 => bnd (f_X3_append a21 v6 w7) (fun v18 w19 => if v18 = 0 then (some ((-2), w19)) else (gI w19 v6 3 0 (fun v26 => some (v26, w19))))))))))
set_option maxHeartbeats 4000000 in
set_option maxRecDepth 100000 in
theorem e_X5_twin {l : Launch} {D : va_G} {aC : Nat → ClassId} {b0 : Nat} {p : Program} {e : Env} {s : State} {m : MethodId} {args : Array Value} {below : List Frame} {meth : Method} {c : Code} (X : Cx D aC p s m args meth c cX5_twin RX5 3 "twin" (some .int)) {res : (Int32 × Wd)} (o : Nat) (x1 : Int32) (w : Wd) : BW l D aC b0 p e rX5_twin s m args below meth c (Qe D aC b0 below args s 0 0 (some (.int res.1)) res.2) res 0 0 0 0 (f_X5_twin o x1 w) w 0 3 [(0, va_rf (some o)), (1, .int x1)] [] := by
  intro H locs cells slots ls hf M hS hc hs hl
  unfold f_X5_twin at hf
  refine q_aload_n X dX5_twin_0 rfl (lv_at hl 0 rfl) ?_
  have ho := gR_e hf
  clear hf
  obtain ⟨a1, v2, e3, k4, q5, hf⟩ := ho
  cases e3
  refine q_get X M flX5_34.g k4 (congrArg va_rf q5) dX5_twin_1 ?_
  refine lv_iload_n X.1 X.2.1 dX5_twin_4 rfl (lv_at hl 1 rfl) ?_
  have ho := chk_e hf
  clear hf
  obtain ⟨a9, e10, k11, hf⟩ := ho
  cases e10
  have ho := bnd_e hf
  clear hf
  obtain ⟨v6, w7, q8, hf⟩ := ho
  refine q_cV X M hS hl.1 (ci := 3) (r := (RX3, TX3, 2)) (As := [.int x1]) (m_X3_at a9 x1 _ _ q8) mlX5_100 gm_313 gm_314 rfl (by decide) k11 rfl ⟨(Nat.le_of_ble_eq_true rfl), (Nat.le_of_ble_eq_true rfl)⟩ (rest := []) rfl (Nat.le_of_ble_eq_true rfl) (mc := 0) (ms := 0) (MC := 0) (MS := 0) rfl rfl rfl rfl (by omega) (by omega) dX5_twin_5 (st2 := [va_rf v6]) rfl (fun H locs M hS => ?_)
  refine q_astore_n (i := 2) (lv' := [(2, va_rf v6), (0, va_rf (some o)), (1, .int x1)]) X dX5_twin_8 rfl hl (by decide) rfl (fun ls hl => ?_)
  refine q_aload_n X dX5_twin_9 rfl (lv_at hl 0 rfl) ?_
  refine q_ifnonnull (tgt := 15) X dX5_twin_10 (by decide) (fun c12 => ?_) (fun c12 => ?_)
  · rw [if_neg c12] at hf
    refine q_aload_n X dX5_twin_15 rfl (lv_at hl 1 rfl) ?_
    have ho := gR_e hf
    clear hf
    obtain ⟨a13, v14, e15, k16, q17, hf⟩ := ho
    cases e15
    refine q_get X M flX5_34.g k16 (congrArg va_rf q17) dX5_twin_16 ?_
    refine q_aload_n X dX5_twin_19 rfl (lv_at hl 0 rfl) ?_
    have ho := chk_e hf
    clear hf
    obtain ⟨a21, e22, k23, hf⟩ := ho
    cases e22
    have ho := bnd_e hf
    clear hf
    obtain ⟨v18, w19, q20, hf⟩ := ho
    refine q_cV X M hS hl.1 (ci := 3) (r := (RX3, TX3, 2)) (As := [va_rf v6]) (m_X3_append a21 v6 _ _ q20) mlX5_127 gm_241 gm_242 rfl (by decide) k23 rfl ⟨(Nat.le_of_ble_eq_true rfl), (Nat.le_of_ble_eq_true rfl)⟩ (rest := []) rfl (Nat.le_of_ble_eq_true rfl) (mc := 0) (ms := 0) (MC := 0) (MS := 0) rfl rfl rfl rfl (by omega) (by omega) dX5_twin_20 (st2 := [.int v18]) rfl (fun H locs M hS => ?_)
    refine lv_if_eq (tgt := 33) X.1 X.2.1 dX5_twin_23 (by decide) (fun c24 => ?_) (fun c24 => ?_)
    · rw [if_pos c24] at hf
      refine lv_bipush (v := (-2)) X.1 X.2.1 dX5_twin_33 (by decide) ?_
      obtain rfl := Option.some.inj hf
      exact q_iret X M hS (by omega) (by omega) dX5_twin_35
    · rw [if_neg c24] at hf
      refine q_aload_n X dX5_twin_26 rfl (lv_at hl 0 rfl) ?_
      have ho := gI_e hf
      clear hf
      obtain ⟨a25, v26, e27, k28, q29, hf⟩ := ho
      cases e27
      refine q_get X M flX5_107 k28 (congrArg Value.int q29) dX5_twin_27 ?_
      refine lv_goto (tgt := 35) X.1 X.2.1 dX5_twin_30 (by decide) ?_
      obtain rfl := Option.some.inj hf
      exact q_iret X M hS (by omega) (by omega) dX5_twin_35
  · rw [if_pos c12] at hf
    refine lv_iconst (v := (-1)) X.1 X.2.1 dX5_twin_13 (by decide) ?_
    obtain rfl := Option.some.inj hf
    exact q_iret X M hS (by omega) (by omega) dX5_twin_14
theorem m_X5_twin {l : Launch} {D : va_G} {aC : Nat → ClassId} {b0 : Nat} {w : Wd} (o : Nat) (x1 : Int32) (v : Int32) (w' : Wd) (hf : f_X5_twin o x1 w = some (v, w')) : Ct l D aC b0 yX5_twin (Cond.code yX5_twin cX5_twin 3 (some .int) :: Gw) rX5_twin [va_rf (some o), .int x1] w (some (.int v)) w' :=
  q_met (by decide) (Nat.le_of_ble_eq_true rfl) (fun p e s m below meth c X M ls hl => e_X5_twin X (res := (v, w')) o x1 w s.heap [] 0 0 ls hf M va_S.rf (by decide) (by decide) hl)
abbrev rX5_sync : Room := { frames := 3, cells := 0, slots := 0, locals := 68 }
def f_X5_sync_37 (K62 : Option Nat → Int32 → Wd → Option (Int32 × Wd)) : Nat → Nat → Option Nat → Int32 → Int32 → Wd → Option (Int32 × Wd)
  | 0, _, _, _, _, _ => none
  | n + 1, o, x2, x3, x4, w => if x3 ≤ x4 then (K62 x2 x3 w) else (gR w x2 5 1 (fun v32 => chk w v32 4 (fun a39 => bnd (f_X3_at a39 x4 w) (fun v36 w37 => chk w37 (some o) 6 (fun a45 => bnd (f_X5_send a45 v36 w37) (fun v42 w43 => (f_X5_sync_37 K62 n) o x2 x3 (x4 + 1) w43))))))
set_option maxHeartbeats 4000000 in
set_option maxRecDepth 100000 in
theorem b_X5_sync_37 {l : Launch} {D : va_G} {aC : Nat → ClassId} {b0 : Nat} {p : Program} {e : Env} {s : State} {m : MethodId} {args : Array Value} {below : List Frame} {meth : Method} {c : Code} (X : Cx D aC p s m args meth c cX5_sync RX5 5 "sync" (some .int)) {res : (Int32 × Wd)} {K62 : Option Nat → Int32 → Wd → Option (Int32 × Wd)} (hK62 : ∀ (x2 : Option Nat) (x3 : Int32) (w : Wd), BW l D aC b0 p e rX5_sync s m args below meth c (Qe D aC b0 below args s 0 0 (some (.int res.1)) res.2) res 0 0 0 0 (K62 x2 x3 w) w 62 5 [(2, va_rf x2), (3, .int x3)] []) : ∀ (n : Nat) (o : Nat) (x2 : Option Nat) (x3 : Int32) (x4 : Int32) (w : Wd), BW l D aC b0 p e rX5_sync s m args below meth c (Qe D aC b0 below args s 0 0 (some (.int res.1)) res.2) res 0 0 0 0 (f_X5_sync_37 K62 n o x2 x3 x4 w) w 37 5 [(0, va_rf (some o)), (2, va_rf x2), (3, .int x3), (4, .int x4)] [] := by
  intro n
  induction n with
  | zero =>
    intro o x2 x3 x4 w H locs cells slots ls hf
    rw [f_X5_sync_37.eq_1] at hf
    cases hf
  | succ n ih =>
    intro o x2 x3 x4 w H locs cells slots ls hf M hS hc hs hl
    rw [f_X5_sync_37.eq_2] at hf
    refine lv_iload X.1 X.2.1 dX5_sync_37 (lv_at hl 3 rfl) ?_
    refine lv_iload_n X.1 X.2.1 dX5_sync_39 rfl (lv_at hl 2 rfl) ?_
    refine lv_icmp_ge (tgt := 62) X.1 X.2.1 dX5_sync_40 (by decide) (fun c30 => ?_) (fun c30 => ?_)
    · rw [if_pos c30] at hf
      exact hK62 x2 x3 w _ _ _ _ _ hf M hS (by omega) (by omega) (lv_sub hl [1, 2] rfl)
    · rw [if_neg c30] at hf
      refine q_aload_n X dX5_sync_43 rfl (lv_at hl 0 rfl) ?_
      refine q_aload_n X dX5_sync_44 rfl (lv_at hl 1 rfl) ?_
      have ho := gR_e hf
      clear hf
      obtain ⟨a31, v32, e33, k34, q35, hf⟩ := ho
      cases e33
      refine q_get X M flX5_134 k34 (congrArg va_rf q35) dX5_sync_45 ?_
      refine lv_iload X.1 X.2.1 dX5_sync_48 (lv_at hl 3 rfl) ?_
      have ho := chk_e hf
      clear hf
      obtain ⟨a39, e40, k41, hf⟩ := ho
      cases e40
      have ho := bnd_e hf
      clear hf
      obtain ⟨v36, w37, q38, hf⟩ := ho
      refine q_cV X M hS hl.1 (ci := 3) (r := (RX3, TX3, 2)) (As := [.int x4]) (m_X3_at a39 x4 _ _ q38) mlX5_100 gm_313 gm_314 rfl (by decide) k41 rfl ⟨(Nat.le_of_ble_eq_true rfl), (Nat.le_of_ble_eq_true rfl)⟩ (rest := [va_rf (some o)]) rfl (Nat.le_of_ble_eq_true rfl) (mc := 0) (ms := 0) (MC := 0) (MS := 0) rfl rfl rfl rfl (by omega) (by omega) dX5_sync_50 (st2 := [va_rf v36, va_rf (some o)]) rfl (fun H locs M hS => ?_)
      have ho := chk_e hf
      clear hf
      obtain ⟨a45, e46, k47, hf⟩ := ho
      cases e46
      have ho := bnd_e hf
      clear hf
      obtain ⟨v42, w43, q44, hf⟩ := ho
      refine q_cV X M hS hl.1 (ci := 5) (r := (RX5, TX5, 9)) (As := [va_rf v36]) (m_X5_send o v36 _ _ q44) mlX5_73 gm_236 gm_237 rfl (by decide) k47 rfl ⟨(Nat.le_of_ble_eq_true rfl), (Nat.le_of_ble_eq_true rfl)⟩ (rest := []) rfl (Nat.le_of_ble_eq_true rfl) (mc := 0) (ms := 0) (MC := 0) (MS := 0) rfl rfl rfl rfl (by omega) (by omega) dX5_sync_53 (st2 := []) rfl (fun H locs M hS => ?_)
      refine lv_iinc (v := (x4 + 1)) (lv' := [(4, .int (x4 + 1)), (0, va_rf (some o)), (2, va_rf (some a31)), (3, .int x3)]) X.1 X.2.1 dX5_sync_56 hl (k := 3) rfl rfl (by decide) rfl (fun ls hl => ?_)
      refine lv_goto (tgt := 37) X.1 X.2.1 dX5_sync_59 (by decide) ?_
      exact ih o (some a31) x3 (x4 + 1) w43 _ _ _ _ _ hf M hS (by omega) (by omega) (lv_sub hl [1, 2, 3, 0] rfl)
def f_X5_sync_62 (x2 : Option Nat) (x3 : Int32) (w : Wd) : Option (Int32 × Wd) := gR w x2 5 1 (fun v49 => chk w v49 4 (fun a56 => bnd (f_X3_clear a56 w) (fun v53 w54 => some (x3, w54))))
set_option maxHeartbeats 4000000 in
set_option maxRecDepth 100000 in
theorem b_X5_sync_62 {l : Launch} {D : va_G} {aC : Nat → ClassId} {b0 : Nat} {p : Program} {e : Env} {s : State} {m : MethodId} {args : Array Value} {below : List Frame} {meth : Method} {c : Code} (X : Cx D aC p s m args meth c cX5_sync RX5 5 "sync" (some .int)) {res : (Int32 × Wd)} : ∀ (x2 : Option Nat) (x3 : Int32) (w : Wd), BW l D aC b0 p e rX5_sync s m args below meth c (Qe D aC b0 below args s 0 0 (some (.int res.1)) res.2) res 0 0 0 0 (f_X5_sync_62 x2 x3 w) w 62 5 [(2, va_rf x2), (3, .int x3)] [] := by
  intro x2 x3 w H locs cells slots ls hf M hS hc hs hl
  unfold f_X5_sync_62 at hf
  refine q_aload_n X dX5_sync_62 rfl (lv_at hl 0 rfl) ?_
  have ho := gR_e hf
  clear hf
  obtain ⟨a48, v49, e50, k51, q52, hf⟩ := ho
  cases e50
  refine q_get X M flX5_134 k51 (congrArg va_rf q52) dX5_sync_63 ?_
  have ho := chk_e hf
  clear hf
  obtain ⟨a56, e57, k58, hf⟩ := ho
  cases e57
  have ho := bnd_e hf
  clear hf
  obtain ⟨v53, w54, q55, hf⟩ := ho
  refine q_cV X M hS hl.1 (ci := 3) (r := (RX3, TX3, 2)) (As := []) (m_X3_clear a56 _ _ q55) mlX5_140 gm_504 gm_505 rfl (by decide) k58 rfl ⟨(Nat.le_of_ble_eq_true rfl), (Nat.le_of_ble_eq_true rfl)⟩ (rest := []) rfl (Nat.le_of_ble_eq_true rfl) (mc := 0) (ms := 0) (MC := 0) (MS := 0) rfl rfl rfl rfl (by omega) (by omega) dX5_sync_66 (st2 := []) rfl (fun H locs M hS => ?_)
  refine lv_iload_n X.1 X.2.1 dX5_sync_69 rfl (lv_at hl 1 rfl) ?_
  obtain rfl := Option.some.inj hf
  exact q_iret X M hS (by omega) (by omega) dX5_sync_70
def f_X5_sync (o : Nat) (x1 : Int32) (w : Wd) : Option (Int32 × Wd) := chk w (some o) 6 (fun a4 => bnd (f_X5_serverAt a4 x1 w) (fun v1 w2 => if v1 = none then (some ((-1), w2)) else (gI w2 v1 5 4 (fun v9 => if v9 = 0 then (some ((-3), w2)) else (chk w2 v1 5 (fun a17 => bnd (f_X4_keep a17 w2) (fun v14 w15 => gR w15 v1 5 1 (fun v21 => gI w15 v21 4 1 (fun v26 => (f_X5_sync_37 (f_X5_sync_62) FU) o v1 v26 0 w15)))))))))
set_option maxHeartbeats 4000000 in
set_option maxRecDepth 100000 in
theorem e_X5_sync {l : Launch} {D : va_G} {aC : Nat → ClassId} {b0 : Nat} {p : Program} {e : Env} {s : State} {m : MethodId} {args : Array Value} {below : List Frame} {meth : Method} {c : Code} (X : Cx D aC p s m args meth c cX5_sync RX5 5 "sync" (some .int)) {res : (Int32 × Wd)} (o : Nat) (x1 : Int32) (w : Wd) : BW l D aC b0 p e rX5_sync s m args below meth c (Qe D aC b0 below args s 0 0 (some (.int res.1)) res.2) res 0 0 0 0 (f_X5_sync o x1 w) w 0 5 [(0, va_rf (some o)), (1, .int x1)] [] := by
  intro H locs cells slots ls hf M hS hc hs hl
  unfold f_X5_sync at hf
  refine q_aload_n X dX5_sync_0 rfl (lv_at hl 0 rfl) ?_
  refine lv_iload_n X.1 X.2.1 dX5_sync_1 rfl (lv_at hl 1 rfl) ?_
  have ho := chk_e hf
  clear hf
  obtain ⟨a4, e5, k6, hf⟩ := ho
  cases e5
  have ho := bnd_e hf
  clear hf
  obtain ⟨v1, w2, q3, hf⟩ := ho
  refine q_cV X M hS hl.1 (ci := 5) (r := (RX5, TX5, 9)) (As := [.int x1]) (m_X5_serverAt o x1 _ _ q3) mlX5_85 gm_294 gm_295 rfl (by decide) k6 rfl ⟨(Nat.le_of_ble_eq_true rfl), (Nat.le_of_ble_eq_true rfl)⟩ (rest := []) rfl (Nat.le_of_ble_eq_true rfl) (mc := 0) (ms := 0) (MC := 0) (MS := 0) rfl rfl rfl rfl (by omega) (by omega) dX5_sync_2 (st2 := [va_rf v1]) rfl (fun H locs M hS => ?_)
  refine q_astore_n (i := 2) (lv' := [(2, va_rf v1), (0, va_rf (some o)), (1, .int x1)]) X dX5_sync_5 rfl hl (by decide) rfl (fun ls hl => ?_)
  refine q_aload_n X dX5_sync_6 rfl (lv_at hl 0 rfl) ?_
  refine q_ifnonnull (tgt := 12) X dX5_sync_7 (by decide) (fun c7 => ?_) (fun c7 => ?_)
  · rw [if_neg c7] at hf
    refine q_aload_n X dX5_sync_12 rfl (lv_at hl 0 rfl) ?_
    have ho := gI_e hf
    clear hf
    obtain ⟨a8, v9, e10, k11, q12, hf⟩ := ho
    cases e10
    refine q_get X M flX5_116.g k11 (congrArg Value.int q12) dX5_sync_13 ?_
    refine lv_if_ne (tgt := 22) X.1 X.2.1 dX5_sync_16 (by decide) (fun c13 => ?_) (fun c13 => ?_)
    · rw [if_neg c13] at hf
      refine q_aload_n X dX5_sync_22 rfl (lv_at hl 0 rfl) ?_
      have ho := chk_e hf
      clear hf
      obtain ⟨a17, e18, k19, hf⟩ := ho
      cases e18
      have ho := bnd_e hf
      clear hf
      obtain ⟨v14, w15, q16, hf⟩ := ho
      refine q_cV X M hS hl.1 (ci := 4) (r := (RX4, TX4, 6)) (As := []) (m_X4_keep a8 _ _ q16) mlX5_131 gm_500 gm_501 rfl (by decide) k19 rfl ⟨(Nat.le_of_ble_eq_true rfl), (Nat.le_of_ble_eq_true rfl)⟩ (rest := []) rfl (Nat.le_of_ble_eq_true rfl) (mc := 0) (ms := 0) (MC := 0) (MS := 0) rfl rfl rfl rfl (by omega) (by omega) dX5_sync_23 (st2 := []) rfl (fun H locs M hS => ?_)
      refine q_aload_n X dX5_sync_26 rfl (lv_at hl 0 rfl) ?_
      have ho := gR_e hf
      clear hf
      obtain ⟨a20, v21, e22, k23, q24, hf⟩ := ho
      cases e22
      refine q_get X M flX5_134 k23 (congrArg va_rf q24) dX5_sync_27 ?_
      have ho := gI_e hf
      clear hf
      obtain ⟨a25, v26, e27, k28, q29, hf⟩ := ho
      cases e27
      refine q_get X M flX5_137.g k28 (congrArg Value.int q29) dX5_sync_30 ?_
      refine lv_istore_n (i := 3) (lv' := [(3, .int v26), (2, va_rf (some a8)), (0, va_rf (some o)), (1, .int x1)]) X.1 X.2.1 dX5_sync_33 rfl hl (by decide) rfl (fun ls hl => ?_)
      refine lv_iconst (v := 0) X.1 X.2.1 dX5_sync_34 (by decide) ?_
      refine lv_istore (i := 4) (lv' := [(4, .int 0), (3, .int v26), (2, va_rf (some a8)), (0, va_rf (some o)), (1, .int x1)]) X.1 X.2.1 dX5_sync_35 hl (by decide) rfl (fun ls hl => ?_)
      exact (b_X5_sync_37 X (b_X5_sync_62 X) FU) o (some a8) v26 0 w15 _ _ _ _ _ hf M hS (by omega) (by omega) (lv_sub hl [3, 2, 1, 0] rfl)
    · rw [if_pos c13] at hf
      refine lv_bipush (v := (-3)) X.1 X.2.1 dX5_sync_19 (by decide) ?_
      obtain rfl := Option.some.inj hf
      exact q_iret X M hS (by omega) (by omega) dX5_sync_21
  · rw [if_pos c7] at hf
    refine lv_iconst (v := (-1)) X.1 X.2.1 dX5_sync_10 (by decide) ?_
    obtain rfl := Option.some.inj hf
    exact q_iret X M hS (by omega) (by omega) dX5_sync_11
theorem m_X5_sync {l : Launch} {D : va_G} {aC : Nat → ClassId} {b0 : Nat} {w : Wd} (o : Nat) (x1 : Int32) (v : Int32) (w' : Wd) (hf : f_X5_sync o x1 w = some (v, w')) : Ct l D aC b0 yX5_sync (Cond.code yX5_sync cX5_sync 5 (some .int) :: Gw) rX5_sync [va_rf (some o), .int x1] w (some (.int v)) w' :=
  q_met (by decide) (Nat.le_of_ble_eq_true rfl) (fun p e s m below meth c X M ls hl => e_X5_sync X (res := (v, w')) o x1 w s.heap [] 0 0 ls hf M va_S.rf (by decide) (by decide) hl)
abbrev rX5_crash : Room := { frames := 3, cells := 0, slots := 0, locals := 68 }
def f_X5_crash (o : Nat) (x1 : Int32) (w : Wd) : Option (Int32 × Wd) := chk w (some o) 6 (fun a4 => bnd (f_X5_serverAt a4 x1 w) (fun v1 w2 => if v1 = none then (some ((-1), w2)) else (gI w2 v1 5 4 (fun v9 => if v9 = 0 then (some ((-3), w2)) else (gR w2 v1 5 1 (fun v15 => gI w2 v15 4 1 (fun v20 => gI w2 (some o) 6 6 (fun v25 => pI w2 (some o) 6 6 (v25 + v20) (fun w30 => gR w30 v1 5 1 (fun v35 => chk w30 v35 4 (fun a42 => bnd (f_X3_clear a42 w30) (fun v39 w40 => pZ w40 v1 5 4 0 (fun w46 => chk w46 v1 5 (fun a54 => bnd (f_X4_restore a54 w46) (fun v51 w52 => some (v20, w52))))))))))))))))
set_option maxHeartbeats 4000000 in
set_option maxRecDepth 100000 in
theorem e_X5_crash {l : Launch} {D : va_G} {aC : Nat → ClassId} {b0 : Nat} {p : Program} {e : Env} {s : State} {m : MethodId} {args : Array Value} {below : List Frame} {meth : Method} {c : Code} (X : Cx D aC p s m args meth c cX5_crash RX5 4 "crash" (some .int)) {res : (Int32 × Wd)} (o : Nat) (x1 : Int32) (w : Wd) : BW l D aC b0 p e rX5_crash s m args below meth c (Qe D aC b0 below args s 0 0 (some (.int res.1)) res.2) res 0 0 0 0 (f_X5_crash o x1 w) w 0 4 [(0, va_rf (some o)), (1, .int x1)] [] := by
  intro H locs cells slots ls hf M hS hc hs hl
  unfold f_X5_crash at hf
  refine q_aload_n X dX5_crash_0 rfl (lv_at hl 0 rfl) ?_
  refine lv_iload_n X.1 X.2.1 dX5_crash_1 rfl (lv_at hl 1 rfl) ?_
  have ho := chk_e hf
  clear hf
  obtain ⟨a4, e5, k6, hf⟩ := ho
  cases e5
  have ho := bnd_e hf
  clear hf
  obtain ⟨v1, w2, q3, hf⟩ := ho
  refine q_cV X M hS hl.1 (ci := 5) (r := (RX5, TX5, 9)) (As := [.int x1]) (m_X5_serverAt o x1 _ _ q3) mlX5_85 gm_294 gm_295 rfl (by decide) k6 rfl ⟨(Nat.le_of_ble_eq_true rfl), (Nat.le_of_ble_eq_true rfl)⟩ (rest := []) rfl (Nat.le_of_ble_eq_true rfl) (mc := 0) (ms := 0) (MC := 0) (MS := 0) rfl rfl rfl rfl (by omega) (by omega) dX5_crash_2 (st2 := [va_rf v1]) rfl (fun H locs M hS => ?_)
  refine q_astore_n (i := 2) (lv' := [(2, va_rf v1), (0, va_rf (some o)), (1, .int x1)]) X dX5_crash_5 rfl hl (by decide) rfl (fun ls hl => ?_)
  refine q_aload_n X dX5_crash_6 rfl (lv_at hl 0 rfl) ?_
  refine q_ifnonnull (tgt := 12) X dX5_crash_7 (by decide) (fun c7 => ?_) (fun c7 => ?_)
  · rw [if_neg c7] at hf
    refine q_aload_n X dX5_crash_12 rfl (lv_at hl 0 rfl) ?_
    have ho := gI_e hf
    clear hf
    obtain ⟨a8, v9, e10, k11, q12, hf⟩ := ho
    cases e10
    refine q_get X M flX5_116.g k11 (congrArg Value.int q12) dX5_crash_13 ?_
    refine lv_if_ne (tgt := 22) X.1 X.2.1 dX5_crash_16 (by decide) (fun c13 => ?_) (fun c13 => ?_)
    · rw [if_neg c13] at hf
      refine q_aload_n X dX5_crash_22 rfl (lv_at hl 0 rfl) ?_
      have ho := gR_e hf
      clear hf
      obtain ⟨a14, v15, e16, k17, q18, hf⟩ := ho
      cases e16
      refine q_get X M flX5_134 k17 (congrArg va_rf q18) dX5_crash_23 ?_
      have ho := gI_e hf
      clear hf
      obtain ⟨a19, v20, e21, k22, q23, hf⟩ := ho
      cases e21
      refine q_get X M flX5_137.g k22 (congrArg Value.int q23) dX5_crash_26 ?_
      refine lv_istore_n (i := 3) (lv' := [(3, .int v20), (2, va_rf (some a8)), (0, va_rf (some o)), (1, .int x1)]) X.1 X.2.1 dX5_crash_29 rfl hl (by decide) rfl (fun ls hl => ?_)
      refine q_aload_n X dX5_crash_30 rfl (lv_at hl 2 rfl) ?_
      refine lv_dup X.1 X.2.1 dX5_crash_31 rfl ?_
      have ho := gI_e hf
      clear hf
      obtain ⟨a24, v25, e26, k27, q28, hf⟩ := ho
      cases e26
      refine q_get X M flX5_120.g k27 (congrArg Value.int q28) dX5_crash_32 ?_
      refine lv_iload_n X.1 X.2.1 dX5_crash_35 rfl (lv_at hl 0 rfl) ?_
      refine lv_iadd X.1 X.2.1 dX5_crash_36 ?_
      have ho := pI_e hf
      clear hf
      obtain ⟨a29, w30, e31, k32, q33, hf⟩ := ho
      cases e31
      refine q_putI X M hS flX5_120 (Or.inl rfl) k32 dX5_crash_37 (fun H locs M hS => ?_)
      rw [q33] at M
      refine q_aload_n X dX5_crash_40 rfl (lv_at hl 1 rfl) ?_
      have ho := gR_e hf
      clear hf
      obtain ⟨a34, v35, e36, k37, q38, hf⟩ := ho
      cases e36
      refine q_get X M flX5_134 k37 (congrArg va_rf q38) dX5_crash_41 ?_
      have ho := chk_e hf
      clear hf
      obtain ⟨a42, e43, k44, hf⟩ := ho
      cases e43
      have ho := bnd_e hf
      clear hf
      obtain ⟨v39, w40, q41, hf⟩ := ho
      refine q_cV X M hS hl.1 (ci := 3) (r := (RX3, TX3, 2)) (As := []) (m_X3_clear a42 _ _ q41) mlX5_140 gm_504 gm_505 rfl (by decide) k44 rfl ⟨(Nat.le_of_ble_eq_true rfl), (Nat.le_of_ble_eq_true rfl)⟩ (rest := []) rfl (Nat.le_of_ble_eq_true rfl) (mc := 0) (ms := 0) (MC := 0) (MS := 0) rfl rfl rfl rfl (by omega) (by omega) dX5_crash_44 (st2 := []) rfl (fun H locs M hS => ?_)
      refine q_aload_n X dX5_crash_47 rfl (lv_at hl 1 rfl) ?_
      refine lv_iconst (v := 0) X.1 X.2.1 dX5_crash_48 (by decide) ?_
      have ho := pZ_e hf
      clear hf
      obtain ⟨a45, w46, e47, k48, z50, q49, hf⟩ := ho
      cases e47
      refine q_putZ X M hS flX5_116 (Or.inl rfl) k48 z50 dX5_crash_49 (fun H locs M hS => ?_)
      rw [q49] at M
      refine q_aload_n X dX5_crash_52 rfl (lv_at hl 1 rfl) ?_
      have ho := chk_e hf
      clear hf
      obtain ⟨a54, e55, k56, hf⟩ := ho
      cases e55
      have ho := bnd_e hf
      clear hf
      obtain ⟨v51, w52, q53, hf⟩ := ho
      refine q_cV X M hS hl.1 (ci := 4) (r := (RX4, TX4, 6)) (As := []) (m_X4_restore a8 _ _ q53) mlX5_143 gm_520 gm_521 rfl (by decide) k56 rfl ⟨(Nat.le_of_ble_eq_true rfl), (Nat.le_of_ble_eq_true rfl)⟩ (rest := []) rfl (Nat.le_of_ble_eq_true rfl) (mc := 0) (ms := 0) (MC := 0) (MS := 0) rfl rfl rfl rfl (by omega) (by omega) dX5_crash_53 (st2 := []) rfl (fun H locs M hS => ?_)
      refine lv_iload_n X.1 X.2.1 dX5_crash_56 rfl (lv_at hl 0 rfl) ?_
      obtain rfl := Option.some.inj hf
      exact q_iret X M hS (by omega) (by omega) dX5_crash_57
    · rw [if_pos c13] at hf
      refine lv_bipush (v := (-3)) X.1 X.2.1 dX5_crash_19 (by decide) ?_
      obtain rfl := Option.some.inj hf
      exact q_iret X M hS (by omega) (by omega) dX5_crash_21
  · rw [if_pos c7] at hf
    refine lv_iconst (v := (-1)) X.1 X.2.1 dX5_crash_10 (by decide) ?_
    obtain rfl := Option.some.inj hf
    exact q_iret X M hS (by omega) (by omega) dX5_crash_11
theorem m_X5_crash {l : Launch} {D : va_G} {aC : Nat → ClassId} {b0 : Nat} {w : Wd} (o : Nat) (x1 : Int32) (v : Int32) (w' : Wd) (hf : f_X5_crash o x1 w = some (v, w')) : Ct l D aC b0 yX5_crash (Cond.code yX5_crash cX5_crash 4 (some .int) :: Gw) rX5_crash [va_rf (some o), .int x1] w (some (.int v)) w' :=
  q_met (by decide) (Nat.le_of_ble_eq_true rfl) (fun p e s m below meth c X M ls hl => e_X5_crash X (res := (v, w')) o x1 w s.heap [] 0 0 ls hf M va_S.rf (by decide) (by decide) hl)
abbrev rX5_start : Room := { frames := 1, cells := 0, slots := 0, locals := 21 }
def f_X5_start (o : Nat) (x1 : Int32) (w : Wd) : Option (Int32 × Wd) := chk w (some o) 6 (fun a4 => bnd (f_X5_serverAt a4 x1 w) (fun v1 w2 => if v1 = none then (some ((-1), w2)) else (gI w2 v1 5 4 (fun v9 => if v9 = 0 then (pZ w2 v1 5 4 1 (fun w15 => some (1, w15))) else (some ((-3), w2))))))
set_option maxHeartbeats 4000000 in
set_option maxRecDepth 100000 in
theorem e_X5_start {l : Launch} {D : va_G} {aC : Nat → ClassId} {b0 : Nat} {p : Program} {e : Env} {s : State} {m : MethodId} {args : Array Value} {below : List Frame} {meth : Method} {c : Code} (X : Cx D aC p s m args meth c cX5_start RX5 3 "start" (some .int)) {res : (Int32 × Wd)} (o : Nat) (x1 : Int32) (w : Wd) : BW l D aC b0 p e rX5_start s m args below meth c (Qe D aC b0 below args s 0 0 (some (.int res.1)) res.2) res 0 0 0 0 (f_X5_start o x1 w) w 0 3 [(0, va_rf (some o)), (1, .int x1)] [] := by
  intro H locs cells slots ls hf M hS hc hs hl
  unfold f_X5_start at hf
  refine q_aload_n X dX5_start_0 rfl (lv_at hl 0 rfl) ?_
  refine lv_iload_n X.1 X.2.1 dX5_start_1 rfl (lv_at hl 1 rfl) ?_
  have ho := chk_e hf
  clear hf
  obtain ⟨a4, e5, k6, hf⟩ := ho
  cases e5
  have ho := bnd_e hf
  clear hf
  obtain ⟨v1, w2, q3, hf⟩ := ho
  refine q_cV X M hS hl.1 (ci := 5) (r := (RX5, TX5, 9)) (As := [.int x1]) (m_X5_serverAt o x1 _ _ q3) mlX5_85 gm_294 gm_295 rfl (by decide) k6 rfl ⟨(Nat.le_of_ble_eq_true rfl), (Nat.le_of_ble_eq_true rfl)⟩ (rest := []) rfl (Nat.le_of_ble_eq_true rfl) (mc := 0) (ms := 0) (MC := 0) (MS := 0) rfl rfl rfl rfl (by omega) (by omega) dX5_start_2 (st2 := [va_rf v1]) rfl (fun H locs M hS => ?_)
  refine q_astore_n (i := 2) (lv' := [(2, va_rf v1), (0, va_rf (some o)), (1, .int x1)]) X dX5_start_5 rfl hl (by decide) rfl (fun ls hl => ?_)
  refine q_aload_n X dX5_start_6 rfl (lv_at hl 0 rfl) ?_
  refine q_ifnonnull (tgt := 12) X dX5_start_7 (by decide) (fun c7 => ?_) (fun c7 => ?_)
  · rw [if_neg c7] at hf
    refine q_aload_n X dX5_start_12 rfl (lv_at hl 0 rfl) ?_
    have ho := gI_e hf
    clear hf
    obtain ⟨a8, v9, e10, k11, q12, hf⟩ := ho
    cases e10
    refine q_get X M flX5_116.g k11 (congrArg Value.int q12) dX5_start_13 ?_
    refine lv_if_eq (tgt := 22) X.1 X.2.1 dX5_start_16 (by decide) (fun c13 => ?_) (fun c13 => ?_)
    · rw [if_pos c13] at hf
      refine q_aload_n X dX5_start_22 rfl (lv_at hl 0 rfl) ?_
      refine lv_iconst (v := 1) X.1 X.2.1 dX5_start_23 (by decide) ?_
      have ho := pZ_e hf
      clear hf
      obtain ⟨a14, w15, e16, k17, z19, q18, hf⟩ := ho
      cases e16
      refine q_putZ X M hS flX5_116 (Or.inl rfl) k17 z19 dX5_start_24 (fun H locs M hS => ?_)
      rw [q18] at M
      refine lv_iconst (v := 1) X.1 X.2.1 dX5_start_27 (by decide) ?_
      obtain rfl := Option.some.inj hf
      exact q_iret X M hS (by omega) (by omega) dX5_start_28
    · rw [if_neg c13] at hf
      refine lv_bipush (v := (-3)) X.1 X.2.1 dX5_start_19 (by decide) ?_
      obtain rfl := Option.some.inj hf
      exact q_iret X M hS (by omega) (by omega) dX5_start_21
  · rw [if_pos c7] at hf
    refine lv_iconst (v := (-1)) X.1 X.2.1 dX5_start_10 (by decide) ?_
    obtain rfl := Option.some.inj hf
    exact q_iret X M hS (by omega) (by omega) dX5_start_11
theorem m_X5_start {l : Launch} {D : va_G} {aC : Nat → ClassId} {b0 : Nat} {w : Wd} (o : Nat) (x1 : Int32) (v : Int32) (w' : Wd) (hf : f_X5_start o x1 w = some (v, w')) : Ct l D aC b0 yX5_start (Cond.code yX5_start cX5_start 3 (some .int) :: Gw) rX5_start [va_rf (some o), .int x1] w (some (.int v)) w' :=
  q_met (by decide) (Nat.le_of_ble_eq_true rfl) (fun p e s m below meth c X M ls hl => e_X5_start X (res := (v, w')) o x1 w s.heap [] 0 0 ls hf M va_S.rf (by decide) (by decide) hl)
abbrev rX5_move : Room := { frames := 2, cells := 9, slots := 90, locals := 47 }
def f_X5_move_89 (o : Nat) (x1 : Int32) (x2 : Int32) (x3 : Int32) (x4 : Option Nat) (x5 : Option Nat) (w : Wd) : Option (Int32 × Wd) := nwO w 3 (fun w42 => bnd (f_X2_init (wn w) 3 x3 x1 w42) (fun v44 w45 => pI w45 (some (wn w)) 3 7 x2 (fun w48 => gI w48 x5 1 1 (fun v53 => pI w48 (some (wn w)) 3 4 (v53 + 1) (fun w58 => nwO w58 1 (fun w62 => bnd (f_X0_init (wn w58) w62) (fun v64 w65 => pR w65 (some (wn w)) 3 14 (some (wn w58)) (fun w68 => gR w68 (some (wn w)) 3 14 (fun v73 => chk w68 v73 1 (fun a80 => bnd (f_X0_copyFrom a80 x5 w68) (fun v77 w78 => chk w78 (some o) 6 (fun a86 => bnd (f_X5_sendFrom a86 x4 (some (wn w)) w78) (fun v83 w84 => gI w84 (some (wn w)) 3 4 (fun v90 => some (v90, w84)))))))))))))))
set_option maxHeartbeats 4000000 in
set_option maxRecDepth 100000 in
theorem b_X5_move_89 {l : Launch} {D : va_G} {aC : Nat → ClassId} {b0 : Nat} {p : Program} {e : Env} {s : State} {m : MethodId} {args : Array Value} {below : List Frame} {meth : Method} {c : Code} (X : Cx D aC p s m args meth c cX5_move RX5 7 "move" (some .int)) {res : (Int32 × Wd)} : ∀ (o : Nat) (x1 : Int32) (x2 : Int32) (x3 : Int32) (x4 : Option Nat) (x5 : Option Nat) (w : Wd), BW l D aC b0 p e rX5_move s m args below meth c (Qe D aC b0 below args s 9 90 (some (.int res.1)) res.2) res 9 90 9 90 (f_X5_move_89 o x1 x2 x3 x4 x5 w) w 89 7 [(0, va_rf (some o)), (1, .int x1), (2, .int x2), (3, .int x3), (4, va_rf x4), (5, va_rf x5)] [] := by
  intro o x1 x2 x3 x4 x5 w H locs cells slots ls hf M hS hc hs hl
  unfold f_X5_move_89 at hf
  have ho := nwO_e hf
  clear hf
  obtain ⟨w42, q43, hf⟩ := ho
  refine q_new X M hS clX5_89 (MC := 9) (MS := 90) rfl rfl (by omega) (by omega) dX5_move_89 (fun H M hS => ?_)
  rw [q43] at M
  refine lv_dup X.1 X.2.1 dX5_move_92 rfl ?_
  refine lv_iconst (v := 3) X.1 X.2.1 dX5_move_93 (by decide) ?_
  refine lv_iload_n X.1 X.2.1 dX5_move_94 rfl (lv_at hl 3 rfl) ?_
  refine lv_iload_n X.1 X.2.1 dX5_move_95 rfl (lv_at hl 1 rfl) ?_
  have ho := bnd_e hf
  clear hf
  obtain ⟨v44, w45, q46, hf⟩ := ho
  refine q_cI X M hS hl.1 (As := [.int 3, .int x3, .int x1]) (m_X2_init (wn w) 3 x3 x1 _ _ q46) mlX5_91 gm_225 rfl rfl ⟨(Nat.le_of_ble_eq_true rfl), (Nat.le_of_ble_eq_true rfl)⟩ (rest := [va_rf (some (wn w))]) rfl (Nat.le_of_ble_eq_true rfl) (mc := 0) (ms := 0) (MC := 9) (MS := 90) rfl rfl rfl rfl (by omega) (by omega) dX5_move_96 (fun H locs M hS => ?_)
  refine q_astore (i := 6) (lv' := [(6, va_rf (some (wn w))), (0, va_rf (some o)), (1, .int x1), (2, .int x2), (3, .int x3), (4, va_rf x4), (5, va_rf x5)]) X dX5_move_99 hl (by decide) (by simp [cat1, cati, catl]) (fun ls hl => ?_)
  refine q_aload X dX5_move_101 (lv_at hl 0 rfl) ?_
  refine lv_iload_n X.1 X.2.1 dX5_move_103 rfl (lv_at hl 3 rfl) ?_
  have ho := pI_e hf
  clear hf
  obtain ⟨a47, w48, e49, k50, q51, hf⟩ := ho
  cases e49
  refine q_putI X M hS flX5_164 (Or.inl rfl) k50 dX5_move_104 (fun H locs M hS => ?_)
  rw [q51] at M
  refine q_aload X dX5_move_107 (lv_at hl 0 rfl) ?_
  refine q_aload X dX5_move_109 (lv_at hl 6 rfl) ?_
  have ho := gI_e hf
  clear hf
  obtain ⟨a52, v53, e54, k55, q56, hf⟩ := ho
  cases e54
  refine q_get X M flX5_167.g k55 (congrArg Value.int q56) dX5_move_111 ?_
  refine lv_iconst (v := 1) X.1 X.2.1 dX5_move_114 (by decide) ?_
  refine lv_iadd X.1 X.2.1 dX5_move_115 ?_
  have ho := pI_e hf
  clear hf
  obtain ⟨a57, w58, e59, k60, q61, hf⟩ := ho
  cases e59
  refine q_putI X M hS flX5_170 (Or.inl rfl) k60 dX5_move_116 (fun H locs M hS => ?_)
  rw [q61] at M
  refine q_aload X dX5_move_119 (lv_at hl 0 rfl) ?_
  have ho := nwO_e hf
  clear hf
  obtain ⟨w62, q63, hf⟩ := ho
  refine q_new X M hS clX5_151 (MC := 9) (MS := 90) rfl rfl (by omega) (by omega) dX5_move_121 (fun H M hS => ?_)
  rw [q63] at M
  refine lv_dup X.1 X.2.1 dX5_move_124 rfl ?_
  have ho := bnd_e hf
  clear hf
  obtain ⟨v64, w65, q66, hf⟩ := ho
  refine q_cIN X M hS hl.1 (As := []) (m_X0_init (wn w58) _ _ q66) mn_X0_init (X.2.2.2.2.2.2.2.2.2.2.2.1) gm_58 rfl rfl ⟨(Nat.le_of_ble_eq_true rfl), (Nat.le_of_ble_eq_true rfl)⟩ (rest := [va_rf (some (wn w58)), va_rf (some (wn w))]) rfl (Nat.le_of_ble_eq_true rfl) (mc := 7) (ms := 64) (MC := 9) (MS := 90) rfl rfl rfl rfl (by omega) (by omega) dX5_move_125 (fun H locs M hS => ?_)
  have ho := pR_e hf
  clear hf
  obtain ⟨a67, w68, e69, k70, q71, hf⟩ := ho
  cases e69
  refine q_putR X M hS flX5_172 (Or.inl rfl) k70 dX5_move_128 (fun H locs M hS => ?_)
  rw [q71] at M
  refine q_aload X dX5_move_131 (lv_at hl 0 rfl) ?_
  have ho := gR_e hf
  clear hf
  obtain ⟨a72, v73, e74, k75, q76, hf⟩ := ho
  cases e74
  refine q_get X M flX5_172.g k75 (congrArg va_rf q76) dX5_move_133 ?_
  refine q_aload X dX5_move_136 (lv_at hl 6 rfl) ?_
  have ho := chk_e hf
  clear hf
  obtain ⟨a80, e81, k82, hf⟩ := ho
  cases e81
  have ho := bnd_e hf
  clear hf
  obtain ⟨v77, w78, q79, hf⟩ := ho
  refine q_cV X M hS hl.1 (ci := 0) (r := (RX0, TX0, 11)) (As := [va_rf (some a52)]) (m_X0_copyFrom a80 (some a52) _ _ q79) mlX5_176 gm_71 gm_72 rfl (by decide) k82 rfl ⟨(Nat.le_of_ble_eq_true rfl), (Nat.le_of_ble_eq_true rfl)⟩ (rest := []) rfl (Nat.le_of_ble_eq_true rfl) (mc := 0) (ms := 0) (MC := 9) (MS := 90) rfl rfl rfl rfl (by omega) (by omega) dX5_move_138 (st2 := []) rfl (fun H locs M hS => ?_)
  refine q_aload_n X dX5_move_141 rfl (lv_at hl 1 rfl) ?_
  refine q_aload X dX5_move_142 (lv_at hl 5 rfl) ?_
  refine q_aload X dX5_move_144 (lv_at hl 0 rfl) ?_
  have ho := chk_e hf
  clear hf
  obtain ⟨a86, e87, k88, hf⟩ := ho
  cases e87
  have ho := bnd_e hf
  clear hf
  obtain ⟨v83, w84, q85, hf⟩ := ho
  refine q_cV X M hS hl.1 (ci := 5) (r := (RX5, TX5, 9)) (As := [va_rf x4, va_rf (some (wn w))]) (m_X5_sendFrom o x4 (some (wn w)) _ _ q85) mlX5_180 gm_353 gm_354 rfl (by decide) k88 rfl ⟨(Nat.le_of_ble_eq_true rfl), (Nat.le_of_ble_eq_true rfl)⟩ (rest := []) rfl (Nat.le_of_ble_eq_true rfl) (mc := 0) (ms := 0) (MC := 9) (MS := 90) rfl rfl rfl rfl (by omega) (by omega) dX5_move_146 (st2 := []) rfl (fun H locs M hS => ?_)
  refine q_aload X dX5_move_149 (lv_at hl 0 rfl) ?_
  have ho := gI_e hf
  clear hf
  obtain ⟨a89, v90, e91, k92, q93, hf⟩ := ho
  cases e91
  refine q_get X M flX5_170.g k92 (congrArg Value.int q93) dX5_move_151 ?_
  obtain rfl := Option.some.inj hf
  exact q_iret X M hS (by omega) (by omega) dX5_move_154
def f_X5_move (o : Nat) (x1 : Int32) (x2 : Int32) (x3 : Int32) (w : Wd) : Option (Int32 × Wd) := chk w (some o) 6 (fun a4 => bnd (f_X5_serverAt a4 x1 w) (fun v1 w2 => if v1 = none then (some ((-1), w2)) else (chk w2 (some o) 6 (fun a11 => bnd (f_X5_serverAt a11 x3 w2) (fun v8 w9 => if v8 = none then (some ((-1), w9)) else (chk w9 v1 5 (fun a18 => bnd (f_X4_bucketAt a18 x2 w9) (fun v15 w16 => if v15 = none then (some ((-1), w16)) else (gI w16 v1 5 4 (fun v23 => if v23 = 0 then (some ((-3), w16)) else (if x3 = x1 then (some ((-3), w16)) else (chk w16 v15 1 (fun a32 => bnd (f_X0_canLeaveFor a32 x3 w16) (fun v29 w30 => if v29 = 0 then (some ((-3), w30)) else (gI w30 v15 1 0 (fun v37 => if v37 = 1 then (pI w30 v15 1 0 2 (fun w95 => pI w95 v15 1 2 x3 (fun w100 => pZ w100 v1 5 5 0 (fun w105 => (f_X5_move_89) o x1 x2 x3 v1 v15 w105)))) else ((f_X5_move_89) o x1 x2 x3 v1 v15 w30)))))))))))))))))
set_option maxHeartbeats 4000000 in
set_option maxRecDepth 100000 in
theorem e_X5_move {l : Launch} {D : va_G} {aC : Nat → ClassId} {b0 : Nat} {p : Program} {e : Env} {s : State} {m : MethodId} {args : Array Value} {below : List Frame} {meth : Method} {c : Code} (X : Cx D aC p s m args meth c cX5_move RX5 7 "move" (some .int)) {res : (Int32 × Wd)} (o : Nat) (x1 : Int32) (x2 : Int32) (x3 : Int32) (w : Wd) : BW l D aC b0 p e rX5_move s m args below meth c (Qe D aC b0 below args s 9 90 (some (.int res.1)) res.2) res 9 90 9 90 (f_X5_move o x1 x2 x3 w) w 0 7 [(0, va_rf (some o)), (1, .int x1), (2, .int x2), (3, .int x3)] [] := by
  intro H locs cells slots ls hf M hS hc hs hl
  unfold f_X5_move at hf
  refine q_aload_n X dX5_move_0 rfl (lv_at hl 0 rfl) ?_
  refine lv_iload_n X.1 X.2.1 dX5_move_1 rfl (lv_at hl 1 rfl) ?_
  have ho := chk_e hf
  clear hf
  obtain ⟨a4, e5, k6, hf⟩ := ho
  cases e5
  have ho := bnd_e hf
  clear hf
  obtain ⟨v1, w2, q3, hf⟩ := ho
  refine q_cV X M hS hl.1 (ci := 5) (r := (RX5, TX5, 9)) (As := [.int x1]) (m_X5_serverAt o x1 _ _ q3) mlX5_85 gm_294 gm_295 rfl (by decide) k6 rfl ⟨(Nat.le_of_ble_eq_true rfl), (Nat.le_of_ble_eq_true rfl)⟩ (rest := []) rfl (Nat.le_of_ble_eq_true rfl) (mc := 0) (ms := 0) (MC := 9) (MS := 90) rfl rfl rfl rfl (by omega) (by omega) dX5_move_2 (st2 := [va_rf v1]) rfl (fun H locs M hS => ?_)
  refine q_astore (i := 4) (lv' := [(4, va_rf v1), (0, va_rf (some o)), (1, .int x1), (2, .int x2), (3, .int x3)]) X dX5_move_5 hl (by decide) rfl (fun ls hl => ?_)
  refine q_aload X dX5_move_7 (lv_at hl 0 rfl) ?_
  refine q_ifnull (tgt := 20) X dX5_move_9 (by decide) (fun c7 => ?_) (fun c7 => ?_)
  · rw [if_pos c7] at hf
    refine lv_iconst (v := (-1)) X.1 X.2.1 dX5_move_20 (by decide) ?_
    obtain rfl := Option.some.inj hf
    exact q_iret X M hS (by omega) (by omega) dX5_move_21
  · rw [if_neg c7] at hf
    refine q_aload_n X dX5_move_12 rfl (lv_at hl 1 rfl) ?_
    refine lv_iload_n X.1 X.2.1 dX5_move_13 rfl (lv_at hl 4 rfl) ?_
    have ho := chk_e hf
    clear hf
    obtain ⟨a11, e12, k13, hf⟩ := ho
    cases e12
    have ho := bnd_e hf
    clear hf
    obtain ⟨v8, w9, q10, hf⟩ := ho
    refine q_cV X M hS hl.1 (ci := 5) (r := (RX5, TX5, 9)) (As := [.int x3]) (m_X5_serverAt o x3 _ _ q10) mlX5_85 gm_294 gm_295 rfl (by decide) k13 rfl ⟨(Nat.le_of_ble_eq_true rfl), (Nat.le_of_ble_eq_true rfl)⟩ (rest := []) rfl (Nat.le_of_ble_eq_true rfl) (mc := 0) (ms := 0) (MC := 9) (MS := 90) rfl rfl rfl rfl (by omega) (by omega) dX5_move_14 (st2 := [va_rf v8]) rfl (fun H locs M hS => ?_)
    refine q_ifnonnull (tgt := 22) X dX5_move_17 (by decide) (fun c14 => ?_) (fun c14 => ?_)
    · rw [if_neg c14] at hf
      refine q_aload X dX5_move_22 (lv_at hl 0 rfl) ?_
      refine lv_iload_n X.1 X.2.1 dX5_move_24 rfl (lv_at hl 3 rfl) ?_
      have ho := chk_e hf
      clear hf
      obtain ⟨a18, e19, k20, hf⟩ := ho
      cases e19
      have ho := bnd_e hf
      clear hf
      obtain ⟨v15, w16, q17, hf⟩ := ho
      refine q_cV X M hS hl.1 (ci := 4) (r := (RX4, TX4, 6)) (As := [.int x2]) (m_X4_bucketAt a18 x2 _ _ q17) mlX5_146 gm_344 gm_345 rfl (by decide) k20 rfl ⟨(Nat.le_of_ble_eq_true rfl), (Nat.le_of_ble_eq_true rfl)⟩ (rest := []) rfl (Nat.le_of_ble_eq_true rfl) (mc := 0) (ms := 0) (MC := 9) (MS := 90) rfl rfl rfl rfl (by omega) (by omega) dX5_move_25 (st2 := [va_rf v15]) rfl (fun H locs M hS => ?_)
      refine q_astore (i := 5) (lv' := [(5, va_rf v15), (4, va_rf (some a18)), (0, va_rf (some o)), (1, .int x1), (2, .int x2), (3, .int x3)]) X dX5_move_28 hl (by decide) rfl (fun ls hl => ?_)
      refine q_aload X dX5_move_30 (lv_at hl 0 rfl) ?_
      refine q_ifnonnull (tgt := 37) X dX5_move_32 (by decide) (fun c21 => ?_) (fun c21 => ?_)
      · rw [if_neg c21] at hf
        refine q_aload X dX5_move_37 (lv_at hl 1 rfl) ?_
        have ho := gI_e hf
        clear hf
        obtain ⟨a22, v23, e24, k25, q26, hf⟩ := ho
        cases e24
        refine q_get X M flX5_116.g k25 (congrArg Value.int q26) dX5_move_39 ?_
        refine lv_if_eq (tgt := 59) X.1 X.2.1 dX5_move_42 (by decide) (fun c27 => ?_) (fun c27 => ?_)
        · rw [if_pos c27] at hf
          refine lv_bipush (v := (-3)) X.1 X.2.1 dX5_move_59 (by decide) ?_
          obtain rfl := Option.some.inj hf
          exact q_iret X M hS (by omega) (by omega) dX5_move_61
        · rw [if_neg c27] at hf
          refine lv_iload_n X.1 X.2.1 dX5_move_45 rfl (lv_at hl 5 rfl) ?_
          refine lv_iload_n X.1 X.2.1 dX5_move_46 rfl (lv_at hl 3 rfl) ?_
          refine lv_icmp_eq (tgt := 59) X.1 X.2.1 dX5_move_47 (by decide) (fun c28 => ?_) (fun c28 => ?_)
          · rw [if_pos c28] at hf
            refine lv_bipush (v := (-3)) X.1 X.2.1 dX5_move_59 (by decide) ?_
            obtain rfl := Option.some.inj hf
            exact q_iret X M hS (by omega) (by omega) dX5_move_61
          · rw [if_neg c28] at hf
            refine q_aload X dX5_move_50 (lv_at hl 0 rfl) ?_
            refine lv_iload_n X.1 X.2.1 dX5_move_52 rfl (lv_at hl 5 rfl) ?_
            have ho := chk_e hf
            clear hf
            obtain ⟨a32, e33, k34, hf⟩ := ho
            cases e33
            have ho := bnd_e hf
            clear hf
            obtain ⟨v29, w30, q31, hf⟩ := ho
            refine q_cV X M hS hl.1 (ci := 0) (r := (RX0, TX0, 11)) (As := [.int x3]) (m_X0_canLeaveFor a32 x3 _ _ q31) mlX5_150 gm_541 gm_542 rfl (by decide) k34 rfl ⟨(Nat.le_of_ble_eq_true rfl), (Nat.le_of_ble_eq_true rfl)⟩ (rest := []) rfl (Nat.le_of_ble_eq_true rfl) (mc := 0) (ms := 0) (MC := 9) (MS := 90) rfl rfl rfl rfl (by omega) (by omega) dX5_move_53 (st2 := [.int v29]) rfl (fun H locs M hS => ?_)
            refine lv_if_ne (tgt := 62) X.1 X.2.1 dX5_move_56 (by decide) (fun c35 => ?_) (fun c35 => ?_)
            · rw [if_neg c35] at hf
              refine q_aload X dX5_move_62 (lv_at hl 0 rfl) ?_
              have ho := gI_e hf
              clear hf
              obtain ⟨a36, v37, e38, k39, q40, hf⟩ := ho
              cases e38
              refine q_get X M flX5_155.g k39 (congrArg Value.int q40) dX5_move_64 ?_
              refine lv_iconst (v := 1) X.1 X.2.1 dX5_move_67 (by decide) ?_
              refine lv_icmp_ne (tgt := 89) X.1 X.2.1 dX5_move_68 (by decide) (fun c41 => ?_) (fun c41 => ?_)
              · rw [if_neg c41] at hf
                exact (b_X5_move_89 X) o x1 x2 x3 (some a18) (some a32) w30 _ _ _ _ _ hf M hS (by omega) (by omega) (lv_sub hl [2, 3, 4, 5, 1, 0] rfl)
              · rw [if_pos c41] at hf
                refine q_aload X dX5_move_71 (lv_at hl 0 rfl) ?_
                refine lv_iconst (v := 2) X.1 X.2.1 dX5_move_73 (by decide) ?_
                have ho := pI_e hf
                clear hf
                obtain ⟨a94, w95, e96, k97, q98, hf⟩ := ho
                cases e96
                refine q_putI X M hS flX5_155 (Or.inl rfl) k97 dX5_move_74 (fun H locs M hS => ?_)
                rw [q98] at M
                refine q_aload X dX5_move_77 (lv_at hl 0 rfl) ?_
                refine lv_iload_n X.1 X.2.1 dX5_move_79 rfl (lv_at hl 5 rfl) ?_
                have ho := pI_e hf
                clear hf
                obtain ⟨a99, w100, e101, k102, q103, hf⟩ := ho
                cases e101
                refine q_putI X M hS flX5_158 (Or.inl rfl) k102 dX5_move_80 (fun H locs M hS => ?_)
                rw [q103] at M
                refine q_aload X dX5_move_83 (lv_at hl 1 rfl) ?_
                refine lv_iconst (v := 0) X.1 X.2.1 dX5_move_85 (by decide) ?_
                have ho := pZ_e hf
                clear hf
                obtain ⟨a104, w105, e106, k107, z109, q108, hf⟩ := ho
                cases e106
                refine q_putZ X M hS flX5_161 (Or.inl rfl) k107 z109 dX5_move_86 (fun H locs M hS => ?_)
                rw [q108] at M
                exact (b_X5_move_89 X) o x1 x2 x3 (some a18) (some a32) w105 _ _ _ _ _ hf M hS (by omega) (by omega) (lv_sub hl [2, 3, 4, 5, 1, 0] rfl)
            · rw [if_pos c35] at hf
              refine lv_bipush (v := (-3)) X.1 X.2.1 dX5_move_59 (by decide) ?_
              obtain rfl := Option.some.inj hf
              exact q_iret X M hS (by omega) (by omega) dX5_move_61
      · rw [if_pos c21] at hf
        refine lv_iconst (v := (-1)) X.1 X.2.1 dX5_move_35 (by decide) ?_
        obtain rfl := Option.some.inj hf
        exact q_iret X M hS (by omega) (by omega) dX5_move_36
    · rw [if_pos c14] at hf
      refine lv_iconst (v := (-1)) X.1 X.2.1 dX5_move_20 (by decide) ?_
      obtain rfl := Option.some.inj hf
      exact q_iret X M hS (by omega) (by omega) dX5_move_21
theorem m_X5_move {l : Launch} {D : va_G} {aC : Nat → ClassId} {b0 : Nat} {w : Wd} (o : Nat) (x1 : Int32) (x2 : Int32) (x3 : Int32) (v : Int32) (w' : Wd) (hf : f_X5_move o x1 x2 x3 w = some (v, w')) : Ct l D aC b0 yX5_move (Cond.code yX5_move cX5_move 7 (some .int) :: Gw) rX5_move [va_rf (some o), .int x1, .int x2, .int x3] w (some (.int v)) w' :=
  q_met (by decide) (Nat.le_of_ble_eq_true rfl) (fun p e s m below meth c X M ls hl => e_X5_move X (res := (v, w')) o x1 x2 x3 w s.heap [] 0 0 ls hf M va_S.rf (by decide) (by decide) hl)
abbrev rX5_removeDeadRecords : Room := { frames := 2, cells := 0, slots := 0, locals := 44 }
def f_X5_removeDeadRecords_37 (K9 : Nat → Option Nat → Int32 → Int32 → Wd → Option (Int32 × Wd)) (o : Nat) (x1 : Option Nat) (x2 : Int32) (x3 : Int32) (w : Wd) : Option (Int32 × Wd) := K9 o x1 x2 (x3 + (-1)) w
set_option maxHeartbeats 4000000 in
set_option maxRecDepth 100000 in
theorem b_X5_removeDeadRecords_37 {l : Launch} {D : va_G} {aC : Nat → ClassId} {b0 : Nat} {p : Program} {e : Env} {s : State} {m : MethodId} {args : Array Value} {below : List Frame} {meth : Method} {c : Code} (X : Cx D aC p s m args meth c cX5_removeDeadRecords RX5 4 "removeDeadRecords" (some .int)) {res : (Int32 × Wd)} {K9 : Nat → Option Nat → Int32 → Int32 → Wd → Option (Int32 × Wd)} (hK9 : ∀ (o : Nat) (x1 : Option Nat) (x2 : Int32) (x3 : Int32) (w : Wd), BW l D aC b0 p e rX5_removeDeadRecords s m args below meth c (Qe D aC b0 below args s 0 0 (some (.int res.1)) res.2) res 0 0 0 0 (K9 o x1 x2 x3 w) w 9 4 [(0, va_rf (some o)), (1, va_rf x1), (2, .int x2), (3, .int x3)] []) : ∀ (o : Nat) (x1 : Option Nat) (x2 : Int32) (x3 : Int32) (w : Wd), BW l D aC b0 p e rX5_removeDeadRecords s m args below meth c (Qe D aC b0 below args s 0 0 (some (.int res.1)) res.2) res 0 0 0 0 (f_X5_removeDeadRecords_37 K9 o x1 x2 x3 w) w 37 4 [(0, va_rf (some o)), (1, va_rf x1), (2, .int x2), (3, .int x3)] [] := by
  intro o x1 x2 x3 w H locs cells slots ls hf M hS hc hs hl
  unfold f_X5_removeDeadRecords_37 at hf
  refine lv_iinc (v := (x3 + (-1))) (lv' := [(3, .int (x3 + (-1))), (0, va_rf (some o)), (1, va_rf x1), (2, .int x2)]) X.1 X.2.1 dX5_removeDeadRecords_37 hl (k := 3) rfl rfl (by decide) rfl (fun ls hl => ?_)
  refine lv_goto (tgt := 9) X.1 X.2.1 dX5_removeDeadRecords_40 (by decide) ?_
  exact hK9 o x1 x2 (x3 + (-1)) w _ _ _ _ _ hf M hS (by omega) (by omega) (lv_sub hl [1, 2, 3, 0] rfl)
def f_X5_removeDeadRecords_9 : Nat → Nat → Option Nat → Int32 → Int32 → Wd → Option (Int32 × Wd)
  | 0, _, _, _, _, _ => none
  | n + 1, o, x1, x2, x3, w => if x3 < 0 then (gI w x1 1 3 (fun v8 => some ((x2 - v8), w))) else (gR w x1 1 5 (fun v13 => aI w v13 100 x3 (fun v18 => gR w x1 1 6 (fun v24 => aI w v24 100 x3 (fun v29 => chk w (some o) 6 (fun a37 => bnd (f_X5_isLive a37 v18 v29 w) (fun v34 w35 => if v34 = 0 then (chk w35 x1 1 (fun a44 => bnd (f_X0_removeRecord a44 x3 w35) (fun v41 w42 => (f_X5_removeDeadRecords_37 (f_X5_removeDeadRecords_9 n)) o x1 x2 x3 w42))) else ((f_X5_removeDeadRecords_37 (f_X5_removeDeadRecords_9 n)) o x1 x2 x3 w35))))))))
set_option maxHeartbeats 4000000 in
set_option maxRecDepth 100000 in
theorem b_X5_removeDeadRecords_9 {l : Launch} {D : va_G} {aC : Nat → ClassId} {b0 : Nat} {p : Program} {e : Env} {s : State} {m : MethodId} {args : Array Value} {below : List Frame} {meth : Method} {c : Code} (X : Cx D aC p s m args meth c cX5_removeDeadRecords RX5 4 "removeDeadRecords" (some .int)) {res : (Int32 × Wd)} : ∀ (n : Nat) (o : Nat) (x1 : Option Nat) (x2 : Int32) (x3 : Int32) (w : Wd), BW l D aC b0 p e rX5_removeDeadRecords s m args below meth c (Qe D aC b0 below args s 0 0 (some (.int res.1)) res.2) res 0 0 0 0 (f_X5_removeDeadRecords_9 n o x1 x2 x3 w) w 9 4 [(0, va_rf (some o)), (1, va_rf x1), (2, .int x2), (3, .int x3)] [] := by
  intro n
  induction n with
  | zero =>
    intro o x1 x2 x3 w H locs cells slots ls hf
    rw [f_X5_removeDeadRecords_9.eq_1] at hf
    cases hf
  | succ n ih =>
    intro o x1 x2 x3 w H locs cells slots ls hf M hS hc hs hl
    rw [f_X5_removeDeadRecords_9.eq_2] at hf
    refine lv_iload_n X.1 X.2.1 dX5_removeDeadRecords_9 rfl (lv_at hl 3 rfl) ?_
    refine lv_if_lt (tgt := 43) X.1 X.2.1 dX5_removeDeadRecords_10 (by decide) (fun c6 => ?_) (fun c6 => ?_)
    · rw [if_pos c6] at hf
      refine lv_iload_n X.1 X.2.1 dX5_removeDeadRecords_43 rfl (lv_at hl 2 rfl) ?_
      refine q_aload_n X dX5_removeDeadRecords_44 rfl (lv_at hl 1 rfl) ?_
      have ho := gI_e hf
      clear hf
      obtain ⟨a7, v8, e9, k10, q11, hf⟩ := ho
      cases e9
      refine q_get X M flX5_202.g k10 (congrArg Value.int q11) dX5_removeDeadRecords_45 ?_
      refine lv_isub X.1 X.2.1 dX5_removeDeadRecords_48 ?_
      obtain rfl := Option.some.inj hf
      exact q_iret X M hS (by omega) (by omega) dX5_removeDeadRecords_49
    · rw [if_neg c6] at hf
      refine q_aload_n X dX5_removeDeadRecords_13 rfl (lv_at hl 0 rfl) ?_
      refine q_aload_n X dX5_removeDeadRecords_14 rfl (lv_at hl 1 rfl) ?_
      have ho := gR_e hf
      clear hf
      obtain ⟨a12, v13, e14, k15, q16, hf⟩ := ho
      cases e14
      refine q_get X M flX5_216 k15 (congrArg va_rf q16) dX5_removeDeadRecords_15 ?_
      refine lv_iload_n X.1 X.2.1 dX5_removeDeadRecords_18 rfl (lv_at hl 3 rfl) ?_
      have ho := aI_e hf
      clear hf
      obtain ⟨a17, v18, e19, k20, i21, q22, hf⟩ := ho
      cases e19
      refine q_iald X M k20 i21 dX5_removeDeadRecords_19 ?_
      rw [q22]
      refine q_aload_n X dX5_removeDeadRecords_20 rfl (lv_at hl 1 rfl) ?_
      have ho := gR_e hf
      clear hf
      obtain ⟨a23, v24, e25, k26, q27, hf⟩ := ho
      cases e25
      refine q_get X M flX5_219 k26 (congrArg va_rf q27) dX5_removeDeadRecords_21 ?_
      refine lv_iload_n X.1 X.2.1 dX5_removeDeadRecords_24 rfl (lv_at hl 3 rfl) ?_
      have ho := aI_e hf
      clear hf
      obtain ⟨a28, v29, e30, k31, i32, q33, hf⟩ := ho
      cases e30
      refine q_iald X M k31 i32 dX5_removeDeadRecords_25 ?_
      rw [q33]
      have ho := chk_e hf
      clear hf
      obtain ⟨a37, e38, k39, hf⟩ := ho
      cases e38
      have ho := bnd_e hf
      clear hf
      obtain ⟨v34, w35, q36, hf⟩ := ho
      refine q_cV X M hS hl.1 (ci := 5) (r := (RX5, TX5, 9)) (As := [.int v18, .int v29]) (m_X5_isLive o v18 v29 _ _ q36) mlX5_57 gm_178 gm_179 rfl (by decide) k39 rfl ⟨(Nat.le_of_ble_eq_true rfl), (Nat.le_of_ble_eq_true rfl)⟩ (rest := []) rfl (Nat.le_of_ble_eq_true rfl) (mc := 0) (ms := 0) (MC := 0) (MS := 0) rfl rfl rfl rfl (by omega) (by omega) dX5_removeDeadRecords_26 (st2 := [.int v34]) rfl (fun H locs M hS => ?_)
      refine lv_if_ne (tgt := 37) X.1 X.2.1 dX5_removeDeadRecords_29 (by decide) (fun c40 => ?_) (fun c40 => ?_)
      · rw [if_neg c40] at hf
        exact (b_X5_removeDeadRecords_37 X ih) o (some a12) x2 x3 w35 _ _ _ _ _ hf M hS (by omega) (by omega) (lv_sub hl [0, 1, 2, 3] rfl)
      · rw [if_pos c40] at hf
        refine q_aload_n X dX5_removeDeadRecords_32 rfl (lv_at hl 1 rfl) ?_
        refine lv_iload_n X.1 X.2.1 dX5_removeDeadRecords_33 rfl (lv_at hl 3 rfl) ?_
        have ho := chk_e hf
        clear hf
        obtain ⟨a44, e45, k46, hf⟩ := ho
        cases e45
        have ho := bnd_e hf
        clear hf
        obtain ⟨v41, w42, q43, hf⟩ := ho
        refine q_cV X M hS hl.1 (ci := 0) (r := (RX0, TX0, 11)) (As := [.int x3]) (m_X0_removeRecord a12 x3 _ _ q43) mlX5_309 gm_378 gm_379 rfl (by decide) k46 rfl ⟨(Nat.le_of_ble_eq_true rfl), (Nat.le_of_ble_eq_true rfl)⟩ (rest := []) rfl (Nat.le_of_ble_eq_true rfl) (mc := 0) (ms := 0) (MC := 0) (MS := 0) rfl rfl rfl rfl (by omega) (by omega) dX5_removeDeadRecords_34 (st2 := []) rfl (fun H locs M hS => ?_)
        exact (b_X5_removeDeadRecords_37 X ih) o (some a12) x2 x3 w42 _ _ _ _ _ hf M hS (by omega) (by omega) (lv_sub hl [0, 1, 2, 3] rfl)
def f_X5_removeDeadRecords (o : Nat) (x1 : Option Nat) (w : Wd) : Option (Int32 × Wd) := gI w x1 1 3 (fun v2 => (f_X5_removeDeadRecords_9 FU) o x1 v2 (v2 - 1) w)
set_option maxHeartbeats 4000000 in
set_option maxRecDepth 100000 in
theorem e_X5_removeDeadRecords {l : Launch} {D : va_G} {aC : Nat → ClassId} {b0 : Nat} {p : Program} {e : Env} {s : State} {m : MethodId} {args : Array Value} {below : List Frame} {meth : Method} {c : Code} (X : Cx D aC p s m args meth c cX5_removeDeadRecords RX5 4 "removeDeadRecords" (some .int)) {res : (Int32 × Wd)} (o : Nat) (x1 : Option Nat) (w : Wd) : BW l D aC b0 p e rX5_removeDeadRecords s m args below meth c (Qe D aC b0 below args s 0 0 (some (.int res.1)) res.2) res 0 0 0 0 (f_X5_removeDeadRecords o x1 w) w 0 4 [(0, va_rf (some o)), (1, va_rf x1)] [] := by
  intro H locs cells slots ls hf M hS hc hs hl
  unfold f_X5_removeDeadRecords at hf
  refine q_aload_n X dX5_removeDeadRecords_0 rfl (lv_at hl 1 rfl) ?_
  have ho := gI_e hf
  clear hf
  obtain ⟨a1, v2, e3, k4, q5, hf⟩ := ho
  cases e3
  refine q_get X M flX5_202.g k4 (congrArg Value.int q5) dX5_removeDeadRecords_1 ?_
  refine lv_istore_n (i := 2) (lv' := [(2, .int v2), (0, va_rf (some o)), (1, va_rf (some a1))]) X.1 X.2.1 dX5_removeDeadRecords_4 rfl hl (by decide) rfl (fun ls hl => ?_)
  refine lv_iload_n X.1 X.2.1 dX5_removeDeadRecords_5 rfl (lv_at hl 0 rfl) ?_
  refine lv_iconst (v := 1) X.1 X.2.1 dX5_removeDeadRecords_6 (by decide) ?_
  refine lv_isub X.1 X.2.1 dX5_removeDeadRecords_7 ?_
  refine lv_istore_n (i := 3) (lv' := [(3, .int (v2 - 1)), (2, .int v2), (0, va_rf (some o)), (1, va_rf (some a1))]) X.1 X.2.1 dX5_removeDeadRecords_8 rfl hl (by decide) rfl (fun ls hl => ?_)
  exact (b_X5_removeDeadRecords_9 X FU) o (some a1) v2 (v2 - 1) w _ _ _ _ _ hf M hS (by omega) (by omega) (lv_sub hl [2, 3, 1, 0] rfl)
theorem m_X5_removeDeadRecords {l : Launch} {D : va_G} {aC : Nat → ClassId} {b0 : Nat} {w : Wd} (o : Nat) (x1 : Option Nat) (v : Int32) (w' : Wd) (hf : f_X5_removeDeadRecords o x1 w = some (v, w')) : Ct l D aC b0 yX5_removeDeadRecords (Cond.code yX5_removeDeadRecords cX5_removeDeadRecords 4 (some .int) :: Gw) rX5_removeDeadRecords [va_rf (some o), va_rf x1] w (some (.int v)) w' :=
  q_met (by decide) (by simp [lg_sl, cat1, cati, catl]) (fun p e s m below meth c X M ls hl => e_X5_removeDeadRecords X (res := (v, w')) o x1 w s.heap [] 0 0 ls hf M va_S.rf (by decide) (by decide) (by simpa [lv_args, cat1, cati, catl] using hl))
abbrev rX5_collect : Room := { frames := 3, cells := 0, slots := 0, locals := 67 }
def f_X5_collect_65 (K27 : Nat → Option Nat → Int32 → Int32 → Wd → Option (Int32 × Wd)) (o : Nat) (x2 : Option Nat) (x3 : Int32) (x4 : Int32) (w : Wd) : Option (Int32 × Wd) := K27 o x2 x3 (x4 + 1) w
set_option maxHeartbeats 4000000 in
set_option maxRecDepth 100000 in
theorem b_X5_collect_65 {l : Launch} {D : va_G} {aC : Nat → ClassId} {b0 : Nat} {p : Program} {e : Env} {s : State} {m : MethodId} {args : Array Value} {below : List Frame} {meth : Method} {c : Code} (X : Cx D aC p s m args meth c cX5_collect RX5 6 "collect" (some .int)) {res : (Int32 × Wd)} {K27 : Nat → Option Nat → Int32 → Int32 → Wd → Option (Int32 × Wd)} (hK27 : ∀ (o : Nat) (x2 : Option Nat) (x3 : Int32) (x4 : Int32) (w : Wd), BW l D aC b0 p e rX5_collect s m args below meth c (Qe D aC b0 below args s 0 0 (some (.int res.1)) res.2) res 0 0 0 0 (K27 o x2 x3 x4 w) w 27 6 [(0, va_rf (some o)), (2, va_rf x2), (3, .int x3), (4, .int x4)] []) : ∀ (o : Nat) (x2 : Option Nat) (x3 : Int32) (x4 : Int32) (w : Wd), BW l D aC b0 p e rX5_collect s m args below meth c (Qe D aC b0 below args s 0 0 (some (.int res.1)) res.2) res 0 0 0 0 (f_X5_collect_65 K27 o x2 x3 x4 w) w 65 6 [(0, va_rf (some o)), (2, va_rf x2), (3, .int x3), (4, .int x4)] [] := by
  intro o x2 x3 x4 w H locs cells slots ls hf M hS hc hs hl
  unfold f_X5_collect_65 at hf
  refine lv_iinc (v := (x4 + 1)) (lv' := [(4, .int (x4 + 1)), (0, va_rf (some o)), (2, va_rf x2), (3, .int x3)]) X.1 X.2.1 dX5_collect_65 hl (k := 3) rfl rfl (by decide) rfl (fun ls hl => ?_)
  refine lv_goto (tgt := 27) X.1 X.2.1 dX5_collect_68 (by decide) ?_
  exact hK27 o x2 x3 (x4 + 1) w _ _ _ _ _ hf M hS (by omega) (by omega) (lv_sub hl [1, 2, 3, 0] rfl)
def f_X5_collect_27 (K71 : Option Nat → Int32 → Wd → Option (Int32 × Wd)) : Nat → Nat → Option Nat → Int32 → Int32 → Wd → Option (Int32 × Wd)
  | 0, _, _, _, _, _ => none
  | n + 1, o, x2, x3, x4, w => if 8 ≤ x4 then (K71 x2 x3 w) else (chk w x2 5 (fun a18 => bnd (f_X4_bucketAt a18 x4 w) (fun v15 w16 => if v15 = none then ((f_X5_collect_65 (f_X5_collect_27 K71 n)) o x2 x3 x4 w16) else (gI w16 v15 1 0 (fun v23 => if v23 = 1 then (chk w16 (some o) 6 (fun a31 => bnd (f_X5_removeDeadRecords a31 v15 w16) (fun v28 w29 => (f_X5_collect_65 (f_X5_collect_27 K71 n)) o x2 (x3 + v28) x4 w29))) else ((f_X5_collect_65 (f_X5_collect_27 K71 n)) o x2 x3 x4 w16))))))
set_option maxHeartbeats 4000000 in
set_option maxRecDepth 100000 in
theorem b_X5_collect_27 {l : Launch} {D : va_G} {aC : Nat → ClassId} {b0 : Nat} {p : Program} {e : Env} {s : State} {m : MethodId} {args : Array Value} {below : List Frame} {meth : Method} {c : Code} (X : Cx D aC p s m args meth c cX5_collect RX5 6 "collect" (some .int)) {res : (Int32 × Wd)} {K71 : Option Nat → Int32 → Wd → Option (Int32 × Wd)} (hK71 : ∀ (x2 : Option Nat) (x3 : Int32) (w : Wd), BW l D aC b0 p e rX5_collect s m args below meth c (Qe D aC b0 below args s 0 0 (some (.int res.1)) res.2) res 0 0 0 0 (K71 x2 x3 w) w 71 6 [(2, va_rf x2), (3, .int x3)] []) : ∀ (n : Nat) (o : Nat) (x2 : Option Nat) (x3 : Int32) (x4 : Int32) (w : Wd), BW l D aC b0 p e rX5_collect s m args below meth c (Qe D aC b0 below args s 0 0 (some (.int res.1)) res.2) res 0 0 0 0 (f_X5_collect_27 K71 n o x2 x3 x4 w) w 27 6 [(0, va_rf (some o)), (2, va_rf x2), (3, .int x3), (4, .int x4)] [] := by
  intro n
  induction n with
  | zero =>
    intro o x2 x3 x4 w H locs cells slots ls hf
    rw [f_X5_collect_27.eq_1] at hf
    cases hf
  | succ n ih =>
    intro o x2 x3 x4 w H locs cells slots ls hf M hS hc hs hl
    rw [f_X5_collect_27.eq_2] at hf
    refine lv_iload X.1 X.2.1 dX5_collect_27 (lv_at hl 3 rfl) ?_
    refine lv_bipush (v := 8) X.1 X.2.1 dX5_collect_29 (by decide) ?_
    refine lv_icmp_ge (tgt := 71) X.1 X.2.1 dX5_collect_31 (by decide) (fun c14 => ?_) (fun c14 => ?_)
    · rw [if_pos c14] at hf
      exact hK71 x2 x3 w _ _ _ _ _ hf M hS (by omega) (by omega) (lv_sub hl [1, 2] rfl)
    · rw [if_neg c14] at hf
      refine q_aload_n X dX5_collect_34 rfl (lv_at hl 1 rfl) ?_
      refine lv_iload X.1 X.2.1 dX5_collect_35 (lv_at hl 3 rfl) ?_
      have ho := chk_e hf
      clear hf
      obtain ⟨a18, e19, k20, hf⟩ := ho
      cases e19
      have ho := bnd_e hf
      clear hf
      obtain ⟨v15, w16, q17, hf⟩ := ho
      refine q_cV X M hS hl.1 (ci := 4) (r := (RX4, TX4, 6)) (As := [.int x4]) (m_X4_bucketAt a18 x4 _ _ q17) mlX5_146 gm_344 gm_345 rfl (by decide) k20 rfl ⟨(Nat.le_of_ble_eq_true rfl), (Nat.le_of_ble_eq_true rfl)⟩ (rest := []) rfl (Nat.le_of_ble_eq_true rfl) (mc := 0) (ms := 0) (MC := 0) (MS := 0) rfl rfl rfl rfl (by omega) (by omega) dX5_collect_37 (st2 := [va_rf v15]) rfl (fun H locs M hS => ?_)
      refine q_astore (i := 5) (lv' := [(5, va_rf v15), (0, va_rf (some o)), (2, va_rf (some a18)), (3, .int x3), (4, .int x4)]) X dX5_collect_40 hl (by decide) rfl (fun ls hl => ?_)
      refine q_aload X dX5_collect_42 (lv_at hl 0 rfl) ?_
      refine q_ifnull (tgt := 65) X dX5_collect_44 (by decide) (fun c21 => ?_) (fun c21 => ?_)
      · rw [if_pos c21] at hf
        exact (b_X5_collect_65 X ih) o (some a18) x3 x4 w16 _ _ _ _ _ hf M hS (by omega) (by omega) (lv_sub hl [1, 2, 3, 4] rfl)
      · rw [if_neg c21] at hf
        refine q_aload X dX5_collect_47 (lv_at hl 0 rfl) ?_
        have ho := gI_e hf
        clear hf
        obtain ⟨a22, v23, e24, k25, q26, hf⟩ := ho
        cases e24
        refine q_get X M flX5_155.g k25 (congrArg Value.int q26) dX5_collect_49 ?_
        refine lv_iconst (v := 1) X.1 X.2.1 dX5_collect_52 (by decide) ?_
        refine lv_icmp_ne (tgt := 65) X.1 X.2.1 dX5_collect_53 (by decide) (fun c27 => ?_) (fun c27 => ?_)
        · rw [if_neg c27] at hf
          exact (b_X5_collect_65 X ih) o (some a18) x3 x4 w16 _ _ _ _ _ hf M hS (by omega) (by omega) (lv_sub hl [1, 2, 3, 4] rfl)
        · rw [if_pos c27] at hf
          refine lv_iload_n X.1 X.2.1 dX5_collect_56 rfl (lv_at hl 3 rfl) ?_
          refine q_aload_n X dX5_collect_57 rfl (lv_at hl 1 rfl) ?_
          refine q_aload X dX5_collect_58 (lv_at hl 0 rfl) ?_
          have ho := chk_e hf
          clear hf
          obtain ⟨a31, e32, k33, hf⟩ := ho
          cases e32
          have ho := bnd_e hf
          clear hf
          obtain ⟨v28, w29, q30, hf⟩ := ho
          refine q_cV X M hS hl.1 (ci := 5) (r := (RX5, TX5, 9)) (As := [va_rf (some a22)]) (m_X5_removeDeadRecords o (some a22) _ _ q30) mlX5_183 gm_553 gm_554 rfl (by decide) k33 rfl ⟨(Nat.le_of_ble_eq_true rfl), (Nat.le_of_ble_eq_true rfl)⟩ (rest := [.int x3]) rfl (Nat.le_of_ble_eq_true rfl) (mc := 0) (ms := 0) (MC := 0) (MS := 0) rfl rfl rfl rfl (by omega) (by omega) dX5_collect_60 (st2 := [.int v28, .int x3]) rfl (fun H locs M hS => ?_)
          refine lv_iadd X.1 X.2.1 dX5_collect_63 ?_
          refine lv_istore_n (i := 3) (lv' := [(3, .int (x3 + v28)), (5, va_rf (some a22)), (0, va_rf (some o)), (2, va_rf (some a18)), (4, .int x4)]) X.1 X.2.1 dX5_collect_64 rfl hl (by decide) rfl (fun ls hl => ?_)
          exact (b_X5_collect_65 X ih) o (some a18) (x3 + v28) x4 w29 _ _ _ _ _ hf M hS (by omega) (by omega) (lv_sub hl [2, 3, 0, 4] rfl)
def f_X5_collect_71 (x2 : Option Nat) (x3 : Int32) (w : Wd) : Option (Int32 × Wd) := if x3 ≤ 0 then (some (x3, w)) else (pZ w x2 5 5 0 (fun w36 => some (x3, w36)))
set_option maxHeartbeats 4000000 in
set_option maxRecDepth 100000 in
theorem b_X5_collect_71 {l : Launch} {D : va_G} {aC : Nat → ClassId} {b0 : Nat} {p : Program} {e : Env} {s : State} {m : MethodId} {args : Array Value} {below : List Frame} {meth : Method} {c : Code} (X : Cx D aC p s m args meth c cX5_collect RX5 6 "collect" (some .int)) {res : (Int32 × Wd)} : ∀ (x2 : Option Nat) (x3 : Int32) (w : Wd), BW l D aC b0 p e rX5_collect s m args below meth c (Qe D aC b0 below args s 0 0 (some (.int res.1)) res.2) res 0 0 0 0 (f_X5_collect_71 x2 x3 w) w 71 6 [(2, va_rf x2), (3, .int x3)] [] := by
  intro x2 x3 w H locs cells slots ls hf M hS hc hs hl
  unfold f_X5_collect_71 at hf
  refine lv_iload_n X.1 X.2.1 dX5_collect_71 rfl (lv_at hl 1 rfl) ?_
  refine lv_if_le (tgt := 80) X.1 X.2.1 dX5_collect_72 (by decide) (fun c34 => ?_) (fun c34 => ?_)
  · rw [if_pos c34] at hf
    refine lv_iload_n X.1 X.2.1 dX5_collect_80 rfl (lv_at hl 1 rfl) ?_
    obtain rfl := Option.some.inj hf
    exact q_iret X M hS (by omega) (by omega) dX5_collect_81
  · rw [if_neg c34] at hf
    refine q_aload_n X dX5_collect_75 rfl (lv_at hl 0 rfl) ?_
    refine lv_iconst (v := 0) X.1 X.2.1 dX5_collect_76 (by decide) ?_
    have ho := pZ_e hf
    clear hf
    obtain ⟨a35, w36, e37, k38, z40, q39, hf⟩ := ho
    cases e37
    refine q_putZ X M hS flX5_161 (Or.inl rfl) k38 z40 dX5_collect_77 (fun H locs M hS => ?_)
    rw [q39] at M
    refine lv_iload_n X.1 X.2.1 dX5_collect_80 rfl (lv_at hl 1 rfl) ?_
    obtain rfl := Option.some.inj hf
    exact q_iret X M hS (by omega) (by omega) dX5_collect_81
def f_X5_collect (o : Nat) (x1 : Int32) (w : Wd) : Option (Int32 × Wd) := chk w (some o) 6 (fun a4 => bnd (f_X5_serverAt a4 x1 w) (fun v1 w2 => if v1 = none then (some ((-1), w2)) else (gI w2 v1 5 4 (fun v9 => if v9 = 0 then (some ((-3), w2)) else ((f_X5_collect_27 (f_X5_collect_71) FU) o v1 0 0 w2)))))
set_option maxHeartbeats 4000000 in
set_option maxRecDepth 100000 in
theorem e_X5_collect {l : Launch} {D : va_G} {aC : Nat → ClassId} {b0 : Nat} {p : Program} {e : Env} {s : State} {m : MethodId} {args : Array Value} {below : List Frame} {meth : Method} {c : Code} (X : Cx D aC p s m args meth c cX5_collect RX5 6 "collect" (some .int)) {res : (Int32 × Wd)} (o : Nat) (x1 : Int32) (w : Wd) : BW l D aC b0 p e rX5_collect s m args below meth c (Qe D aC b0 below args s 0 0 (some (.int res.1)) res.2) res 0 0 0 0 (f_X5_collect o x1 w) w 0 6 [(0, va_rf (some o)), (1, .int x1)] [] := by
  intro H locs cells slots ls hf M hS hc hs hl
  unfold f_X5_collect at hf
  refine q_aload_n X dX5_collect_0 rfl (lv_at hl 0 rfl) ?_
  refine lv_iload_n X.1 X.2.1 dX5_collect_1 rfl (lv_at hl 1 rfl) ?_
  have ho := chk_e hf
  clear hf
  obtain ⟨a4, e5, k6, hf⟩ := ho
  cases e5
  have ho := bnd_e hf
  clear hf
  obtain ⟨v1, w2, q3, hf⟩ := ho
  refine q_cV X M hS hl.1 (ci := 5) (r := (RX5, TX5, 9)) (As := [.int x1]) (m_X5_serverAt o x1 _ _ q3) mlX5_85 gm_294 gm_295 rfl (by decide) k6 rfl ⟨(Nat.le_of_ble_eq_true rfl), (Nat.le_of_ble_eq_true rfl)⟩ (rest := []) rfl (Nat.le_of_ble_eq_true rfl) (mc := 0) (ms := 0) (MC := 0) (MS := 0) rfl rfl rfl rfl (by omega) (by omega) dX5_collect_2 (st2 := [va_rf v1]) rfl (fun H locs M hS => ?_)
  refine q_astore_n (i := 2) (lv' := [(2, va_rf v1), (0, va_rf (some o)), (1, .int x1)]) X dX5_collect_5 rfl hl (by decide) rfl (fun ls hl => ?_)
  refine q_aload_n X dX5_collect_6 rfl (lv_at hl 0 rfl) ?_
  refine q_ifnonnull (tgt := 12) X dX5_collect_7 (by decide) (fun c7 => ?_) (fun c7 => ?_)
  · rw [if_neg c7] at hf
    refine q_aload_n X dX5_collect_12 rfl (lv_at hl 0 rfl) ?_
    have ho := gI_e hf
    clear hf
    obtain ⟨a8, v9, e10, k11, q12, hf⟩ := ho
    cases e10
    refine q_get X M flX5_116.g k11 (congrArg Value.int q12) dX5_collect_13 ?_
    refine lv_if_ne (tgt := 22) X.1 X.2.1 dX5_collect_16 (by decide) (fun c13 => ?_) (fun c13 => ?_)
    · rw [if_neg c13] at hf
      refine lv_iconst (v := 0) X.1 X.2.1 dX5_collect_22 (by decide) ?_
      refine lv_istore_n (i := 3) (lv' := [(3, .int 0), (2, va_rf (some a8)), (0, va_rf (some o)), (1, .int x1)]) X.1 X.2.1 dX5_collect_23 rfl hl (by decide) rfl (fun ls hl => ?_)
      refine lv_iconst (v := 0) X.1 X.2.1 dX5_collect_24 (by decide) ?_
      refine lv_istore (i := 4) (lv' := [(4, .int 0), (3, .int 0), (2, va_rf (some a8)), (0, va_rf (some o)), (1, .int x1)]) X.1 X.2.1 dX5_collect_25 hl (by decide) rfl (fun ls hl => ?_)
      exact (b_X5_collect_27 X (b_X5_collect_71 X) FU) o (some a8) 0 0 w2 _ _ _ _ _ hf M hS (by omega) (by omega) (lv_sub hl [3, 2, 1, 0] rfl)
    · rw [if_pos c13] at hf
      refine lv_bipush (v := (-3)) X.1 X.2.1 dX5_collect_19 (by decide) ?_
      obtain rfl := Option.some.inj hf
      exact q_iret X M hS (by omega) (by omega) dX5_collect_21
  · rw [if_pos c7] at hf
    refine lv_iconst (v := (-1)) X.1 X.2.1 dX5_collect_10 (by decide) ?_
    obtain rfl := Option.some.inj hf
    exact q_iret X M hS (by omega) (by omega) dX5_collect_11
theorem m_X5_collect {l : Launch} {D : va_G} {aC : Nat → ClassId} {b0 : Nat} {w : Wd} (o : Nat) (x1 : Int32) (v : Int32) (w' : Wd) (hf : f_X5_collect o x1 w = some (v, w')) : Ct l D aC b0 yX5_collect (Cond.code yX5_collect cX5_collect 6 (some .int) :: Gw) rX5_collect [va_rf (some o), .int x1] w (some (.int v)) w' :=
  q_met (by decide) (Nat.le_of_ble_eq_true rfl) (fun p e s m below meth c X M ls hl => e_X5_collect X (res := (v, w')) o x1 w s.heap [] 0 0 ls hf M va_S.rf (by decide) (by decide) hl)
