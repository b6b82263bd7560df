/-! A REQUEST IS TAKEN: the reference -/
section AK
variable {w w' : Wd} {o m S : Nat} {le : Int32} {sc : Nat → Int32} {cl : Nat → ClD} {mem kept : Nat → Nat → BkD} {up cn dy : Nat → Bool} {row : List Ltr} {held : Nat → List Ltr} {fl : List (Nat × Ltr)}
theorem BKM.add {a : Nat} {d : BkD} (h : BKM w m a d) (hl : d.2.2.2.2.1.length < 12) (c i n : Int32) (v : Int64) : BKM (sL (sI (sI (sI (sI w (m + 15) a (nI (d.2.2.2.2.1.length + 1))) (m + 16) (12 * a + d.2.2.2.2.1.length) c) (m + 17) (12 * a + d.2.2.2.2.1.length) i) (m + 18) (12 * a + d.2.2.2.2.1.length) n) (m + 19) (12 * a + d.2.2.2.2.1.length) v) m a (wr d (d.2.2.2.2.1 ++ [(c, i, n, v)])) ∧ BkF m a w (sL (sI (sI (sI (sI w (m + 15) a (nI (d.2.2.2.2.1.length + 1))) (m + 16) (12 * a + d.2.2.2.2.1.length) c) (m + 17) (12 * a + d.2.2.2.2.1.length) i) (m + 18) (12 * a + d.2.2.2.2.1.length) n) (m + 19) (12 * a + d.2.2.2.2.1.length) v) := by
  obtain ⟨s1, s2, s3, s4, s5, s6, s7, s8, s9⟩ := h
  have g1 : BkF m a w (sI w (m + 15) a (nI (d.2.2.2.2.1.length + 1))) := BkF.rf.sI (by omega)
  generalize hW1 : sI w (m + 15) a (nI (d.2.2.2.2.1.length + 1)) = w1 at g1
  have x : Mx m (fun q => m + 16 ≤ q ∧ q ≤ m + 19) w1 (sL (sI (sI (sI w1 (m + 16) (12 * a + d.2.2.2.2.1.length) c) (m + 17) (12 * a + d.2.2.2.2.1.length) i) (m + 18) (12 * a + d.2.2.2.2.1.length) n) (m + 19) (12 * a + d.2.2.2.2.1.length) v) := ((((Mx.rf (fun q hq => by omega)).sI (by omega)).sI (by omega)).sI (by omega)).sL (by omega)
  have go : ∀ p j, 16 ≤ p → p ≤ 19 → j ≠ 12 * a + d.2.2.2.2.1.length → wI (sL (sI (sI (sI w1 (m + 16) (12 * a + d.2.2.2.2.1.length) c) (m + 17) (12 * a + d.2.2.2.2.1.length) i) (m + 18) (12 * a + d.2.2.2.2.1.length) n) (m + 19) (12 * a + d.2.2.2.2.1.length) v) (m + p) j = wI w1 (m + p) j ∧ wL (sL (sI (sI (sI w1 (m + 16) (12 * a + d.2.2.2.2.1.length) c) (m + 17) (12 * a + d.2.2.2.2.1.length) i) (m + 18) (12 * a + d.2.2.2.2.1.length) n) (m + 19) (12 * a + d.2.2.2.2.1.length) v) (m + p) j = wL w1 (m + p) j := by
    intro p j p1 p2 hj
    constructor
    · rw [wI_sL, wI_s, if_neg (fun z => hj z.2), wI_s, if_neg (fun z => hj z.2), wI_s, if_neg (fun z => hj z.2)]
    · rw [wL_s, if_neg (fun z => hj z.2), wL_sI, wL_sI, wL_sI]
  have gn : recM (sL (sI (sI (sI w1 (m + 16) (12 * a + d.2.2.2.2.1.length) c) (m + 17) (12 * a + d.2.2.2.2.1.length) i) (m + 18) (12 * a + d.2.2.2.2.1.length) n) (m + 19) (12 * a + d.2.2.2.2.1.length) v) m a d.2.2.2.2.1.length = (c, i, n, v) := by
    simp [recM, wI_s, wL_s, (wsL _ _ _ _).2.2.2.1, (wsI _ _ _ _).2.2.2.1]
  generalize sL (sI (sI (sI w1 (m + 16) (12 * a + d.2.2.2.2.1.length) c) (m + 17) (12 * a + d.2.2.2.2.1.length) i) (m + 18) (12 * a + d.2.2.2.2.1.length) n) (m + 19) (12 * a + d.2.2.2.2.1.length) v = w2 at x go gn
  have I : ∀ e k, e ≤ 21 → e ≠ 15 → e ≠ 16 → e ≠ 17 → e ≠ 18 → e ≠ 19 → wI w2 (m + e) k = wI w (m + e) k := fun e k _ _ _ _ _ _ => by rw [x.I (by omega), ← hW1, wI_so (by omega)]
  refine ⟨⟨(I 11 _ (by omega) (by omega) (by omega) (by omega) (by omega) (by omega)).trans s1, (I 12 _ (by omega) (by omega) (by omega) (by omega) (by omega) (by omega)).trans s2, (I 13 _ (by omega) (by omega) (by omega) (by omega) (by omega) (by omega)).trans s3, ?_, ?_, fun k hk => ?_, fun k r hk => ?_, fun e he => (I 20 _ (by omega) (by omega) (by omega) (by omega) (by omega) (by omega)).trans (s8 e he), fun e he => (I 21 _ (by omega) (by omega) (by omega) (by omega) (by omega) (by omega)).trans (s9 e he)⟩, g1.l16 x (fun p j p1 p2 hj => go p j p1 p2 (by omega))⟩
  · rw [x.I (by omega), ← hW1, wI_s, if_pos ⟨rfl, rfl⟩]
    show _ = nI (d.2.2.2.2.1 ++ [(c, i, n, v)]).length
    rw [List.length_append]; rfl
  · show (d.2.2.2.2.1 ++ [(c, i, n, v)]).length ≤ 12
    rw [List.length_append]; exact hl
  · rw [x.L (by omega), ← hW1]; exact s6 k hk
  · have hk' : (d.2.2.2.2.1 ++ [(c, i, n, v)])[k]? = some r := hk
    by_cases e : k = d.2.2.2.2.1.length
    · subst e
      rw [List.getElem?_append_right (Nat.le_refl _), Nat.sub_self] at hk'
      cases hk'
      exact gn
    · have hkl : k < d.2.2.2.2.1.length := by
        have := (List.getElem?_eq_some_iff.mp hk').1
        rw [List.length_append] at this
        simp at this; omega
      rw [List.getElem?_append_left hkl] at hk'
      rw [← s7 k r hk']
      unfold recM
      rw [(go 16 _ (by omega) (by omega) (by omega)).1, (go 17 _ (by omega) (by omega) (by omega)).1, (go 18 _ (by omega) (by omega) (by omega)).1, (go 19 _ (by omega) (by omega) (by omega)).2, ← hW1, wI_so (by omega), wI_so (by omega), wI_so (by omega)]
      rfl
theorem m_own (h : RMF w m S le sc cl mem kept up dy row held fl) (h4 : S ≤ 4) (hfl : fl.length ≤ 600) {l s b c k : Nat} {t : Ltr} (hl : (l, t) ∈ fl) (h1 : t.1.1 = 1) (hs : s < S) (hb : b < 8) (hu : up s = true) (hc : t.1.2.2 = nI c) (hk : k < 32) (hkey : t.2.2.1.1 = nI k) (hh : (held s).length < 600) (c1 : (mem s b).2.2.2.2.2.2 c ≤ t.2.1.2.1) : ok ((f_X6_asked_162 f_X6_asked_251 f_X6_asked_230 FU) m (nI l) (nI s) (nI c) (nI (16 * s + b)) (nI 0) w) (fun _ w' => ∀ E, E = askE (mem s b) c t.2.1.1 t.2.1.2.1 t.2.2.1.2.1 t.2.2.1.2.2.1 t.2.2.1.2.2.2 (k / 8) → AnsM w' m S le (effS E.1 sc) cl (up2b mem s b E.2.1) kept up (drt E.1 true dy s) row held fl s (mkAns s c t.2.1.1 t.2.1.2.1 E.2.2.1 E.2.2.2) ∧ Mf m w w') := by
  have hM := h.1.1
  have hat : 16 * s + b < 64 := by omega
  have hB := (h.2.2.2.1 s b hs hb).1 hu
  have ht := h.inh hl
  have hl4 := ht.1.1
  have l12 := hB.2.2.2.2.1
  obtain ⟨t30, t31, t32, t33, t34⟩ := ht.2.1 h1
  refine m_find hat hl4 hM hB ht.1.2.2.2.2.2.1 ht.1.2.2.2.2.2.2 (fun hf => ?_) (fun q r hq hf => ?_) FU 0 (by unfold FU; omega) (by omega) (fun k r hk => by omega)
  · unfold f_X6_asked_251
    refine ok_mR hM 15 <| ok_mA hM rfl hat hB.2.2.2.1 <| ok_if (fun c2 => ?_) (fun c2 => ?_)
    · rw [show (12 : Int32) = nI 12 from rfl, nI_eq (by omega) (by omega)] at c2
      refine ok_chk hM.1 <| ok_call (m_answer h h4 hfl hl hs hc hh 2 0) (fun _ w2 y => ok_ret (fun E hE => ?_))
      unfold askE at hE
      rw [if_pos c1, hf] at hE
      have hE2 : E = (false, mem s b, 2, 0) := by
        rw [hE]
        show (if (mem s b).2.2.2.2.1.length < 12 then _ else _) = _
        rw [if_neg (by omega)]
      subst hE2
      refine ⟨?_, y.2⟩
      show AnsM w2 m S le sc cl (up2b mem s b (mem s b)) kept up dy row held fl s _
      rw [up2b_id rfl]; exact y.1
    · rw [show (12 : Int32) = nI 12 from rfl, nI_eq (by omega) (by omega)] at c2
      have hl12 : (mem s b).2.2.2.2.1.length < 12 := by omega
      refine ok_mR hM 31 <| ok_mA hM rfl hl4 (t31.trans hkey) <| ok_chk hM.1 ?_
      rw [div8 (by omega), i4]
      refine ok_call (m_effect hat (by omega) hl4 hM hB t32 t33 t34) (fun v w1 z => ?_)
      obtain ⟨z1, z2, z3, z4⟩ := z
      obtain ⟨q1, q2⟩ := z4.add hl12 (nI c) t.2.1.1 t.2.1.2.1 v
      have a28 : wI w1 (m + 28) l = t.2.1.1 := by rw [z2.1.I (by omega)]; exact ht.1.2.2.2.2.2.1
      have a29 : wI w1 (m + 29) l = t.2.1.2.1 := by rw [z2.1.I (by omega)]; exact ht.1.2.2.2.2.2.2
      have hix : 12 * (16 * s + b) + (mem s b).2.2.2.2.1.length < 768 := by omega
      refine ok_mR z1 15 <| ok_mA z1 rfl hat z4.2.2.2.1 <| ok_mR z1 15 <| ok_mA z1 rfl hat z4.2.2.2.1 ?_
      rw [nI_1]
      refine ok_mT z1 rfl hat (fun hM2 => ok_mR hM2 16 <| ok_mT hM2 (i12 _ _) hix (fun hM3 => ok_mR hM3 17 <| ok_mR hM3 28 <| ok_mA (v := t.2.1.1) hM3 rfl hl4 (by rw [wI_so (by omega), wI_so (by omega)]; exact a28) <| ok_mT hM3 (i12 _ _) hix (fun hM4 => ok_mR hM4 18 <| ok_mR hM4 29 <| ok_mA (v := t.2.1.2.1) hM4 rfl hl4 (by rw [wI_so (by omega), wI_so (by omega), wI_so (by omega)]; exact a29) <| ok_mT hM4 (i12 _ _) hix (fun hM5 => ok_mR hM5 19 <| ok_mTL hM5 (i12 _ _) hix (fun hM6 => ?_)))))
      obtain ⟨h6, f6⟩ := h.bk hs hb (z2.tr q2) q1
      clear q1 q2 hM2 hM3 hM4 hM5
      generalize sL (sI (sI (sI (sI w1 (m + 15) (16 * s + b) _) (m + 16) _ (nI c)) (m + 17) _ t.2.1.1) (m + 18) _ t.2.1.2.1) (m + 19) _ v = w6 at hM6 h6 f6 ⊢
      obtain ⟨h7, f7⟩ := h6.num (k := 4) (j := 2) (v := sc 2 + 1) (Or.inr (Or.inr (Or.inl ⟨rfl, rfl⟩)))
      refine ok_gI hM6.1 h6.1.2.2.2.2.2.1 <| ok_pI hM6.1 ?_
      have hM7 := h7.1.1
      obtain ⟨h8, f8⟩ := h7.dirty hs
      refine ok_mR hM7 23 <| ok_mTZ hM7 rfl (by show s < 4; omega) (Or.inr rfl) (fun hM8 => ok_chk hM8.1 <| ok_call (m_answer h8 h4 hfl hl hs hc hh 0 v) (fun _ w9 y => ok_ret (fun E hE => ?_)))
      unfold askE at hE
      rw [if_pos c1, hf] at hE
      have hE2 : E = (true, askF (mem s b) c t.2.1.1 t.2.1.2.1 t.2.2.1.2.1 t.2.2.1.2.2.1 t.2.2.1.2.2.2 (k / 8), 0, actR t.2.2.1.2.1 t.2.2.1.2.2.1 ((mem s b).2.2.2.1 (k / 8))) := by
        rw [hE]
        show (if (mem s b).2.2.2.2.1.length < 12 then _ else _) = _
        rw [if_pos hl12]
      rw [z3] at y
      subst hE2
      exact ⟨y.1, ((f6.tr f7).tr f8).tr y.2⟩
  · unfold f_X6_asked_230
    have hql : q < (mem s b).2.2.2.2.1.length := (List.getElem?_eq_some_iff.mp hq).1
    have hr := hB.2.2.2.2.2.2.1 q r hq
    refine ok_mR hM 19 <| ok_mAL hM rfl (by show 12 * (16 * s + b) + q < 768; omega) (v := r.2.2.2) (by rw [← hr]; rfl) <| ok_chk hM.1 <| ok_call (m_answer h h4 hfl hl hs hc hh 0 r.2.2.2) (fun _ w2 y => ok_ret (fun E hE => ?_))
    unfold askE at hE
    rw [if_pos c1, hf] at hE
    subst hE
    refine ⟨?_, y.2⟩
    show AnsM w2 m S le sc cl (up2b mem s b (mem s b)) kept up dy row held fl s _
    rw [up2b_id rfl]; exact y.1
theorem m_asked (h : RMF w m S le sc cl mem kept up dy row held fl) (h4 : S ≤ 4) (hfl : fl.length ≤ 600) {l s c k op : Nat} {t : Ltr} (hl : (l, t) ∈ fl) (h1 : t.1.1 = 1) (hs : s < S) (hto : t.1.2.1 = nI s) (hu : up s = true) (hc6 : c < 6) (hc : t.1.2.2 = nI c) (hk : k < 32) (hkey : t.2.2.1.1 = nI k) (hst : (mem s (k % 8)).1 = 0 ∨ (mem s (k % 8)).1 = 1 ∨ (mem s (k % 8)).1 = 2) (hok : ∀ r, r ∈ (mem s (k % 8)).2.2.2.2.1 → RecOk cl op r) (hh : (held s).length < 600) : ok (f_X6_asked m (nI l) w) (fun _ w' => ∀ A, A = askD (kpP cl (sc 0) (nI c, t.2.1.1, nI 0, 0)) (mem s (k % 8)) c t.2.1.1 t.2.1.2.1 t.2.1.2.2 t.2.2.1.2.1 t.2.2.1.2.2.1 t.2.2.1.2.2.2 (k / 8) → AnsM w' m S le (effS A.2.1 sc) cl (up2b mem s (k % 8) A.2.2.1) kept up (drt (A.1 || A.2.1) true dy s) row held fl s (mkAns s c t.2.1.1 t.2.1.2.1 A.2.2.2.1 A.2.2.2.2) ∧ Mf m w w') := by
  have hb : k % 8 < 8 := Nat.mod_lt _ (by omega)
  have hM := h.1.1
  have hat : 16 * s + k % 8 < 64 := by omega
  have hB := (h.2.2.2.1 s (k % 8) hs hb).1 hu
  have ht := h.inh hl
  have hl4 := ht.1.1
  obtain ⟨t30, t31, t32, t33, t34⟩ := ht.2.1 h1
  have hlv := m_kp h (nI c, t.2.1.1, nI 0, 0)
  have ei : (16 : Int32) * nI s + (nI k - nI k / 8 * 8) = nI (16 * s + k % 8) := by rw [mod8 (by omega), i16]
  unfold f_X6_asked
  refine ok_mR hM 26 <| ok_mA hM rfl hl4 (ht.1.2.2.2.1.trans hto) <| ok_mR hM 27 <| ok_mA hM rfl hl4 (ht.1.2.2.2.2.1.trans hc) <| ok_mR hM 31 <| ok_mA hM rfl hl4 (t31.trans hkey) <| ok_mR hM 28 <| ok_mA hM rfl hl4 ht.1.2.2.2.2.2.1 <| ok_chk hM.1 <| ok_use hlv ?_
  rw [ei]
  cases hLv : kpP cl (sc 0) (nI c, t.2.1.1, nI 0, 0) with
  | false =>
    refine ok_t rfl <| ok_chk hM.1 <| ok_call (m_answer h h4 hfl hl hs hc hh 3 0) (fun _ w2 y => ok_ret (fun A hA => ?_))
    unfold askD at hA
    rw [if_pos rfl] at hA
    subst hA
    refine ⟨?_, y.2⟩
    show AnsM w2 m S le sc cl (up2b mem s (k % 8) (mem s (k % 8))) kept up dy row held fl s _
    rw [up2b_id rfl]; exact y.1
  | true =>
    refine ok_f (by decide) <| ok_mR hM 11 <| ok_mA hM rfl hat hB.1 <| ok_if (fun c0 => ?_) (fun c0 => ok_mR hM 11 <| ok_mA hM rfl hat hB.1 <| ok_if (fun c2 => ?_) (fun c2 => ?_))
    · refine ok_mR hM 28 <| ok_mA hM rfl hl4 ht.1.2.2.2.2.2.1 <| ok_mR hM 30 <| ok_mA hM rfl hl4 t30 <| ok_chk hM.1 <| ok_call (m_know h h4 hs hb hc6 hu hok t.2.1.1 t.2.1.2.2) (fun _ w1 z => ?_)
      obtain ⟨h5, f5⟩ := z
      have hM5 := h5.1.1
      have ht5 := h5.inh hl
      have hB5 := (h5.2.2.2.1 s (k % 8) hs hb).1 hu
      rw [up2b_self] at hB5
      refine ok_mR hM5 29 <| ok_mA hM5 rfl hl4 ht5.1.2.2.2.2.2.2 <| ok_mR hM5 21 <| ok_mA hM5 (i6' _ _) (by show 6 * (16 * s + k % 8) + c < 384; omega) (hB5.2.2.2.2.2.2.2.2 c hc6) <| ok_if (fun c3 => ?_) (fun c3 => ?_)
      · refine ok_mono (m_own h5 h4 hfl hl h1 hs hb hu hc hk hkey hh (by rw [up2b_self]; exact c3)) (fun _ w2 y => ?_)
        intro A hA
        rw [up2b_self] at y
        unfold askD at hA
        rw [if_neg (by decide), if_neg (by rw [c0]; decide), if_neg (by rw [c0]; decide)] at hA
        obtain ⟨y1, y2⟩ := y _ rfl
        rw [up2b_up] at y1
        subst hA
        refine ⟨?_, f5.tr y2⟩
        have e : (if knC (mem s (k % 8)) c t.2.1.1 t.2.1.2.2 = true then va_up dy s true else dy) = drt (knC (mem s (k % 8)) c t.2.1.1 t.2.1.2.2) true dy s := rfl
        rw [e, drt_drt] at y1
        exact y1
      · refine ok_chk hM5.1 <| ok_call (m_answer h5 h4 hfl hl hs hc hh 4 0) (fun _ w2 y => ok_ret (fun A hA => ?_))
        unfold askD askE at hA
        rw [if_neg (by decide), if_neg (by rw [c0]; decide), if_neg (by rw [c0]; decide), if_neg c3] at hA
        subst hA
        refine ⟨?_, f5.tr y.2⟩
        have e : (if knC (mem s (k % 8)) c t.2.1.1 t.2.1.2.2 = true then va_up dy s true else dy) = drt (knC (mem s (k % 8)) c t.2.1.1 t.2.1.2.2 || false) true dy s := by rw [Bool.or_false]; rfl
        rw [e] at y
        exact y.1
    · unfold f_X6_asked_82
      refine ok_mR hM 11 <| ok_mA hM rfl hat hB.1 <| ok_t c2 ?_
      unfold f_X6_asked_105
      refine ok_chk hM.1 <| ok_call (m_answer h h4 hfl hl hs hc hh 2 0) (fun _ w2 y => ok_ret (fun A hA => ?_))
      unfold askD at hA
      rw [if_neg (by decide), if_pos c2] at hA
      subst hA
      refine ⟨?_, y.2⟩
      show AnsM w2 m S le sc cl (up2b mem s (k % 8) (mem s (k % 8))) kept up dy row held fl s _
      rw [up2b_id rfl]; exact y.1
    · have c3 : (mem s (k % 8)).1 = 0 := by
        rcases hst with e | e | e
        · exact e
        · exact absurd e c0
        · exact absurd e c2
      unfold f_X6_asked_82
      refine ok_mR hM 11 <| ok_mA hM rfl hat hB.1 <| ok_f c2 <| ok_mR hM 13 <| ok_mA hM rfl hat hB.2.2.1 ?_
      unfold f_X6_asked_105
      refine ok_chk hM.1 <| ok_call (m_answer h h4 hfl hl hs hc hh 1 (mem s (k % 8)).2.2.1.toInt64) (fun _ w2 y => ok_ret (fun A hA => ?_))
      unfold askD at hA
      rw [if_neg (by decide), if_neg c2, if_pos c3] at hA
      subst hA
      refine ⟨?_, y.2⟩
      show AnsM w2 m S le sc cl (up2b mem s (k % 8) (mem s (k % 8))) kept up dy row held fl s _
      rw [up2b_id rfl]; exact y.1
end AK
