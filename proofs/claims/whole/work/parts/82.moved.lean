/-! A MOVE IS TAKEN -/
section MD
variable {w w' : Wd} {o m S : Nat} {le : Int32} {sc : Nat → Int32} {cl : Nat → ClD} {mem kept : Nat → Nat → BkD} {up cn dy : Nat → Bool} {row : List Ltr} {held : Nat → List Ltr} {fl : List (Nat × Ltr)}
def mkTak (e s b : Nat) (nr : Int32) : Ltr := ((4, nI e, nI s), (nr, nI b, 0), (nI b, 0, 0, 0), noLoad)
theorem c_take66 (h : RC w o S le sc cl mem kept up cn row held) {x s e b : Nat} {t : Ltr} (hx : LTC w x t) (h3 : t.1.1 = 3) (hT : aMo o S + 45 ≤ x) (hn : x < wn w) (hs : s < S) (hfr : t.1.2.2 = nI e) (hbk : t.2.1.2.1 = nI b) (hh : (held s).length < 512) : ok (f_X5_takeMove_66 o (some (aSv o s)) (some x) w) (fun _ w' => AnsC w' o S le sc cl mem kept up cn row held s (mkTak e s b t.2.1.1) ∧ Cf o S w w') := by
  have hz : wn w ≤ wn w := Nat.le_refl _
  have hW := h.1.2.2.2
  unfold f_X5_takeMove_66
  refine ok_new h.1.2.2.1 (fun w1 g1 c1 => ?_)
  obtain ⟨r1, f1⟩ := h.nw g1
  have x1 := hx.cf hT hn f1
  have s1 := (r1.2.2.1 s hs).1
  refine ok_gI x1.1.1 (x1.1.2.2.2.trans hfr) <| ok_gI s1.1 s1.2.1 <| ok_ini g1 c1 hz (fun w2 g2 c2 => ?_)
  have x2 := hx.cf hT hn (h.nw g2).2
  refine ok_gI x2.1.1 ((x2.2.2.2.1 h3).2.1.trans hbk) <| ok_nI g2 c2 hz (fun w3 g3 c3 => ?_)
  have x3 := hx.cf hT hn (h.nw g3).2
  refine ok_gI x3.1.1 (x3.2.2.2.1 h3).1 <| ok_nI g3 c3 hz (fun w4 g4 c4 => ?_)
  obtain ⟨r6, f6⟩ := h.nw g4
  obtain ⟨d1, d2, d3, d4, d5⟩ := c4
  have ht : LTC w4 (wn w) (mkTak e s b t.2.1.1) := ⟨⟨d1, by rw [d3]; rfl, by rw [d3]; rfl, by rw [d3]; rfl⟩, fun e => absurd (show (4 : Int32) = 1 from e) (by decide), fun e => absurd (show (4 : Int32) = 2 from e) (by decide), fun e => absurd (show (4 : Int32) = 3 from e) (by decide), fun _ => ⟨by rw [d3]; rfl, by rw [d3]; rfl, by rw [d3]; rfl, d5⟩, fun e => absurd (show (4 : Int32) = 5 from e) (by decide)⟩
  exact ok_chk r6.2.1.1.1 <| ok_call (c_sendFrom r6 hs hh ht hW d2) (fun _ w7 z => ok_ret ⟨z.1, f6.tr z.2⟩)
theorem BK.hdr {a : Nat} {st ve hi st' ve' hi' : Int32} {va : Nat → Int64} {rs : List Rec} {kn fi : Nat → Int32} (h : BK w a st ve hi va rs kn fi) : BK (sI (sI (sI w a 0 st') a 1 ve') a 2 hi') a st' ve' hi' va rs kn fi ∧ Bf a w (sI (sI (sI w a 0 st') a 1 ve') a 2 hi') := by
  obtain ⟨hB, h0, h1, h2, h3, hl, hv, hr, hk, hf⟩ := h
  have g : Bf a w (sI (sI (sI w a 0 st') a 1 ve') a 2 hi') := ((Bf.sI (Nat.le_refl _) (by omega)).tr (Bf.sI (Nat.le_refl _) (by omega))).tr (Bf.sI (Nat.le_refl _) (by omega))
  refine ⟨⟨hB.f g, by simp [wI_s], by simp [wI_s], by simp [wI_s], by simp [wI_s]; exact h3, hl, fun k hk' => by rw [wL_sI, wL_sI, wL_sI]; exact hv k hk', fun i r hi'' => ?_, fun c hc => by rw [wI_so (by omega), wI_so (by omega), wI_so (by omega)]; exact hk c hc, fun c hc => by rw [wI_so (by omega), wI_so (by omega), wI_so (by omega)]; exact hf c hc⟩, g⟩
  rw [← hr i r hi'']
  unfold recAt
  rw [wI_so (by omega), wI_so (by omega), wI_so (by omega), wI_so (by omega), wI_so (by omega), wI_so (by omega), wI_so (by omega), wI_so (by omega), wI_so (by omega), wL_sI, wL_sI, wL_sI]
/-- what a MOVE of number nr makes of server s's bucket d -/
def movD (d : BkD) (nr : Int32) (s : Nat) (pl : (Nat → Int64) × List Rec × (Nat → Int32) × (Nat → Int32)) : BkD × Bool := if nr ≤ d.2.1 then (d, false) else ((1, nr, nI s, pl), true)
theorem c_takeMove (h : RC w o S le sc cl mem kept up cn row held) {x s e b : Nat} {t : Ltr} (hx : LTC w x t) (h3 : t.1.1 = 3) (hT : aMo o S + 45 ≤ x) (hn : x < wn w) (hs : s < S) (hb : b < 8) (hfr : t.1.2.2 = nI e) (hbk : t.2.1.2.1 = nI b) (hh : (held s).length < 512) : ok (f_X5_takeMove o (some (aSv o s)) (some x) w) (fun _ w' => ∀ D, D = movD (mem s b) t.2.1.1 s t.2.2.2 → AnsC w' o S le sc cl (up2b mem s b D.1) kept up (drt D.2 false cn s) row held s (mkTak e s b t.2.1.1) ∧ Cf o S w w') := by
  have k0 := h.2.1.1.1
  have kx := hx.1.1
  have hS := h.1.2.1
  have ks := (h.2.2.1 s hs).1.1
  have hB := (h.2.2.2.2.1 s b hs hb).1
  have hxa : aMb o s b + 7 < x := by unfold aMb; unfold aMo at hT; omega
  obtain ⟨x4, x7, -, y, st, ve, hi, x14, hY, -, y1, y2⟩ := hx.2.2.2.1 h3
  unfold f_X5_takeMove
  refine ok_gI kx (x7.trans hbk) <| ok_chk ks <| ok_use (c_bk_in h hs hb) <| ok_f (by simp) <| ok_gR kx x14 <| ok_f (by simp) <| ok_gI kx x4 <| ok_gI hB.1.1.1 hB.2.2.1 <| ok_if (fun c1 => ?_) (fun c1 => ?_)
  · refine ok_mono (c_take66 h hx h3 hT hn hs hfr hbk hh) (fun _ w1 z => ?_)
    intro D hD
    unfold movD at hD
    rw [if_pos c1] at hD
    subst hD
    refine ⟨?_, z.2⟩
    show AnsC w1 o S le sc cl (up2b mem s b (mem s b)) kept up cn row held s _
    rw [up2b_id rfl]; exact z.1
  · refine ok_gR kx x14 <| ok_chk hB.1.1.1 <| ok_call (bk_copy hB.1 hY (Or.inr (by omega))) (fun _ w1 z => ?_)
    obtain ⟨z1, z2⟩ := z
    have kx1 : wK w1 x = 3 := by rw [z1.2.1]; exact kx
    have x4' : wI w1 x 4 = t.2.1.1 := (z1.oI (Or.inr hxa) 4).trans x4
    obtain ⟨q1, q2⟩ := z2.hdr (st' := 1) (ve' := t.2.1.1) (hi' := nI s)
    obtain ⟨r2, f2⟩ := h.bkt hs hb (d := (1, t.2.1.1, nI s, t.2.2.2)) (z1.tr q2) q1
    have sx := (r2.2.2.1 s hs).1
    have ne : aSv o s ≠ aMb o s b := by unfold aSv aMb; omega
    refine ok_pI z2.1.1.1 <| ok_gI (v := t.2.1.1) kx1 (by rw [wI_so (by omega)]; exact x4') <| ok_pI z2.1.1.1 <| ok_gI (v := nI s) sx.1 ?_ <| ok_pI z2.1.1.1 <| ok_pZ sx.1 (Or.inl rfl) ?_
    · have := sx.2.1
      rw [wI_so ne] at this
      exact this
    generalize sI (sI (sI w1 (aMb o s b) 0 1) (aMb o s b) 1 t.2.1.1) (aMb o s b) 2 (nI s) = w2 at q1 q2 r2 f2 sx ⊢
    obtain ⟨r4, f4⟩ := r2.mark hs (up s) false (Or.inr ⟨rfl, rfl⟩)
    have r4' : RC _ o S le sc cl (up2b mem s b (1, t.2.1.1, nI s, t.2.2.2)) kept up (va_up cn s false) row held := r4.ext (fun _ _ _ _ => rfl) (fun _ _ _ _ => rfl) (fun p hp => by rw [va_up_id rfl]) (fun _ _ => rfl) (fun _ _ => rfl)
    have f6 := f2.tr f4
    have xx6 := hx.cf hT hn f6
    refine ok_mono (c_take66 r4' xx6 h3 hT (Nat.lt_of_lt_of_le hn f6.1) hs hfr hbk hh) (fun _ w6 g => ?_)
    intro D hD
    unfold movD at hD
    rw [if_neg c1] at hD
    subst hD
    exact ⟨g.1, f6.tr g.2⟩
theorem m_take311 (h : RMF w m S le sc cl mem kept up dy row held fl) (h4 : S ≤ 4) (hfl : fl.length ≤ 600) {l s e b : Nat} {t : Ltr} (hl : (l, t) ∈ fl) (hs : s < S) (hfr : t.1.2.2 = nI e) (hh : (held s).length < 600) : ok (f_X6_moved_311 m (nI l) (nI s) (nI b) w) (fun _ w' => AnsM w' m S le sc cl mem kept up dy row held fl s (mkTak e s b t.2.1.1) ∧ Mf m w w') := by
  have hM := h.1.1
  have ht := h.inh hl
  have hl4 := ht.1.1
  unfold f_X6_moved_311
  refine ok_mR hM 27 <| ok_mA hM rfl hl4 (ht.1.2.2.2.2.1.trans hfr) <| ok_chk hM.1 <| ok_call (m_letter h h4 hfl 4 (nI e) (nI s)) (fun v1 w1 z => ?_)
  obtain ⟨p, rfl, hp, h0, g, ⟨u1, u2, u3, u4⟩, -, v6, v7⟩ := z
  have hne : l ≠ p := fun e => by subst e; exact absurd (h0.symm.trans ht.1.2.1) (by decide)
  have hM1 := hM.f g.mf
  have ht1 := ht.slot g hne
  refine ok_mR hM1 28 <| ok_mR hM1 28 <| ok_mA hM1 rfl hl4 ht1.1.2.2.2.2.2.1 <| ok_mT hM1 rfl hp (fun hM2 => ok_mR hM2 31 <| ok_mT hM2 rfl hp (fun hM3 => ok_mR hM3 29 <| ok_mT hM3 rfl hp (fun hM4 => ok_chk hM4.1 ?_)))
  have g5 := ((g.sI (j := 28) (v := t.2.1.1) (by omega) (by omega)).sI (j := 31) (v := nI b) (by omega) (by omega)).sI (j := 29) (v := nI b) (by omega) (by omega)
  obtain ⟨hA, fA⟩ := h.alloc (t := mkTak e s b t.2.1.1) hp h0 g5 ⟨⟨hp, by simpa [wI_s] using u1, by simpa [wI_s, mkTak] using u2, by simpa [wI_s, mkTak] using u3, by simpa [wI_s, mkTak] using u4, by simp [wI_s, mkTak], by simp [wI_s, mkTak]⟩, fun e => absurd (show (4 : Int32) = 1 from e) (by decide), fun e => absurd (show (4 : Int32) = 2 from e) (by decide), fun e => absurd (show (4 : Int32) = 3 from e) (by decide), fun _ => by simp [wI_s, mkTak]⟩
  exact ok_call (m_sendFrom hA h4 hs hh) (fun _ w5 z => ok_ret ⟨z.1, fA.tr z.2⟩)
theorem m_moved (h : RMF w m S le sc cl mem kept up dy row held fl) (h4 : S ≤ 4) (hfl : fl.length ≤ 600) {l s e b : Nat} {t : Ltr} (hl : (l, t) ∈ fl) (h3 : t.1.1 = 3) (hs : s < S) (hb : b < 8) (hu : up s = true) (hto : t.1.2.1 = nI s) (hfr : t.1.2.2 = nI e) (hbk : t.2.2.1.1 = nI b) (hh : (held s).length < 600) : ok (f_X6_moved m (nI l) w) (fun _ w' => ∀ D, D = movD (mem s b) t.2.1.1 s t.2.2.2 → AnsM w' m S le sc cl (up2b mem s b D.1) kept up (drt D.2 true dy s) row held fl s (mkTak e s b t.2.1.1) ∧ Mf m w w') := by
  have hM := h.1.1
  have hat : 16 * s + b < 64 := by omega
  have hB := (h.2.2.2.1 s b hs hb).1 hu
  have ht := h.inh hl
  have hl4 := ht.1.1
  obtain ⟨t30, tl, tl2, t31, -⟩ := ht.2.2.2.1 h3
  unfold f_X6_moved
  refine ok_mR hM 26 <| ok_mA hM rfl hl4 (ht.1.2.2.2.1.trans hto) <| ok_mR hM 31 <| ok_mA hM rfl hl4 (t31.trans hbk) <| ok_mR hM 28 <| ok_mA hM rfl hl4 ht.1.2.2.2.2.2.1 ?_
  rw [i16]
  refine ok_mR hM 12 <| ok_mA hM rfl hat hB.2.1 <| ok_if (fun c1 => ?_) (fun c1 => ?_)
  · refine ok_mono (m_take311 h h4 hfl hl hs hfr hh) (fun _ w1 z => ?_)
    intro D hD
    unfold movD at hD
    rw [if_pos c1] at hD
    subst hD
    refine ⟨?_, z.2⟩
    show AnsM w1 m S le sc cl (up2b mem s b (mem s b)) kept up dy row held fl s _
    rw [up2b_id rfl]; exact z.1
  · obtain ⟨h1, f1⟩ := h.dirty hs
    refine ok_mR hM 23 <| ok_mTZ hM rfl (by show s < 4; omega) (Or.inr rfl) (fun hM1 => ?_)
    generalize sI w (m + 23) s 1 = w1 at h1 f1 hM1 ⊢
    have ht1 := h1.inh hl
    obtain ⟨s30, -, -, s31, s35, s36, s40, s41⟩ := ht1.2.2.2.1 h3
    refine ok_mR hM1 11 <| ok_mT hM1 rfl hat (fun hM2 => ok_mR hM2 12 <| ok_mR hM2 28 <| ok_mA (v := t.2.1.1) hM2 rfl hl4 (by rw [wI_so (by omega)]; exact ht1.1.2.2.2.2.2.1) <| ok_mT hM2 rfl hat (fun hM3 => ok_mR hM3 13 <| ok_mT hM3 rfl hat (fun hM4 => ok_mR hM4 15 <| ok_mR hM4 30 <| ok_mA (v := nI t.2.2.2.2.1.length) hM4 rfl hl4 (by rw [wI_so (by omega), wI_so (by omega), wI_so (by omega)]; exact s30.trans tl) <| ok_mT hM4 rfl hat (fun hM5 => ?_))))
    have g5 : BkF m (16 * s + b) w1 (sI (sI (sI (sI w1 (m + 11) (16 * s + b) 1) (m + 12) (16 * s + b) t.2.1.1) (m + 13) (16 * s + b) (nI s)) (m + 15) (16 * s + b) (nI t.2.2.2.2.1.length)) := (((BkF.rf.sI (by omega)).sI (by omega)).sI (by omega)).sI (by omega)
    have F : wI (sI (sI (sI (sI w1 (m + 11) (16 * s + b) 1) (m + 12) (16 * s + b) t.2.1.1) (m + 13) (16 * s + b) (nI s)) (m + 15) (16 * s + b) (nI t.2.2.2.2.1.length)) (m + 11) (16 * s + b) = 1 ∧ wI (sI (sI (sI (sI w1 (m + 11) (16 * s + b) 1) (m + 12) (16 * s + b) t.2.1.1) (m + 13) (16 * s + b) (nI s)) (m + 15) (16 * s + b) (nI t.2.2.2.2.1.length)) (m + 12) (16 * s + b) = t.2.1.1 ∧ wI (sI (sI (sI (sI w1 (m + 11) (16 * s + b) 1) (m + 12) (16 * s + b) t.2.1.1) (m + 13) (16 * s + b) (nI s)) (m + 15) (16 * s + b) (nI t.2.2.2.2.1.length)) (m + 13) (16 * s + b) = nI s ∧ wI (sI (sI (sI (sI w1 (m + 11) (16 * s + b) 1) (m + 12) (16 * s + b) t.2.1.1) (m + 13) (16 * s + b) (nI s)) (m + 15) (16 * s + b) (nI t.2.2.2.2.1.length)) (m + 15) (16 * s + b) = nI t.2.2.2.2.1.length := by simp [wI_s]
    generalize sI (sI (sI (sI w1 (m + 11) (16 * s + b) 1) (m + 12) (16 * s + b) t.2.1.1) (m + 13) (16 * s + b) (nI s)) (m + 15) (16 * s + b) (nI t.2.2.2.2.1.length) = w5 at hM5 g5 F ⊢
    have J : ∀ j, 22 ≤ j → j ≤ 41 → wI w5 (m + j) = wI w1 (m + j) ∧ wL w5 (m + j) = wL w1 (m + j) := fun j a b => ⟨g5.1.I (by omega), g5.1.L (by omega)⟩
    refine l_moved_90 (x1 := 0) hl4 hat FU 0 w5 (by unfold FU; omega) (by omega) hM5 (fun wa qa xa ia oa na _ => ?_)
    unfold f_X6_moved_125
    refine l_moved_128 (x1 := 0) hl4 hat (N := t.2.2.2.2.1.length) tl2 FU 0 wa (by unfold FU; omega) (by omega) qa (by rw [ia, (J 30 (by omega) (by omega)).1]; exact s30.trans tl) (fun wb qb xb ob nb _ => ?_)
    unfold f_X6_moved_245
    refine l_moved_248 (x1 := 0) hl4 hat FU 0 wb (by unfold FU; omega) (by omega) qb (fun wc qc xc ic oc nc _ => ?_)
    have gc : BkF m (16 * s + b) w1 wc := ((g5.l14 xa ia oa).l16 xb ob).l20 xc oc
    have I : ∀ e i, e = 11 ∨ e = 12 ∨ e = 13 ∨ e = 15 → wI wc (m + e) i = wI w5 (m + e) i := fun e i he => by rw [xc.I (by omega), xb.I (by omega), ia]
    have hBc : BKM wc m (16 * s + b) (1, t.2.1.1, nI s, t.2.2.2) := by
      refine ⟨by rw [I 11 _ (by omega)]; exact F.1, by rw [I 12 _ (by omega)]; exact F.2.1, by rw [I 13 _ (by omega)]; exact F.2.2.1, by rw [I 15 _ (by omega)]; exact F.2.2.2, tl2, fun k hk => ?_, fun i r hi => ?_, fun e he => ?_, fun e he => ?_⟩
      · rw [ic, xb.L (by omega), na k hk (by omega), (J 35 (by omega) (by omega)).2]; exact s35 k hk
      · have hil : i < t.2.2.2.2.1.length := (List.getElem?_eq_some_iff.mp hi).1
        rw [← s36 i r hi]
        have e1 : recM wc m (16 * s + b) i = rec4 wb m 16 (16 * s + b) i := by
          unfold recM rec4
          rw [xc.I (q := m + 16) (by omega), xc.I (q := m + 17) (by omega), xc.I (q := m + 18) (by omega), ic]
        have e2 : rec4 wa m 36 l i = mrecM w1 m l i := by
          unfold mrecM rec4
          rw [ia, xa.L (q := m + (36 + 3)) (by omega), (J 36 (by omega) (by omega)).1, (J (36 + 1) (by omega) (by omega)).1, (J (36 + 2) (by omega) (by omega)).1, (J (36 + 3) (by omega) (by omega)).2]
        rw [e1, nb i hil (by omega), e2]
      · rw [(nc e he (by omega)).1, xb.I (by omega), ia, (J 40 (by omega) (by omega)).1]; exact s40 e he
      · rw [(nc e he (by omega)).2, xb.I (by omega), ia, (J 41 (by omega) (by omega)).1]; exact s41 e he
    obtain ⟨h9, f9⟩ := h1.bk hs hb gc hBc
    refine ok_mono (m_take311 h9 h4 hfl hl hs hfr hh) (fun _ w6 z => ?_)
    intro D hD
    unfold movD at hD
    rw [if_neg c1] at hD
    subst hD
    exact ⟨z.1, (f1.tr f9).tr z.2⟩
end MD
