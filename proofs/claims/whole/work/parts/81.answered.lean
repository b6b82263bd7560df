/-! AN ANSWER IS TAKEN -/
section AW
variable {w w' : Wd} {o m S : Nat} {le : Int32} {sc : Nat → Int32} {cl : Nat → ClD} {mem kept : Nat → Nat → BkD} {up cn dy : Nat → Bool} {row : List Ltr} {held : Nat → List Ltr} {fl : List (Nat × Ltr)}
/-- a client takes the answer of incarnation i to call q + 1 -/
def ansD (d : ClD) (i : Int32) (q : Nat) (code : Int32) (v : Int64) : ClD × Bool :=
  if d.1 = i then Option.elim (d.2.2.1[q]?) (d, false) (fun r => if r.1 = 0 then (if code = 0 then ((d.1, d.2.1, d.2.2.1.set q (1, v, r.2.2), d.2.2.2), true) else if code = 1 then ((d.1, d.2.1, d.2.2.1, va_up d.2.2.2 (r.2.2.1.toNatClampNeg % 8) v.toInt32), false) else if code = 3 then ((d.1, d.2.1, d.2.2.1.map refC, d.2.2.2), false) else (d, false)) else (d, false))
  else (d, false)
def donS (e : Bool) (sc : Nat → Int32) : Nat → Int32 := if e then va_up sc 3 (sc 3 + 1) else sc
theorem ansD_1 {d : ClD} {i code : Int32} {q : Nat} {v : Int64} (h : ¬ d.1 = i) : ansD d i q code v = (d, false) := by unfold ansD; rw [if_neg h]
theorem ansD_2 {d : ClD} {i code : Int32} {q : Nat} {v : Int64} (h : ¬ q < d.2.2.1.length) : ansD d i q code v = (d, false) := by
  unfold ansD
  by_cases e : d.1 = i
  · rw [if_pos e, List.getElem?_eq_none (by omega)]; rfl
  · rw [if_neg e]
theorem ansD_3 {d : ClD} {i code : Int32} {q : Nat} {v : Int64} (h0 : d.1 = i) (h : q < d.2.2.1.length) : ansD d i q code v = if d.2.2.1[q].1 = 0 then (if code = 0 then ((d.1, d.2.1, d.2.2.1.set q (1, v, d.2.2.1[q].2.2), d.2.2.2), true) else if code = 1 then ((d.1, d.2.1, d.2.2.1, va_up d.2.2.2 (d.2.2.1[q].2.2.1.toNatClampNeg % 8) v.toInt32), false) else if code = 3 then ((d.1, d.2.1, d.2.2.1.map refC, d.2.2.2), false) else (d, false)) else (d, false) := by
  unfold ansD
  rw [if_pos h0, List.getElem?_eq_getElem h]; rfl
theorem CLI.done {a c q : Nat} {inc en : Int32} {cs : List Cal} {gu : Nat → Int32} (h : CLI w a c inc en cs gu) (hq : q < cs.length) (v : Int64) : CLI (sL (sI w (a + 6) (q + 1) 1) (a + 7) (q + 1) v) a c inc en (cs.set q (1, v, cs[q].2.2)) gu ∧ Bf a w (sL (sI w (a + 6) (q + 1) 1) (a + 7) (q + 1) v) := by
  obtain ⟨hC, g0, g1, g2, h3, hl, hr, hg⟩ := h
  have hf : Bf a w (sL (sI w (a + 6) (q + 1) 1) (a + 7) (q + 1) v) := (Bf.sI (by omega) (by omega)).tr (Bf.sL (by omega) (by omega))
  refine ⟨⟨hC.f hf, ?_, ?_, ?_, ?_, ?_, fun i r hi => ?_, fun b hb => ?_⟩, hf⟩
  · simp [wI_s, (wsL _ _ _ _).2.2.2.1]; exact g0
  · simp [wI_s, (wsL _ _ _ _).2.2.2.1]; exact g1
  · simp [wI_s, (wsL _ _ _ _).2.2.2.1]; exact g2
  · simp [wI_s, (wsL _ _ _ _).2.2.2.1]; exact h3
  · rw [List.length_set]; exact hl
  · have hil : i < cs.length := by
      have := (List.getElem?_eq_some_iff.mp hi).1
      rwa [List.length_set] at this
    have e0 := hr i _ (List.getElem?_eq_getElem hil)
    by_cases e : i = q
    · subst e
      rw [List.getElem?_set_self hil] at hi
      cases hi
      rw [← e0]
      simp [calAt, wI_s, wL_s, (wsL _ _ _ _).2.2.2.1, (wsI _ _ _ _).2.2.2.1]
    · rw [List.getElem?_set_ne (fun z => e z.symm)] at hi
      rw [← hr i r hi]
      simp [calAt, wI_s, wL_s, (wsL _ _ _ _).2.2.2.1, (wsI _ _ _ _).2.2.2.1, e]
  · simp [wI_s, (wsL _ _ _ _).2.2.2.1]; exact hg b hb
theorem CLI.guess {a c b : Nat} {inc en : Int32} {cs : List Cal} {gu : Nat → Int32} (h : CLI w a c inc en cs gu) (v : Int32) : CLI (sI w (a + 1) b v) a c inc en cs (va_up gu b v) ∧ Bf a w (sI w (a + 1) b v) := by
  obtain ⟨hC, g0, g1, g2, h3, hl, hr, hg⟩ := h
  have hf : Bf a w (sI w (a + 1) b v) := Bf.sI (by omega) (by omega)
  refine ⟨⟨hC.f hf, ?_, ?_, ?_, ?_, hl, fun i r hi => ?_, fun e he => ?_⟩, hf⟩
  · simp [wI_s]; exact g0
  · simp [wI_s]; exact g1
  · simp [wI_s]; exact g2
  · simp [wI_s]; exact h3
  · rw [← hr i r hi]; simp [calAt, wI_s, (wsI _ _ _ _).2.2.2.1]
  · rw [wI_s]
    by_cases e1 : e = b
    · rw [if_pos ⟨rfl, e1⟩, e1, va_up_self]
    · rw [if_neg (fun z => e1 z.2), va_up_ne _ _ e1]; exact hg e he
theorem in1 {q L : Nat} (hq : q < 60) (hL : L ≤ 60) : (1 ≤ nI (q + 1) ∧ nI (q + 1) ≤ nI L) ↔ q < L := by
  rw [show (1 : Int32) = nI 1 from rfl, nI_leI (by omega) (by omega), nI_leI (by omega) (by omega)]; omega
theorem c_takeAnswer (h : RC w o S le sc cl mem kept up cn row held) {x c q : Nat} {t : Ltr} (hx : LTC w x t) (h1 : t.1.1 = 2) (hT : aMo o S + 45 ≤ x) (hn : x < wn w) (hc : c < 6) (hto : t.1.2.1 = nI c) (hq : q < 60) (hnum : t.2.1.2.1 = nI (q + 1)) (hcl : ClOk S (cl c)) : ok (f_X5_takeAnswer o (some x) w) (fun _ w' => ∀ D, D = ansD (cl c) t.2.1.1 q t.2.1.2.2 t.2.2.1.2.2.1 → RC w' o S le (donS D.2 sc) (va_up cl c D.1) mem kept up cn row held ∧ Cf o S w w') := by
  have k0 := h.2.1.1.1
  have kx := hx.1.1
  obtain ⟨x3, x5, x8, x13⟩ := hx.2.2.1 h1
  have hC := h.2.2.2.1 c hc
  have l60 : (cl c).2.2.1.length ≤ 60 := hC.2.2.2.2.2.1
  obtain ⟨⟨kc, l4, l5, l6, l7, l8, l9, l10⟩, ⟨k1, n1⟩, ⟨k2, n2⟩, ⟨k3, n3⟩, ⟨k4, n4⟩, ⟨k5, n5⟩, ⟨k6, n6⟩, ⟨k7, n7⟩⟩ := hC.1
  have hxc : aCl o S c + 7 < x := by unfold aCl; unfold aMo at hT; omega
  have same : ∀ (D : ClD × Bool), D = (cl c, false) → RC w o S le (donS D.2 sc) (va_up cl c D.1) mem kept up cn row held ∧ Cf o S w w := by
    intro D hD
    subst hD
    rw [va_up_id rfl]
    exact ⟨h, Cf.rf⟩
  unfold f_X5_takeAnswer
  refine ok_gI kx (hx.1.2.2.1.trans hto) <| ok_chk k0 <| ok_use (c_cl_in h hc) <| ok_f (by simp) <| ok_gI kc hC.2.2.1 <| ok_gI kx x3 <| ok_if (fun c1 => ?_) (fun c1 => ok_ret (fun D hD => same D (hD.trans (ansD_1 c1))))
  refine ok_gI kx (x5.trans hnum) <| ok_chk kc <| ok_use (cl_has hC (nI (q + 1))) ?_
  by_cases c2 : q < (cl c).2.2.1.length
  · have c2' := (in1 hq l60).mpr c2
    rw [if_pos c2']
    have hd := ansD_3 (code := t.2.1.2.2) (v := t.2.2.1.2.2.1) c1 c2
    obtain ⟨q1, q2, q3, q4, q5, q6⟩ := CLI.cal hC c2
    refine ok_f (by decide) <| ok_gR kc l9 <| ok_gI kx (x5.trans hnum) <| ok_aI rfl k6 (by omega) (by omega) q1 <| ok_if (fun c3 => ?_) (fun c3 => ok_ret (fun D hD => same D (by rw [hD, hd, if_neg c3])))
    rw [if_pos c3] at hd
    refine ok_gI kx x8 <| ok_if (fun c4 => ?_) (fun c4 => ok_gI kx x8 <| ok_if (fun c5 => ?_) (fun c5 => ok_gI kx x8 <| ok_if (fun c6 => ?_) (fun c6 => ok_ret (fun D hD => same D (by rw [hD, hd, if_neg c4, if_neg c5, if_neg c6])))))
    · rw [if_pos c4] at hd
      have y5 : wI (sI w (aCl o S c + 6) (q + 1) 1) x 5 = nI (q + 1) := by rw [wI_so (by omega)]; exact x5.trans hnum
      refine ok_gR kc l9 <| ok_gI kx (x5.trans hnum) <| ok_tI rfl k6 (by omega) (by omega) <| ok_gR (a := aCl o S c) kc l10 <| ok_gI kx y5 <| ok_gL kx x13 <| ok_tL rfl k7 (by show q + 1 < wN w (aCl o S c + 7); omega) (by omega) ?_
      obtain ⟨z1, z2⟩ := CLI.done hC c2 t.2.2.1.2.2.1
      obtain ⟨r1, f1⟩ := h.cli hc (d := ((cl c).1, (cl c).2.1, (cl c).2.2.1.set q (1, t.2.2.1.2.2.1, (cl c).2.2.1[q].2.2), (cl c).2.2.2)) z2 z1
      obtain ⟨r2, f2⟩ := r1.num (k := 8) (j := 3) (v := sc 3 + 1) (Or.inr (Or.inr (Or.inr (Or.inr ⟨rfl, rfl⟩))))
      refine ok_gI r1.2.1.1.1 r1.2.1.2.1.2.2.2.2.2 <| ok_pI r1.2.1.1.1 <| ok_ret (fun D hD => ?_)
      rw [hd] at hD
      subst hD
      exact ⟨r2, f1.tr f2⟩
    · rw [if_neg c4, if_pos c5] at hd
      obtain ⟨k, hk, ek⟩ := hcl.2.1 _ (List.getElem_mem c2)
      refine ok_gR kc l4 <| ok_gR kc l5 <| ok_gI kx (x5.trans hnum) <| ok_aI rfl k2 (by omega) (by omega) (q3.trans ek) <| ok_use (rfl : f_X5_bucketOf (nI k) w = _) <| ok_gL kx x13 <| ok_tI (n := k % 8) (mod8 (by omega)) k1 (by omega) (by omega) <| ok_ret (fun D hD => ?_)
      obtain ⟨z1, z2⟩ := CLI.guess (b := k % 8) hC t.2.2.1.2.2.1.toInt32
      rw [hd, ek, nI_clamp (by omega)] at hD
      subst hD
      exact h.cli hc (d := ((cl c).1, (cl c).2.1, (cl c).2.2.1, va_up (cl c).2.2.2 (k % 8) t.2.2.1.2.2.1.toInt32)) z2 z1
    · rw [if_neg c4, if_neg c5, if_pos c6] at hd
      refine ok_chk kc <| ok_call (cl_refuse hC) (fun _ w1 z => ok_ret (fun D hD => ?_))
      rw [hd] at hD
      subst hD
      exact h.cli hc (d := ((cl c).1, (cl c).2.1, (cl c).2.2.1.map refC, (cl c).2.2.2)) z.1 z.2
  · have c2' : ¬ (1 ≤ nI (q + 1) ∧ nI (q + 1) ≤ nI (cl c).2.2.1.length) := fun z => c2 ((in1 hq l60).mp z)
    rw [if_neg c2']
    exact ok_t rfl <| ok_ret (fun D hD => same D (hD.trans (ansD_2 c2)))
theorem CLM.done {c q : Nat} {inc en : Int32} {cs : List Cal} {gu : Nat → Int32} (h : CLM w m c inc en cs gu) (hq : q < cs.length) (v : Int64) : CLM (sL (sI w (m + 5) (60 * c + q) 1) (m + 6) (60 * c + q) v) m c inc en (cs.set q (1, v, cs[q].2.2)) gu := by
  obtain ⟨a1, a2, a3, a4, a5, a6⟩ := h
  refine ⟨?_, ?_, ?_, ?_, fun i r hi => ?_, fun b hb => ?_⟩
  · simp [wI_s, (wsL _ _ _ _).2.2.2.1]; exact a1
  · simp [wI_s, (wsL _ _ _ _).2.2.2.1]; exact a2
  · simp [wI_s, (wsL _ _ _ _).2.2.2.1]; exact a3
  · rw [List.length_set]; exact a4
  · have hil : i < cs.length := by
      have := (List.getElem?_eq_some_iff.mp hi).1
      rwa [List.length_set] at this
    have e0 := a5 i _ (List.getElem?_eq_getElem hil)
    by_cases e : i = q
    · subst e
      rw [List.getElem?_set_self hil] at hi
      cases hi
      rw [← e0]
      simp [calM, wI_s, wL_s, (wsL _ _ _ _).2.2.2.1, (wsI _ _ _ _).2.2.2.1]
    · rw [List.getElem?_set_ne (fun z => e z.symm)] at hi
      rw [← a5 i r hi]
      simp [calM, wI_s, wL_s, (wsL _ _ _ _).2.2.2.1, (wsI _ _ _ _).2.2.2.1, e]
  · simp [wI_s, (wsL _ _ _ _).2.2.2.1]; exact a6 b hb
theorem CLM.guess {c b : Nat} {inc en : Int32} {cs : List Cal} {gu : Nat → Int32} (h : CLM w m c inc en cs gu) (v : Int32) : CLM (sI w (m + 4) (8 * c + b) v) m c inc en cs (va_up gu b v) := by
  obtain ⟨a1, a2, a3, a4, a5, a6⟩ := h
  refine ⟨?_, ?_, ?_, a4, fun i r hi => ?_, fun e he => ?_⟩
  · simp [wI_s]; exact a1
  · simp [wI_s]; exact a2
  · simp [wI_s]; exact a3
  · rw [← a5 i r hi]; simp [calM, wI_s, (wsI _ _ _ _).2.2.2.1]
  · rw [wI_s]
    by_cases e1 : e = b
    · rw [if_pos ⟨rfl, by rw [e1]⟩, e1, va_up_self]
    · rw [if_neg (by omega), va_up_ne _ _ e1]; exact a6 e he
theorem m_refuse {c : Nat} {inc en : Int32} {gu : Nat → Int32} (hc : c < 6) : ∀ (n : Nat) (L1 L2 : List Cal) (w : Wd), L2.length < n → isM w m → CLM w m c inc en (L1 ++ L2) gu → ok (f_X6_answered_154 n m (nI c) (nI L1.length) w) (fun _ w' => isM w' m ∧ Mx m (fun q => q = m + 5) w w' ∧ wL w' = wL w ∧ (∀ i, (i < 60 * c ∨ 60 * c + 60 ≤ i) → wI w' (m + 5) i = wI w (m + 5) i) ∧ CLM w' m c inc en (L1 ++ L2.map refC) gu) := by
  intro n
  induction n with
  | zero => intro L1 L2 w h1; omega
  | succ n ih =>
    intro L1 L2 w h1 hM h
    obtain ⟨a1, a2, a3, a4, a5, a6⟩ := id h
    rw [List.length_append] at a4
    rw [f_X6_answered_154.eq_2]
    refine ok_mR hM 3 <| ok_mA hM rfl (by show c < 6; exact hc) a3 <| ok_if (fun c1 => ?_) (fun c1 => ?_)
    · rw [nI_leI (by rw [List.length_append]; omega) (by omega), List.length_append] at c1
      have : L2 = [] := List.length_eq_zero_iff.mp (by omega)
      subst this
      exact ok_ret ⟨hM, Mx.rf (fun q hq => by omega), rfl, fun _ _ => rfl, h⟩
    · rw [nI_leI (by rw [List.length_append]; omega) (by omega), List.length_append] at c1
      obtain ⟨r, L2, rfl⟩ : ∃ r q, L2 = r :: q := by
        cases L2 with
        | nil => simp at c1
        | cons r q => exact ⟨r, q, rfl⟩
      have hrj : (L1 ++ r :: L2)[L1.length]? = some r := by
        rw [List.getElem?_append_right (Nat.le_refl _), Nat.sub_self]; rfl
      have er := a5 _ r hrj
      have hs : wI w (m + 5) (60 * c + L1.length) = r.1 := by rw [← er]; rfl
      simp at a4 h1
      have hb : 60 * c + L1.length < 360 := by omega
      refine ok_mR hM 5 <| ok_mA hM (m60 _ _) hb hs <| ok_if (fun c2 => ?_) (fun c2 => ?_)
      · refine ok_mR hM 5 <| ok_mT hM (m60 _ _) hb (fun hM1 => ?_)
        unfold f_X6_answered_193
        rw [nI_1]
        have hn : CLM (sI w (m + 5) (60 * c + L1.length) 2) m c inc en ((L1 ++ [refC r]) ++ L2) gu := by
          refine ⟨?_, ?_, ?_, ?_, fun i q hi => ?_, fun b hb => ?_⟩
          · simp [wI_s]; exact a1
          · simp [wI_s]; exact a2
          · simp [wI_s]; simpa using a3
          · simp; omega
          · by_cases e : i = L1.length
            · subst e
              rw [List.append_assoc, List.getElem?_append_right (Nat.le_refl _), Nat.sub_self] at hi
              simp at hi
              rw [← hi]
              simp [refC, c2, ← er, calM, wI_s, wL_s, (wsI _ _ _ _).2.2.2.1]
              exact fun z => absurd (hs.trans c2) z
            · have : (L1 ++ r :: L2)[i]? = some q := by
                rw [← hi]
                by_cases e2 : i < L1.length
                · rw [List.getElem?_append_left (by omega), List.append_assoc, List.getElem?_append_left (by omega)]
                · rw [List.append_assoc, List.getElem?_append_right (by omega), List.getElem?_append_right (by omega)]
                  obtain ⟨d, hd⟩ : ∃ d, i - L1.length = d + 1 := ⟨i - L1.length - 1, by omega⟩
                  rw [hd]; rfl
              rw [← a5 i q this]
              simp [calM, wI_s, (wsI _ _ _ _).2.2.2.1, e]
          · simp [wI_s]; exact a6 b hb
        have := ih (L1 ++ [refC r]) L2 _ (by omega) hM1 hn
        rw [List.length_append] at this
        refine ok_mono this (fun _ w' z => ⟨z.1, ((Mx.rf (X := fun q => q = m + 5) (fun q hq => by omega)).sI rfl).tr z.2.1, z.2.2.1.trans wL_sI, fun i hi => ?_, ?_⟩)
        · rw [z.2.2.2.1 i hi, wI_s, if_neg (by omega)]
        · simpa using z.2.2.2.2
      · unfold f_X6_answered_193
        rw [nI_1]
        have e : refC r = r := by simp [refC, c2]
        have := ih (L1 ++ [r]) L2 w (by omega) hM (by simpa using h)
        rw [List.length_append] at this
        refine ok_mono this (fun _ w' z => ⟨z.1, z.2.1, z.2.2.1, z.2.2.2.1, ?_⟩)
        simpa [e] using z.2.2.2.2
theorem m_answered (h : RMF w m S le sc cl mem kept up dy row held fl) {l c q : Nat} {t : Ltr} (hl : (l, t) ∈ fl) (h1 : t.1.1 = 2) (hc : c < 6) (hto : t.1.2.1 = nI c) (hq : q < 60) (hnum : t.2.1.2.1 = nI (q + 1)) (hcl : ClOk S (cl c)) : ok (f_X6_answered m (nI l) w) (fun _ w' => ∀ D, D = ansD (cl c) t.2.1.1 q t.2.1.2.2 t.2.2.1.2.2.1 → RMF w' m S le (donS D.2 sc) (va_up cl c D.1) mem kept up dy row held fl ∧ Mf m w w') := by
  have hM := h.1.1
  have ht := h.inh hl
  have hl4 := ht.1.1
  obtain ⟨t30, t33⟩ := ht.2.2.1 h1
  have hC := h.2.1 c hc
  obtain ⟨a1, a2, a3, a4, a5, a6⟩ := id hC
  have hix : 60 * c + q < 360 := by omega
  have same : ∀ (D : ClD × Bool), D = (cl c, false) → RMF w m S le (donS D.2 sc) (va_up cl c D.1) mem kept up dy row held fl ∧ Mf m w w := by
    intro D hD
    subst hD
    rw [va_up_id rfl]
    exact ⟨h, Mf.rf⟩
  unfold f_X6_answered
  refine ok_mR hM 26 <| ok_mA hM rfl hl4 (ht.1.2.2.2.1.trans hto) <| ok_mR hM 28 <| ok_mA hM rfl hl4 ht.1.2.2.2.2.2.1 <| ok_mR hM 1 <| ok_mA hM rfl (by show c < 6; exact hc) a1 <| ok_if (fun c1 => ?_) (fun c1 => ok_ret (fun D hD => same D (hD.trans (ansD_1 (fun z => c1 z.symm)))))
  refine ok_mR hM 29 <| ok_mA hM rfl hl4 (ht.1.2.2.2.2.2.2.trans hnum) <| ok_chk hM.1 <| ok_use (m_isCall h hc (nI (q + 1))) ?_
  by_cases c2 : q < (cl c).2.2.1.length
  · have c2' := (in1 hq a4).mpr c2
    rw [if_pos c2']
    have hd := ansD_3 (code := t.2.1.2.2) (v := t.2.2.1.2.2.1) c1.symm c2
    obtain ⟨q1, q2, q3, q4, q5, q6⟩ := CLM.cal hC c2
    refine ok_f (by decide) <| ok_mR hM 29 <| ok_mA hM rfl hl4 (ht.1.2.2.2.2.2.2.trans hnum) ?_
    rw [m60p]
    refine ok_mR hM 5 <| ok_mA hM rfl hix q1 <| ok_if (fun c3 => ?_) (fun c3 => ok_ret (fun D hD => same D (by rw [hD, hd, if_neg c3])))
    rw [if_pos c3] at hd
    refine ok_mR hM 30 <| ok_mA hM rfl hl4 t30 <| ok_if (fun c4 => ?_) (fun c4 => ok_mR hM 30 <| ok_mA hM rfl hl4 t30 <| ok_if (fun c5 => ?_) (fun c5 => ok_mR hM 30 <| ok_mA hM rfl hl4 t30 <| ok_if (fun c6 => ?_) (fun c6 => ok_ret (fun D hD => same D (by rw [hD, hd, if_neg c4, if_neg c5, if_neg c6])))))
    · rw [if_pos c4] at hd
      refine ok_mR hM 5 <| ok_mT hM rfl hix (fun hM1 => ok_mR hM1 6 <| ok_mR hM1 33 <| ok_mAL hM1 rfl hl4 t33 <| ok_mTL hM1 rfl hix (fun hM2 => ?_))
      have z1 := CLM.done hC c2 t.2.2.1.2.2.1
      have g : Mx m (fun q => m + 1 ≤ q ∧ q ≤ m + 10) w (sL (sI w (m + 5) (60 * c + q) 1) (m + 6) (60 * c + q) t.2.2.1.2.2.1) := ((Mx.rf (fun q hq => by omega)).sI (by omega)).sL (by omega)
      have e1 : ∀ (j i : Nat), 1 ≤ j → j ≤ 3 → i ≠ c → wI (sL (sI w (m + 5) (60 * c + q) 1) (m + 6) (60 * c + q) t.2.2.1.2.2.1) (m + j) i = wI w (m + j) i := fun j i _ _ _ => by
        rw [wI_sL, wI_so (by omega)]
      have e2 : ∀ (i : Nat), wI (sL (sI w (m + 5) (60 * c + q) 1) (m + 6) (60 * c + q) t.2.2.1.2.2.1) (m + 4) i = wI w (m + 4) i := fun i => by
        rw [wI_sL, wI_so (by omega)]
      have e3 : ∀ (j i : Nat), 5 ≤ j → j ≤ 10 → (i < 60 * c ∨ 60 * c + 60 ≤ i) → wI (sL (sI w (m + 5) (60 * c + q) 1) (m + 6) (60 * c + q) t.2.2.1.2.2.1) (m + j) i = wI w (m + j) i ∧ wL (sL (sI w (m + 5) (60 * c + q) 1) (m + 6) (60 * c + q) t.2.2.1.2.2.1) (m + j) i = wL w (m + j) i := fun j i _ _ hi => ⟨by rw [wI_sL, wI_s, if_neg (by omega)], by rw [wL_s, if_neg (by omega), wL_sI]⟩
      obtain ⟨r1, f1⟩ := h.cli hc (d := ((cl c).1, (cl c).2.1, (cl c).2.2.1.set q (1, t.2.2.1.2.2.1, (cl c).2.2.1[q].2.2), (cl c).2.2.2)) g e1 (fun i _ => e2 i) e3 z1
      obtain ⟨r2, f2⟩ := r1.num (k := 5) (j := 3) (v := sc 3 + 1) (Or.inr (Or.inr (Or.inr (Or.inl ⟨rfl, rfl⟩))))
      refine ok_gI hM2.1 r1.1.2.2.2.2.2.2.1 <| ok_pI hM2.1 <| ok_ret (fun D hD => ?_)
      rw [hd] at hD
      subst hD
      exact ⟨r2, f1.tr f2⟩
    · rw [if_neg c4, if_pos c5] at hd
      obtain ⟨k, hk, ek⟩ := hcl.2.1 _ (List.getElem_mem c2)
      refine ok_mR hM 4 <| ok_mR hM 7 <| ok_mA hM rfl hix (q3.trans ek) <| ok_mR hM 33 <| ok_mAL hM rfl hl4 t33 <| ok_mT (n := 8 * c + k % 8) hM (by rw [mod8 (by omega), i8']) (by show 8 * c + k % 8 < 48; omega) (fun hM1 => ok_ret (fun D hD => ?_))
      have z1 := CLM.guess (b := k % 8) hC t.2.2.1.2.2.1.toInt32
      rw [hd, ek, nI_clamp (by omega)] at hD
      subst hD
      exact h.cli hc (d := ((cl c).1, (cl c).2.1, (cl c).2.2.1, va_up (cl c).2.2.2 (k % 8) t.2.2.1.2.2.1.toInt32)) ((Mx.rf (fun q hq => by omega)).sI (by omega)) (fun j i _ _ _ => by rw [wI_so (by omega)]) (fun i hi => by rw [wI_s, if_neg (by omega)]) (fun j i _ _ _ => ⟨by rw [wI_so (by omega)], rfl⟩) z1
    · rw [if_neg c4, if_neg c5, if_pos c6] at hd
      refine ok_mono (m_refuse hc FU [] (cl c).2.2.1 w (by unfold FU; omega) hM hC) (fun _ w1 z => ?_)
      intro D hD
      obtain ⟨z1, z2, z3', z3, z4⟩ := z
      rw [hd] at hD
      subst hD
      exact h.cli hc (d := ((cl c).1, (cl c).2.1, (cl c).2.2.1.map refC, (cl c).2.2.2)) (z2.mono (fun q hq => by omega) (fun q hq => by omega)) (fun j i _ _ _ => by rw [z2.I (by omega)]) (fun i hi => by rw [z2.I (by omega)]) (fun j i j1 j2 hi => ⟨by
        by_cases e : j = 5
        · subst e; exact z3 i hi
        · rw [z2.I (by omega)], by rw [z3']⟩) z4
  · have c2' : ¬ (1 ≤ nI (q + 1) ∧ nI (q + 1) ≤ nI (cl c).2.2.1.length) := fun z => c2 ((in1 hq a4).mp z)
    rw [if_neg c2']
    exact ok_t rfl <| ok_ret (fun D hD => same D (hD.trans (ansD_2 c2)))
end AW
