/-! CLIENTS (class Client): an object at a, its seven arrays at a + 1 .. a + 7; call number n stands at place n -/
abbrev Cal : Type := Int32 × Int64 × Int32 × Int32 × Int64 × Int64
def isCl (w : Wd) (a : Nat) : Prop := (wK w a = 2 ∧ wR w a 4 = some (a + 1) ∧ wR w a 5 = some (a + 2) ∧ wR w a 6 = some (a + 3) ∧ wR w a 7 = some (a + 4) ∧ wR w a 8 = some (a + 5) ∧ wR w a 9 = some (a + 6) ∧ wR w a 10 = some (a + 7)) ∧ (wK w (a + 1) = 100 ∧ wN w (a + 1) = 8) ∧ (wK w (a + 2) = 100 ∧ wN w (a + 2) = 61) ∧ (wK w (a + 3) = 100 ∧ wN w (a + 3) = 61) ∧ (wK w (a + 4) = 101 ∧ wN w (a + 4) = 61) ∧ (wK w (a + 5) = 101 ∧ wN w (a + 5) = 61) ∧ (wK w (a + 6) = 100 ∧ wN w (a + 6) = 61) ∧ (wK w (a + 7) = 101 ∧ wN w (a + 7) = 61)
def calAt (w : Wd) (a n : Nat) : Cal := (wI w (a + 6) n, wL w (a + 7) n, wI w (a + 2) n, wI w (a + 3) n, wL w (a + 4) n, wL w (a + 5) n)
def CLI (w : Wd) (a c : Nat) (inc en : Int32) (cs : List Cal) (gu : Nat → Int32) : Prop := isCl w a ∧ wI w a 0 = nI c ∧ wI w a 1 = inc ∧ wI w a 2 = en ∧ wI w a 3 = nI cs.length ∧ cs.length ≤ 60 ∧ (∀ i r, cs[i]? = some r → calAt w a (i + 1) = r) ∧ (∀ b, b < 8 → wI w (a + 1) b = gu b)
theorem isCl.f {a b : Nat} {w w' : Wd} (h : isCl w a) (hb : Bf b w w') : isCl w' a := by
  unfold isCl at h ⊢
  rw [hb.2.1, hb.2.2.1, hb.2.2.2.1]
  exact h
section CLS
variable {w : Wd} {a c : Nat} {inc en : Int32} {cs : List Cal} {gu : Nat → Int32}
def isW (r : Cal) : Bool := decide (r.1 = 0)
/-- the least number of a call that waits, or else the next number -/
def fst1 (cs : List Cal) : Nat := cs.findIdx isW + 1
theorem CLI.st (h : CLI w a c inc en cs gu) {i : Nat} (hi : i < cs.length) : wI w (a + 6) (i + 1) = cs[i].1 := by
  have := h.2.2.2.2.2.2.1 i _ (List.getElem?_eq_getElem hi)
  rw [← this]; rfl
theorem i1 : (1 : Int32) = nI 1 := rfl
theorem cl_has (h : CLI w a c inc en cs gu) (x : Int32) : f_X1_hasCall a x w = some (if 1 ≤ x ∧ x ≤ nI cs.length then 1 else 0, w) := by
  have k0 := h.1.1.1
  have h3 := h.2.2.2.2.1
  suffices ok (f_X1_hasCall a x w) (fun v w' => v = (if 1 ≤ x ∧ x ≤ nI cs.length then 1 else 0) ∧ w' = w) by
    obtain ⟨v, w', e, rfl, rfl⟩ := this
    exact e
  unfold f_X1_hasCall
  refine ok_if (fun c1 => ok_z (Or.inl rfl) ⟨?_, rfl⟩) (fun c1 => ok_gI k0 h3 (ok_if (fun c2 => ok_z (Or.inl rfl) ⟨?_, rfl⟩) (fun c2 => ok_z (Or.inr rfl) ⟨?_, rfl⟩)))
  · rw [if_neg (fun z => Int32.not_le.mpr c1 z.1)]
  · rw [if_neg (fun z => Int32.not_le.mpr c2 z.2)]
  · rw [if_pos ⟨Int32.not_lt.mp c1, Int32.not_lt.mp c2⟩]
theorem cl_first (h : CLI w a c inc en cs gu) : f_X1_first a w = some (nI (fst1 cs), w) := by
  have h' := h
  obtain ⟨⟨⟨k0, -, -, -, -, -, l9, -⟩, -, -, -, -, -, ⟨k6, n6⟩, -⟩, -, -, -, h3, hl, -, -⟩ := h'
  suffices H : ∀ (n j : Nat), cs.length < n + j → j ≤ cs.length → (∀ i r, i < j → cs[i]? = some r → isW r = false) → ok (f_X1_first_2 n a (nI (j + 1)) w) (fun v w' => v = nI (fst1 cs) ∧ w' = w) by
    obtain ⟨v, w', e, rfl, rfl⟩ := H FU 0 (by unfold FU; omega) (by omega) (fun i r hi => by omega)
    exact e
  intro n
  induction n with
  | zero => intro j h1 h2; omega
  | succ n ih =>
    intro j h1 h2 hw
    rw [f_X1_first_2.eq_2]
    refine ok_gI k0 h3 (ok_if (fun c1 => ?_) (fun c1 => ?_))
    · rw [nI_ltI (by omega) (by omega)] at c1
      refine ok_gI k0 h3 (ok_ret ⟨?_, rfl⟩)
      rw [nI_1]
      congr 1
      unfold fst1
      have : cs.findIdx isW = cs.length := List.findIdx_eq_length.mpr (fun r hr => by
        obtain ⟨i, hi⟩ := List.getElem?_of_mem hr
        have := (List.getElem?_eq_some_iff.mp hi).1
        exact hw i r (by omega) hi)
      rw [this]
    · rw [nI_ltI (by omega) (by omega)] at c1
      have hj : j < cs.length := by omega
      refine ok_gR k0 l9 (ok_aI rfl k6 (by omega) (by omega) (h.st hj) (ok_if (fun c2 => ok_ret ⟨?_, rfl⟩) (fun c2 => ?_)))
      · congr 1
        unfold fst1
        have : cs.findIdx isW = j := (List.findIdx_eq hj).mpr ⟨by simp [isW, c2], fun i hi => hw i _ hi (List.getElem?_eq_getElem (by omega))⟩
        rw [this]
      · rw [nI_1]
        refine ih (j + 1) (by omega) (by omega) (fun i r hi hr => ?_)
        by_cases e : i = j
        · subst e
          rw [List.getElem?_eq_getElem hj] at hr
          cases hr
          simp [isW, c2]
        · exact hw i r (by omega) hr
theorem cl_wait (h : CLI w a c inc en cs gu) : f_X1_waiting a w = some (nI (cs.countP isW), w) := by
  have h' := h
  obtain ⟨⟨⟨k0, -, -, -, -, -, l9, -⟩, -, -, -, -, -, ⟨k6, n6⟩, -⟩, -, -, -, h3, hl, -, -⟩ := h'
  suffices H : ∀ (n j : Nat), cs.length < n + j → j ≤ cs.length → ok (f_X1_waiting_4 n a (nI ((cs.take j).countP isW)) (nI (j + 1)) w) (fun v w' => v = nI (cs.countP isW) ∧ w' = w) by
    obtain ⟨v, w', e, rfl, rfl⟩ := H FU 0 (by unfold FU; omega) (by omega)
    exact e
  intro n
  induction n with
  | zero => intro j h1 h2; omega
  | succ n ih =>
    intro j h1 h2
    rw [f_X1_waiting_4.eq_2]
    refine ok_gI k0 h3 (ok_if (fun c1 => ?_) (fun c1 => ?_))
    · rw [nI_ltI (by omega) (by omega)] at c1
      refine ok_ret ⟨?_, rfl⟩
      rw [List.take_of_length_le (by omega)]
    · rw [nI_ltI (by omega) (by omega)] at c1
      have hj : j < cs.length := by omega
      have e1 : cs.take (j + 1) = cs.take j ++ [cs[j]] := by rw [List.take_succ_eq_append_getElem hj]
      have := ih (j + 1) (by omega) (by omega)
      rw [e1, List.countP_append] at this
      refine ok_gR k0 l9 (ok_aI rfl k6 (by omega) (by omega) (h.st hj) (ok_if (fun c2 => ?_) (fun c2 => ?_)))
      · unfold f_X1_waiting_24
        rw [nI_1, nI_1]
        simpa [List.countP_cons, isW, c2] using this
      · unfold f_X1_waiting_24
        rw [nI_1]
        simpa [List.countP_cons, isW, c2] using this
def refC (r : Cal) : Cal := if r.1 = 0 then (2, r.2) else r
theorem cl_refuse (h : CLI w a c inc en cs gu) : ok (f_X1_refuseWaiting a w) (fun _ w' => Bf a w w' ∧ CLI w' a c inc en (cs.map refC) gu) := by
  suffices H : ∀ (n j : Nat) (w : Wd) (L1 L2 : List Cal), L2.length < n → j = L1.length → CLI w a c inc en (L1 ++ L2) gu → ok (f_X1_refuseWaiting_2 n a (nI (j + 1)) w) (fun _ w' => Bf a w w' ∧ CLI w' a c inc en (L1 ++ L2.map refC) gu) by
    have hl := h.2.2.2.2.2.1
    have := H FU 0 w [] cs (by unfold FU; omega) rfl h
    simp only [List.nil_append] at this
    exact this
  intro n
  induction n with
  | zero => intro j w L1 L2 h1; omega
  | succ n ih =>
    intro j w L1 L2 h1 h2 h
    have h' := h
    obtain ⟨hC, g0, g1, g2, h3, hl, hr, hg⟩ := h'
    have hC' := hC
    obtain ⟨⟨k0, -, -, -, -, -, l9, -⟩, -, -, -, -, -, ⟨k6, n6⟩, -⟩ := hC'
    rw [List.length_append] at hl
    rw [f_X1_refuseWaiting_2.eq_2]
    refine ok_gI k0 h3 (ok_if (fun c1 => ?_) (fun c1 => ?_))
    · rw [nI_ltI (by rw [List.length_append]; omega) (by omega), List.length_append] at c1
      have : L2 = [] := List.length_eq_zero_iff.mp (by omega)
      subst this
      exact ok_ret ⟨Bf.rf, h⟩
    · rw [nI_ltI (by rw [List.length_append]; omega) (by omega), List.length_append] at c1
      obtain ⟨r, L2, rfl⟩ : ∃ r q, L2 = r :: q := by
        cases L2 with
        | nil => simp at c1; omega
        | cons r q => exact ⟨r, q, rfl⟩
      have hrj : (L1 ++ r :: L2)[j]? = some r := by
        rw [h2, List.getElem?_append_right (Nat.le_refl _), Nat.sub_self]; rfl
      have er := hr j r hrj
      have hs : wI w (a + 6) (j + 1) = r.1 := by rw [← er]; rfl
      simp at hl h1
      refine ok_gR k0 l9 (ok_aI rfl k6 (by omega) (by omega) hs (ok_if (fun c2 => ?_) (fun c2 => ?_)))
      · refine ok_gR k0 l9 (ok_tI rfl k6 (by omega) (by omega) ?_)
        unfold f_X1_refuseWaiting_26
        rw [nI_1]
        have hf : Bf a w (sI w (a + 6) (j + 1) 2) := Bf.sI (by omega) (by omega)
        have hn : CLI (sI w (a + 6) (j + 1) 2) a c inc en ((L1 ++ [refC r]) ++ L2) gu := by
          refine ⟨hC.f hf, ?_, ?_, ?_, ?_, ?_, fun i q hi => ?_, fun b hb => ?_⟩
          · simp [wI_s]; exact g0
          · simp [wI_s]; exact g1
          · simp [wI_s]; exact g2
          · simp [wI_s]; simpa using h3
          · simp; omega
          · by_cases e : i = j
            · subst e
              rw [List.append_assoc, h2, List.getElem?_append_right (Nat.le_refl _), Nat.sub_self] at hi
              simp at hi
              rw [← hi]
              have e2 : calAt w a (i + 1) = r := er
              simp [refC, c2, ← e2, calAt, wI_s, wL_s, (wsI _ _ _ _).2.2.2.1]
              exact fun z => absurd (hs.trans c2) z
            · have : (L1 ++ r :: L2)[i]? = some q := by
                rw [← hi]
                by_cases e2 : i < j
                · rw [List.getElem?_append_left (by omega), List.append_assoc, List.getElem?_append_left (by omega)]
                · rw [List.append_assoc, List.getElem?_append_right (by omega), List.getElem?_append_right (by omega)]
                  obtain ⟨d, hd⟩ : ∃ d, i - L1.length = d + 1 := ⟨i - L1.length - 1, by omega⟩
                  rw [hd]; rfl
              rw [← hr i q this]
              simp [calAt, wI_s, (wsI _ _ _ _).2.2.2.1, e]
          · simp [wI_s]; exact hg b hb
        refine ok_mono (ih (j + 1) _ (L1 ++ [refC r]) L2 (by omega) (by simp; omega) hn) (fun _ w' h => ⟨hf.tr h.1, ?_⟩)
        simpa using h.2
      · unfold f_X1_refuseWaiting_26
        rw [nI_1]
        have e : refC r = r := by simp [refC, c2]
        refine ok_mono (ih (j + 1) _ (L1 ++ [r]) L2 (by omega) (by simp; omega) (by simpa using h)) (fun _ w' h => ⟨h.1, ?_⟩)
        simpa [e] using h.2
theorem cl_new (h : CLI w a c inc en cs gu) (hl : cs.length < 60) (k t : Int32) (p q : Int64) : ok (f_X1_newCall a k t p q w) (fun v w' => v = nI (cs.length + 1) ∧ Bf a w w' ∧ CLI w' a c inc en (cs ++ [(0, 0, k, t, p, q)]) gu) := by
  obtain ⟨hC, g0, g1, g2, h3, -, hr, hg⟩ := h
  have hC' := hC
  obtain ⟨⟨k0, l4, l5, l6, l7, l8, l9, l10⟩, ⟨k1, n1⟩, ⟨k2, n2⟩, ⟨k3, n3⟩, ⟨k4, n4⟩, ⟨k5, n5⟩, ⟨k6, n6⟩, ⟨k7, n7⟩⟩ := hC
  unfold f_X1_newCall
  have d1 : ∀ (u : Wd) (x y : Nat) (z : Int64), wI (sL u x y z) = wI u := fun _ _ _ _ => rfl
  have d2 : ∀ (u : Wd) (x y : Nat) (z : Int32), wL (sI u x y z) = wL u := fun _ _ _ _ => rfl
  refine ok_gI k0 h3 (ok_t ((nI_ltI (a := cs.length) (b := 60) (by omega) (by omega)).mpr hl) (ok_gI k0 h3 (ok_pI k0 ?_)))
  rw [nI_1]
  refine ok_gR k0 l5 (ok_gI (v := nI (cs.length + 1)) k0 (by simp [wI_s]) (ok_tI rfl k2 (by show _ < wN w (a + 2); omega) (by omega) ?_))
  refine ok_gR k0 l6 (ok_gI (v := nI (cs.length + 1)) k0 (by simp [wI_s]) (ok_tI rfl k3 (by show _ < wN w (a + 3); omega) (by omega) ?_))
  refine ok_gR k0 l7 (ok_gI (v := nI (cs.length + 1)) k0 (by simp [wI_s]) (ok_tL rfl k4 (by show _ < wN w (a + 4); omega) (by omega) ?_))
  refine ok_gR k0 l8 (ok_gI (v := nI (cs.length + 1)) k0 (by simp [wI_s, d1]) (ok_tL rfl k5 (by show _ < wN w (a + 5); omega) (by omega) ?_))
  refine ok_gR k0 l9 (ok_gI (v := nI (cs.length + 1)) k0 (by simp [wI_s, d1]) (ok_tI rfl k6 (by show _ < wN w (a + 6); omega) (by omega) ?_))
  refine ok_gR k0 l10 (ok_gI (v := nI (cs.length + 1)) k0 (by simp [wI_s, d1]) (ok_tL rfl k7 (by show _ < wN w (a + 7); omega) (by omega) ?_))
  refine ok_gI (v := nI (cs.length + 1)) k0 (by simp [wI_s, d1]) (ok_ret ⟨rfl, ?_, ?_⟩)
  · exact ((((((Bf.sI (by omega) (by omega)).tr (Bf.sI (by omega) (by omega))).tr (Bf.sI (by omega) (by omega))).tr (Bf.sL (by omega) (by omega))).tr (Bf.sL (by omega) (by omega))).tr (Bf.sI (by omega) (by omega))).tr (Bf.sL (by omega) (by omega))
  · refine ⟨hC', ?_, ?_, ?_, ?_, ?_, fun i r hi => ?_, fun b hb => ?_⟩
    · simp [wI_s, d1]; exact g0
    · simp [wI_s, d1]; exact g1
    · simp [wI_s, d1]; exact g2
    · simp [wI_s, d1]
    · simp; omega
    · by_cases e : i = cs.length
      · subst e
        rw [List.getElem?_append_right (Nat.le_refl _), Nat.sub_self] at hi
        cases hi
        simp [calAt, wI_s, wL_s, d1, d2]
      · have hil : i < cs.length := by
          have := (List.getElem?_eq_some_iff.mp hi).1
          simp at this; omega
        rw [List.getElem?_append_left hil] at hi
        rw [← hr i r hi]
        simp [calAt, wI_s, wL_s, d1, d2, e]
    · simp [wI_s, d1]; exact hg b hb
end CLS
