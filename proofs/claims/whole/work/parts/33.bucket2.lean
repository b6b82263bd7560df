/-! BUCKETS, II: KNOWN, a record found, added, an act, copies -/
section BK2
variable {w : Wd} {a x c : Nat} {st ve hi : Int32} {va : Nat → Int64} {rs : List Rec} {kn fi : Nat → Int32}
def knR (rs : List Rec) (kn fi : Nat → Int32) (c : Nat) (i f : Int32) : List Rec := if kn c < i then rs.filter (rmP (nI c) 2147483647) else if i = kn c ∧ fi c < f then rs.filter (rmP (nI c) f) else rs
def knK (kn : Nat → Int32) (c : Nat) (i : Int32) : Nat → Int32 := if kn c < i then va_up kn c i else kn
def knF (kn fi : Nat → Int32) (c : Nat) (i f : Int32) : Nat → Int32 := if kn c < i then va_up fi c f else if i = kn c ∧ fi c < f then va_up fi c f else fi
def knB (kn fi : Nat → Int32) (c : Nat) (i f : Int32) : Int32 := if kn c < i then 1 else if i = kn c ∧ fi c < f then 1 else 0
theorem lt6 (h : c < 6) : nI c < 6 := (nI_ltI (a := c) (b := 6) (by omega) (by omega)).mpr h
theorem Bf.oI {w' : Wd} (h : Bf a w w') (hx : x < a ∨ a + 7 < x) (k : Nat) : wI w' x k = wI w x k := congrFun (h.2.2.2.2 x hx).1 k
theorem Bf.oL {w' : Wd} (h : Bf a w w') (hx : x < a ∨ a + 7 < x) (k : Nat) : wL w' x k = wL w x k := congrFun (h.2.2.2.2 x hx).2 k
theorem BK.firsts {v : Int32} (h : BK w a st ve hi va rs kn fi) : BK (sI w (a + 7) c v) a st ve hi va rs kn (va_up fi c v) := by
  obtain ⟨hB, h0, h1, h2, h3, hl, hv, hr, hk, hf⟩ := h
  refine ⟨hB.f (Bf.sI (a := a) (by omega) (by omega)), ?_, ?_, ?_, ?_, hl, hv, fun i r hi => ?_, fun d hd => ?_, fun d hd => ?_⟩
  · rw [wI_s, if_neg (by omega)]; exact h0
  · rw [wI_s, if_neg (by omega)]; exact h1
  · rw [wI_s, if_neg (by omega)]; exact h2
  · rw [wI_s, if_neg (by omega)]; exact h3
  · rw [← hr i r hi]; simp [recAt, wI_s, (wsI _ _ _ _).2.2.2.1]
  · rw [wI_s, if_neg (by omega)]; exact hk d hd
  · rw [wI_s]
    by_cases e : d = c
    · rw [if_pos ⟨rfl, e⟩]; simp [va_up, e]
    · rw [if_neg (fun z => e z.2)]; simp [va_up, e]; exact hf d hd
theorem BK.known {v : Int32} (h : BK w a st ve hi va rs kn fi) : BK (sI w (a + 6) c v) a st ve hi va rs (va_up kn c v) fi := by
  obtain ⟨hB, h0, h1, h2, h3, hl, hv, hr, hk, hf⟩ := h
  refine ⟨hB.f (Bf.sI (a := a) (by omega) (by omega)), ?_, ?_, ?_, ?_, hl, hv, fun i r hi => ?_, fun d hd => ?_, fun d hd => ?_⟩
  · rw [wI_s, if_neg (by omega)]; exact h0
  · rw [wI_s, if_neg (by omega)]; exact h1
  · rw [wI_s, if_neg (by omega)]; exact h2
  · rw [wI_s, if_neg (by omega)]; exact h3
  · rw [← hr i r hi]; simp [recAt, wI_s, (wsI _ _ _ _).2.2.2.1]
  · rw [wI_s]
    by_cases e : d = c
    · rw [if_pos ⟨rfl, e⟩]; simp [va_up, e]
    · rw [if_neg (fun z => e z.2)]; simp [va_up, e]; exact hk d hd
  · rw [wI_s, if_neg (by omega)]; exact hf d hd
theorem bk_know (h : BK w a st ve hi va rs kn fi) (hc : c < 6) (kx : wK w x = 3) (hx : x < a ∨ a + 7 < x) (x2 : wI w x 2 = nI c) : ok (f_X0_know a (some x) w) (fun v w' => Bf a w w' ∧ v = knB kn fi c (wI w x 3) (wI w x 6) ∧ BK w' a st ve hi va (knR rs kn fi c (wI w x 3) (wI w x 6)) (knK kn c (wI w x 3)) (knF kn fi c (wI w x 3) (wI w x 6))) := by
  obtain ⟨⟨k0, l4, l5, l6, l7, l8, l9, l10⟩, ⟨k1, n1⟩, ⟨k2, n2⟩, ⟨k3, n3⟩, ⟨k4, n4⟩, ⟨k5, n5⟩, ⟨k6, n6⟩, ⟨k7, n7⟩⟩ := h.1
  have hk := h.2.2.2.2.2.2.2.2.1
  have hf := h.2.2.2.2.2.2.2.2.2
  unfold f_X0_know
  refine ok_gI kx x2 (ok_f (nI_pos (by omega)) (ok_t (lt6 hc) (ok_gI kx rfl (ok_gR k0 l9 (ok_aI rfl k6 (by omega) (by omega) (hk c hc) (ok_if (fun c1 => ?_) (fun c1 => ?_)))))))
  · have c1' : ¬ kn c < wI w x 3 := by rw [Int32.not_lt]; exact c1
    refine ok_gI kx rfl (ok_gR k0 l9 (ok_aI rfl k6 (by omega) (by omega) (hk c hc) (ok_if (fun c2 => ?_) (fun c2 => ?_))))
    · refine ok_gI kx rfl (ok_gR k0 l10 (ok_aI rfl k7 (by omega) (by omega) (hf c hc) (ok_if (fun c3 => ?_) (fun c3 => ?_))))
      · have c3' : ¬ fi c < wI w x 6 := by rw [Int32.not_lt]; exact c3
        refine ok_z (Or.inl rfl) ⟨Bf.rf, ?_, ?_⟩
        · simp [knB, c1', c3']
        · simpa [knR, knK, knF, c1', c3'] using h
      · have c3' : fi c < wI w x 6 := by rw [← Int32.not_le]; exact c3
        refine ok_gI kx rfl (ok_chk k0 (ok_call (bk_below (nI c) (wI w x 6) h) (fun _ w1 h1 => ?_)))
        obtain ⟨f1, b1⟩ := h1
        have kx1 : wK w1 x = 3 := by rw [f1.2.1]; exact kx
        obtain ⟨⟨k0', -, -, -, -, -, -, l10'⟩, -, -, -, -, -, -, ⟨k7', n7'⟩⟩ := b1.1
        refine ok_gR k0' l10' (ok_gI kx1 (f1.oI hx 6) (ok_tI rfl k7' (by omega) (by omega) (ok_z (Or.inr rfl) ⟨f1.tr (Bf.sI (by omega) (by omega)), ?_, ?_⟩)))
        · simp [knB, c1', c2, c3']
        · have e := b1.firsts (c := c) (v := wI w x 6)
          simpa [knR, knK, knF, c1', c2, c3'] using e
    · refine ok_z (Or.inl rfl) ⟨Bf.rf, ?_, ?_⟩
      · simp [knB, c1', c2]
      · simpa [knR, knK, knF, c1', c2] using h
  · have c1' : kn c < wI w x 3 := by rw [← Int32.not_le]; exact c1
    refine ok_chk k0 (ok_call (bk_below (nI c) 2147483647 h) (fun _ w1 h1 => ?_))
    obtain ⟨f1, b1⟩ := h1
    have kx1 : wK w1 x = 3 := by rw [f1.2.1]; exact kx
    obtain ⟨⟨k0', -, -, -, -, -, l9', l10'⟩, -, -, -, -, -, ⟨k6', n6'⟩, ⟨k7', n7'⟩⟩ := b1.1
    refine ok_gR k0' l9' (ok_gI kx1 (f1.oI hx 3) (ok_tI rfl k6' (by omega) (by omega) (ok_gR k0' l10' (ok_gI kx1 (v := wI w x 6) ?_ (ok_tI rfl k7' (by show c < wN w1 (a + 7); omega) (by omega) (ok_z (Or.inr rfl) ⟨(f1.tr (Bf.sI (by omega) (by omega))).tr (Bf.sI (by omega) (by omega)), ?_, ?_⟩))))))
    · rw [wI_s, if_neg (by omega)]; exact f1.oI hx 6
    · simp [knB, c1']
    · have e := (b1.known (c := c) (v := wI w x 3)).firsts (c := c) (v := wI w x 6)
      simpa [knR, knK, knF, c1'] using e
def recIs (c i n : Int32) (r : Rec) : Prop := r.1 = c ∧ r.2.1 = i ∧ r.2.2.1 = n
theorem bk_find_loop (h : BK w a st ve hi va rs kn fi) (kx : wK w x = 3) : ∀ (n j : Nat), rs.length < n + j → j ≤ rs.length → (∀ k r, k < j → rs[k]? = some r → ¬ recIs (wI w x 2) (wI w x 3) (wI w x 5) r) →
    ok (f_X0_find_2 n a (some x) (nI j) w) (fun v w' => w' = w ∧ ((∃ k r, rs[k]? = some r ∧ recIs (wI w x 2) (wI w x 3) (wI w x 5) r ∧ (∀ q s, q < k → rs[q]? = some s → ¬ recIs (wI w x 2) (wI w x 3) (wI w x 5) s) ∧ v = nI k) ∨ ((∀ r, r ∈ rs → ¬ recIs (wI w x 2) (wI w x 3) (wI w x 5) r) ∧ v = -1))) := by
  obtain ⟨⟨⟨k0, l4, l5, l6, l7, l8, l9, l10⟩, ⟨k1, n1⟩, ⟨k2, n2⟩, ⟨k3, n3⟩, ⟨k4, n4⟩, -⟩, h0, h1, h2, h3, hl, hv, hr, hk, hf⟩ := h
  intro n
  induction n with
  | zero => intro j g1 g2; omega
  | succ n ih =>
    intro j g1 g2 g3
    rw [f_X0_find_2.eq_2]
    refine ok_gI k0 h3 (ok_if (fun c1 => ?_) (fun c1 => ?_))
    · rw [nI_leI (by omega) (by omega)] at c1
      refine ok_ret ⟨rfl, Or.inr ⟨fun r hr' => ?_, rfl⟩⟩
      obtain ⟨q, hq⟩ := List.getElem?_of_mem hr'
      exact g3 q r (by have := (List.getElem?_eq_some_iff.mp hq).1; omega) hq
    · rw [nI_leI (by omega) (by omega)] at c1
      have hj : j < rs.length := by omega
      have hrj := hr j _ (List.getElem?_eq_getElem hj)
      have step : ¬ recIs (wI w x 2) (wI w x 3) (wI w x 5) rs[j] → ok (f_X0_find_51 (f_X0_find_2 n) a (some x) (nI j) w) (fun v w' => w' = w ∧ ((∃ k r, rs[k]? = some r ∧ recIs (wI w x 2) (wI w x 3) (wI w x 5) r ∧ (∀ q s, q < k → rs[q]? = some s → ¬ recIs (wI w x 2) (wI w x 3) (wI w x 5) s) ∧ v = nI k) ∨ ((∀ r, r ∈ rs → ¬ recIs (wI w x 2) (wI w x 3) (wI w x 5) r) ∧ v = -1))) := by
        intro hn
        unfold f_X0_find_51
        rw [nI_1]
        refine ih (j + 1) (by omega) (by omega) (fun k r hk' hr' => ?_)
        by_cases e : k = j
        · subst e
          rw [List.getElem?_eq_getElem hj] at hr'
          cases hr'
          exact hn
        · exact g3 k r (by omega) hr'
      have e1 : wI w (a + 2) j = rs[j].1 := by rw [← hrj]; rfl
      have e2 : wI w (a + 3) j = rs[j].2.1 := by rw [← hrj]; rfl
      have e3 : wI w (a + 4) j = rs[j].2.2.1 := by rw [← hrj]; rfl
      refine ok_gR k0 l5 (ok_aI rfl k2 (by omega) (by omega) e1 (ok_gI kx rfl (ok_if (fun c2 => ?_) (fun c2 => step (fun z => c2 z.1)))))
      refine ok_gR k0 l6 (ok_aI rfl k3 (by omega) (by omega) e2 (ok_gI kx rfl (ok_if (fun c3 => ?_) (fun c3 => step (fun z => c3 z.2.1)))))
      refine ok_gR k0 l7 (ok_aI rfl k4 (by omega) (by omega) e3 (ok_gI kx rfl (ok_if (fun c4 => ?_) (fun c4 => step (fun z => c4 z.2.2)))))
      exact ok_ret ⟨rfl, Or.inl ⟨j, _, List.getElem?_eq_getElem hj, ⟨c2, c3, c4⟩, fun q s hq hs => g3 q s hq hs, rfl⟩⟩
theorem bk_find (h : BK w a st ve hi va rs kn fi) (kx : wK w x = 3) : ok (f_X0_find a (some x) w) (fun v w' => w' = w ∧ ((∃ k r, rs[k]? = some r ∧ recIs (wI w x 2) (wI w x 3) (wI w x 5) r ∧ (∀ q s, q < k → rs[q]? = some s → ¬ recIs (wI w x 2) (wI w x 3) (wI w x 5) s) ∧ v = nI k) ∨ ((∀ r, r ∈ rs → ¬ recIs (wI w x 2) (wI w x 3) (wI w x 5) r) ∧ v = -1))) := by
  unfold f_X0_find
  have := h.2.2.2.2.2.1
  exact bk_find_loop h kx FU 0 (by unfold FU; omega) (by omega) (fun k r hk => by omega)
theorem bk_add (h : BK w a st ve hi va rs kn fi) (kx : wK w x = 3) (hx : x < a ∨ a + 7 < x) (hl : rs.length < 12) (v : Int64) : ok (f_X0_addRecord a (some x) v w) (fun _ w' => Bf a w w' ∧ BK w' a st ve hi va (rs ++ [(wI w x 2, wI w x 3, wI w x 5, v)]) kn fi) := by
  obtain ⟨hB, h0, h1, h2, h3, -, hv, hr, hk, hf⟩ := h
  have hB' := hB
  obtain ⟨⟨k0, l4, l5, l6, l7, l8, l9, l10⟩, ⟨k1, n1⟩, ⟨k2, n2⟩, ⟨k3, n3⟩, ⟨k4, n4⟩, ⟨k5, n5⟩, -⟩ := hB
  unfold f_X0_addRecord
  have b3 : ∀ (w1 : Wd), Bf a w w1 → wI w1 a = wI w a → wI w1 a 3 = nI rs.length := fun w1 _ e => by rw [e]; exact h3
  refine ok_gI k0 h3 (ok_t ((nI_ltI (a := rs.length) (b := 12) (by omega) (by omega)).mpr hl) ?_)
  refine ok_gR k0 l5 (ok_gI k0 h3 (ok_gI kx rfl (ok_tI rfl k2 (by omega) (by omega) ?_)))
  refine ok_gR k0 l6 (ok_gI (v := nI rs.length) k0 (by simp [wI_s]; exact h3) (ok_gI (v := wI w x 3) kx (by rw [wI_s, if_neg (by omega)]) (ok_tI rfl k3 (by show rs.length < wN w (a + 3); omega) (by omega) ?_)))
  refine ok_gR k0 l7 (ok_gI (v := nI rs.length) k0 (by simp [wI_s]; exact h3) (ok_gI (v := wI w x 5) kx (by rw [wI_s, if_neg (by omega), wI_s, if_neg (by omega)]) (ok_tI rfl k4 (by show rs.length < wN w (a + 4); omega) (by omega) ?_)))
  refine ok_gR k0 l8 (ok_gI (v := nI rs.length) k0 (by simp [wI_s]; exact h3) (ok_tL rfl k5 (by show rs.length < wN w (a + 5); omega) (by omega) ?_))
  refine ok_gI (v := nI rs.length) k0 (by simp [wI_s, (wsL _ _ _ _).2.2.2.1]; exact h3) (ok_pI k0 (ok_ret ⟨?_, ?_⟩))
  · exact ((((Bf.sI (by omega) (by omega)).tr (Bf.sI (by omega) (by omega))).tr (Bf.sI (by omega) (by omega))).tr (Bf.sL (by omega) (by omega))).tr (Bf.sI (by omega) (by omega))
  · refine ⟨hB', ?_, ?_, ?_, ?_, ?_, fun k hk' => ?_, fun i r hi => ?_, fun d hd => ?_, fun d hd => ?_⟩
    · simp [wI_s, (wsL _ _ _ _).2.2.2.1]; exact h0
    · simp [wI_s, (wsL _ _ _ _).2.2.2.1]; exact h1
    · simp [wI_s, (wsL _ _ _ _).2.2.2.1]; exact h2
    · rw [wI_s, if_pos ⟨rfl, rfl⟩, nI_1, List.length_append]; rfl
    · rw [List.length_append]; exact hl
    · simp [wL_s, (wsI _ _ _ _).2.2.2.1]; exact hv k hk'
    · by_cases e : i = rs.length
      · subst e
        rw [List.getElem?_append_right (Nat.le_refl _), Nat.sub_self] at hi
        cases hi
        simp [recAt, wI_s, wL_s, (wsL _ _ _ _).2.2.2.1, (wsI _ _ _ _).2.2.2.1]
      · have hil : i < rs.length := by
          have := (List.getElem?_eq_some_iff.mp hi).1
          rw [List.length_append] at this
          simp at this; omega
        rw [List.getElem?_append_left hil] at hi
        rw [← hr i r hi]
        simp [recAt, wI_s, wL_s, (wsL _ _ _ _).2.2.2.1, (wsI _ _ _ _).2.2.2.1, e]
    · simp [wI_s, (wsL _ _ _ _).2.2.2.1]; exact hk d hd
    · simp [wI_s, (wsL _ _ _ _).2.2.2.1]; exact hf d hd
end BK2
