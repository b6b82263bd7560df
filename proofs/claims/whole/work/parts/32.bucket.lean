/-! BUCKETS (class Bucket): an object at a, its seven arrays at a + 1 .. a + 7 -/
abbrev Rec : Type := Int32 × Int32 × Int32 × Int64
def isBk (w : Wd) (a : Nat) : Prop := (wK w a = 1 ∧ wR w a 4 = some (a + 1) ∧ wR w a 5 = some (a + 2) ∧ wR w a 6 = some (a + 3) ∧ wR w a 7 = some (a + 4) ∧ wR w a 8 = some (a + 5) ∧ wR w a 9 = some (a + 6) ∧ wR w a 10 = some (a + 7)) ∧ (wK w (a + 1) = 101 ∧ wN w (a + 1) = 4) ∧ (wK w (a + 2) = 100 ∧ wN w (a + 2) = 12) ∧ (wK w (a + 3) = 100 ∧ wN w (a + 3) = 12) ∧ (wK w (a + 4) = 100 ∧ wN w (a + 4) = 12) ∧ (wK w (a + 5) = 101 ∧ wN w (a + 5) = 12) ∧ (wK w (a + 6) = 100 ∧ wN w (a + 6) = 6) ∧ (wK w (a + 7) = 100 ∧ wN w (a + 7) = 6)
def recAt (w : Wd) (a i : Nat) : Rec := (wI w (a + 2) i, wI w (a + 3) i, wI w (a + 4) i, wL w (a + 5) i)
def BK (w : Wd) (a : Nat) (st ve hi : Int32) (va : Nat → Int64) (rs : List Rec) (kn fi : Nat → Int32) : Prop := isBk w a ∧ wI w a 0 = st ∧ wI w a 1 = ve ∧ wI w a 2 = hi ∧ wI w a 3 = nI rs.length ∧ rs.length ≤ 12 ∧ (∀ k, k < 4 → wL w (a + 1) k = va k) ∧ (∀ i r, rs[i]? = some r → recAt w a i = r) ∧ (∀ c, c < 6 → wI w (a + 6) c = kn c) ∧ (∀ c, c < 6 → wI w (a + 7) c = fi c)
/-- only the bucket at a was written -/
def Bf (a : Nat) (w w' : Wd) : Prop := wn w' = wn w ∧ wK w' = wK w ∧ wN w' = wN w ∧ wR w' = wR w ∧ (∀ q, q < a ∨ a + 7 < q → wI w' q = wI w q ∧ wL w' q = wL w q)
theorem Bf.rf {a : Nat} {w : Wd} : Bf a w w := ⟨rfl, rfl, rfl, rfl, fun _ _ => ⟨rfl, rfl⟩⟩
theorem Bf.tr {a : Nat} {w w1 w2 : Wd} (h1 : Bf a w w1) (h2 : Bf a w1 w2) : Bf a w w2 := ⟨h2.1.trans h1.1, h2.2.1.trans h1.2.1, h2.2.2.1.trans h1.2.2.1, h2.2.2.2.1.trans h1.2.2.2.1, fun q hq => ⟨(h2.2.2.2.2 q hq).1.trans (h1.2.2.2.2 q hq).1, (h2.2.2.2.2 q hq).2.trans (h1.2.2.2.2 q hq).2⟩⟩
theorem Bf.sI {a b k : Nat} {v : Int32} {w : Wd} (h : a ≤ b) (h2 : b ≤ a + 7) : Bf a w (sI w b k v) := ⟨rfl, rfl, rfl, rfl, fun q hq => ⟨up2_n _ _ _ (by omega), rfl⟩⟩
theorem Bf.sL {a b k : Nat} {v : Int64} {w : Wd} (h : a ≤ b) (h2 : b ≤ a + 7) : Bf a w (sL w b k v) := ⟨rfl, rfl, rfl, rfl, fun q hq => ⟨rfl, up2_n _ _ _ (by omega)⟩⟩
theorem Bf.rI {a b : Nat} {v : Nat → Int32} {w : Wd} (h : a ≤ b) (h2 : b ≤ a + 7) : Bf a w (rI w b v) := ⟨rfl, rfl, rfl, rfl, fun q hq => ⟨va_up_ne _ _ (by omega), rfl⟩⟩
theorem Bf.rL {a b : Nat} {v : Nat → Int64} {w : Wd} (h : a ≤ b) (h2 : b ≤ a + 7) : Bf a w (rL w b v) := ⟨rfl, rfl, rfl, rfl, fun q hq => ⟨rfl, va_up_ne _ _ (by omega)⟩⟩
theorem isBk.f {a b : Nat} {w w' : Wd} (h : isBk w a) (hb : Bf b w w') : isBk w' a := by
  unfold isBk at h ⊢
  rw [hb.2.1, hb.2.2.1, hb.2.2.2.1]
  exact h
theorem bk_shift {a len : Nat} (hl : len ≤ 12) : ∀ (n j : Nat) (w : Wd), len < n + j → 1 ≤ j → j ≤ len → isBk w a → wI w a 3 = nI len →
    ok (f_X0_removeRecord_17 n a (nI j) w) (fun _ w' => Bf a w w' ∧ (∀ k, k ≠ 3 → wI w' a k = wI w a k) ∧ wI w' a 3 = nI (len - 1) ∧ wL w' (a + 1) = wL w (a + 1) ∧ wI w' (a + 6) = wI w (a + 6) ∧ wI w' (a + 7) = wI w (a + 7) ∧ (∀ i, i < j - 1 → recAt w' a i = recAt w a i) ∧ (∀ i, j - 1 ≤ i → i + 1 < len → recAt w' a i = recAt w a (i + 1))) := by
  intro n
  induction n with
  | zero => intro j w h1 h2 h3; omega
  | succ n ih =>
    intro j w h1 h2 h3 hB s1
    have hB' := hB
    obtain ⟨⟨k0, l4, l5, l6, l7, l8, l9, l10⟩, ⟨k1, n1⟩, ⟨k2, n2⟩, ⟨k3, n3⟩, ⟨k4, n4⟩, ⟨k5, n5⟩, ⟨k6, n6⟩, ⟨k7, n7⟩⟩ := hB
    rw [f_X0_removeRecord_17.eq_2]
    refine ok_gI k0 s1 (ok_if (fun c => ?_) (fun c => ?_))
    · rw [nI_leI (by omega) (by omega)] at c
      refine ok_gI k0 s1 (ok_pI k0 (ok_ret ⟨Bf.sI (Nat.le_refl _) (by omega), fun k hk => ?_, ?_, rfl, ?_, ?_, fun i hi => ?_, fun i h4 h5 => by omega⟩))
      · rw [wI_s, if_neg (fun z => hk z.2)]
      · rw [wI_s, if_pos ⟨rfl, rfl⟩]
        obtain ⟨q, rfl⟩ : ∃ q, len = q + 1 := ⟨len - 1, by omega⟩
        rw [nI_pred]; rfl
      · exact up2_n _ _ _ (by omega)
      · exact up2_n _ _ _ (by omega)
      · simp [recAt, wI_s, (wsI _ _ _ _).2.2.2.1]
    · rw [nI_leI (by omega) (by omega)] at c
      have hj : nI j - 1 = nI (j - 1) := by
        obtain ⟨q, rfl⟩ : ∃ q, j = q + 1 := ⟨j - 1, by omega⟩
        rw [nI_pred]; rfl
      refine ok_gR k0 l5 (ok_gR k0 l5 (ok_aI rfl k2 (by omega) (by omega) rfl (ok_tI hj k2 (by omega) (by omega) ?_)))
      refine ok_gR k0 l6 (ok_gR k0 l6 (ok_aI rfl k3 (by show j < wN w (a + 3); omega) (by omega) rfl (ok_tI hj k3 (by show j - 1 < wN w (a + 3); omega) (by omega) ?_)))
      refine ok_gR k0 l7 (ok_gR k0 l7 (ok_aI rfl k4 (by show j < wN w (a + 4); omega) (by omega) rfl (ok_tI hj k4 (by show j - 1 < wN w (a + 4); omega) (by omega) ?_)))
      refine ok_gR k0 l8 (ok_gR k0 l8 (ok_aL rfl k5 (by show j < wN w (a + 5); omega) (by omega) rfl (ok_tL hj k5 (by show j - 1 < wN w (a + 5); omega) (by omega) ?_)))
      rw [nI_1]
      generalize hw1 : sL (sI (sI (sI w (a + 2) (j - 1) _) (a + 3) (j - 1) _) (a + 4) (j - 1) _) (a + 5) (j - 1) _ = w1
      have hf : Bf a w w1 := by
        rw [← hw1]
        exact (((Bf.sI (by omega) (by omega)).tr (Bf.sI (by omega) (by omega))).tr (Bf.sI (by omega) (by omega))).tr (Bf.sL (by omega) (by omega))
      have g0 : ∀ k, wI w1 a k = wI w a k := by intro k; rw [← hw1]; simp [wI_s, (wsL _ _ _ _).2.2.2.1]
      have g1 : wL w1 (a + 1) = wL w (a + 1) := by rw [← hw1]; funext k; simp [wL_s, (wsI _ _ _ _).2.2.2.1]
      have g6 : wI w1 (a + 6) = wI w (a + 6) := by rw [← hw1]; funext k; simp [wI_s, (wsL _ _ _ _).2.2.2.1]
      have g7 : wI w1 (a + 7) = wI w (a + 7) := by rw [← hw1]; funext k; simp [wI_s, (wsL _ _ _ _).2.2.2.1]
      have gr : ∀ i, recAt w1 a i = if i = j - 1 then recAt w a j else recAt w a i := by
        intro i
        rw [← hw1]
        by_cases hi : i = j - 1 <;> simp [recAt, wI_s, wL_s, (wsL _ _ _ _).2.2.2.1, (wsI _ _ _ _).2.2.2.1, hi]
      clear hw1
      refine ok_mono (ih (j + 1) w1 (by omega) (by omega) (by omega) (hB'.f hf) ((g0 3).trans s1)) (fun _ w' h => ?_)
      obtain ⟨b0, b1, b2, b3, b4, b5, b6, b7⟩ := h
      refine ⟨hf.tr b0, fun k hk => (b1 k hk).trans (g0 k), b2, b3.trans g1, b4.trans g6, b5.trans g7, fun i hi => ?_, fun i h4 h5 => ?_⟩
      · rw [b6 i (by omega), gr, if_neg (by omega)]
      · by_cases hij : i = j - 1
        · rw [b6 i (by omega), gr, if_pos hij]
          congr 1; omega
        · rw [b7 i (by omega) h5, gr, if_neg (by omega)]
theorem bk_rm {w : Wd} {a : Nat} {st ve hi : Int32} {va : Nat → Int64} {rs : List Rec} {kn fi : Nat → Int32} (h : BK w a st ve hi va rs kn fi) {i : Nat} (hi' : i < rs.length) : ok (f_X0_removeRecord a (nI i) w) (fun _ w' => Bf a w w' ∧ BK w' a st ve hi va (rs.eraseIdx i) kn fi) := by
  obtain ⟨hB, h0, h1, h2, h3, hl, hv, hr, hk, hf⟩ := h
  unfold f_X0_removeRecord
  refine ok_f (nI_pos (by omega)) (ok_gI hB.1.1 h3 (ok_t ?_ ?_))
  · rw [nI_ltI (by omega) (by omega)]; exact hi'
  · rw [nI_1]
    refine ok_mono (bk_shift hl FU (i + 1) w (by unfold FU; omega) (by omega) (by omega) hB h3) (fun _ w' h => ?_)
    obtain ⟨b0, b1, b2, b3, b4, b5, b6, b7⟩ := h
    refine ⟨b0, hB.f b0, (b1 0 (by omega)).trans h0, (b1 1 (by omega)).trans h1, (b1 2 (by omega)).trans h2, ?_, ?_, fun k hk => by rw [b3]; exact hv k hk, fun j r hj => ?_, fun c hc => by rw [b4]; exact hk c hc, fun c hc => by rw [b5]; exact hf c hc⟩
    · rw [b2, List.length_eraseIdx_of_lt hi']
    · rw [List.length_eraseIdx_of_lt hi']; omega
    · have hjl : j < rs.length - 1 := by
        have := (List.getElem?_eq_some_iff.mp hj).1
        rwa [List.length_eraseIdx_of_lt hi'] at this
      rw [List.getElem?_eraseIdx] at hj
      by_cases hij : j < i
      · rw [if_pos hij] at hj
        rw [b6 j (by omega)]; exact hr j r hj
      · rw [if_neg hij] at hj
        rw [b7 j (by omega) (by omega)]; exact hr (j + 1) r hj
/-- a record is taken away when its client is c and its number below f -/
def rmP (c f : Int32) (r : Rec) : Bool := !(decide (r.1 = c) && decide (r.2.2.1 < f))
theorem bk_below_loop {a : Nat} {st ve hi : Int32} {va : Nat → Int64} {kn fi : Nat → Int32} (c f : Int32) : ∀ (n : Nat) (L1 L2 : List Rec) (w : Wd), L1.length < n → BK w a st ve hi va (L1 ++ L2) kn fi →
    ok (f_X0_removeRecordsBelow_7 n a c f (nI L1.length - 1) w) (fun _ w' => Bf a w w' ∧ BK w' a st ve hi va (L1.filter (rmP c f) ++ L2) kn fi) := by
  intro n
  induction n with
  | zero => intro L1 L2 w h1; omega
  | succ n ih =>
    intro L1 L2 w h1 hB
    rw [f_X0_removeRecordsBelow_7.eq_2]
    rcases List.eq_nil_or_concat L1 with rfl | ⟨L, r, rfl⟩
    · exact ok_t (by decide) (ok_ret ⟨Bf.rf, hB⟩)
    · have hB0 := hB
      obtain ⟨⟨⟨k0, l4, l5, l6, l7, l8, l9, l10⟩, ⟨k1, n1⟩, ⟨k2, n2⟩, ⟨k3, n3⟩, ⟨k4, n4⟩, -⟩, h0, h1', h2, h3, hl, hv, hr, hk, hf⟩ := hB
      have hlen : (L.concat r).length = L.length + 1 := List.length_concat
      have hll : L.length < 12 := by
        rw [List.length_append, hlen] at hl; omega
      have hrec : recAt w a L.length = r := by
        refine hr L.length r ?_
        rw [List.getElem?_append_left (by rw [hlen]; omega), List.concat_eq_append, List.getElem?_append_right (Nat.le_refl _), Nat.sub_self]
        rfl
      rw [hlen, nI_pred]
      refine ok_f (nI_pos (by omega)) (ok_gR k0 l5 (ok_aI rfl k2 (by omega) (by omega) (v := r.1) (by rw [← hrec]; rfl) ?_))
      have keep : ∀ w', Bf a w w' → BK w' a st ve hi va (L ++ ((if rmP c f r then [r] else []) ++ L2)) kn fi → ok (f_X0_removeRecordsBelow_36 (f_X0_removeRecordsBelow_7 n) a c f (nI L.length) w') (fun _ w' => Bf a w w' ∧ BK w' a st ve hi va ((L.concat r).filter (rmP c f) ++ L2) kn fi) := by
        intro w' hf' hB'
        unfold f_X0_removeRecordsBelow_36
        rw [show nI L.length + (-1) = nI L.length - 1 from by rw [Int32.sub_eq_add_neg]]
        refine ok_mono (ih L _ w' (by rw [hlen] at h1; omega) hB') (fun _ w2 h => ⟨hf'.tr h.1, ?_⟩)
        have e : (L.concat r).filter (rmP c f) ++ L2 = L.filter (rmP c f) ++ ((if rmP c f r then [r] else []) ++ L2) := by
          rw [List.concat_eq_append, List.filter_append, List.append_assoc]
          cases hp : rmP c f r <;> simp [hp]
        rw [e]
        exact h.2
      refine ok_if (fun c1 => ?_) (fun c1 => ?_)
      · refine ok_gR k0 l7 (ok_aI rfl k4 (by omega) (by omega) (v := r.2.2.1) (by rw [← hrec]; rfl) (ok_if (fun c2 => ?_) (fun c2 => ?_)))
        · refine keep w Bf.rf ?_
          have hp : rmP c f r = true := by simp [rmP]; exact Or.inr c2
          rw [hp]
          simpa [List.concat_eq_append] using hB0
        · refine ok_chk k0 (ok_call (bk_rm hB0 (i := L.length) (by rw [List.length_append, hlen]; omega)) (fun _ w1 h => keep w1 h.1 ?_))
          have hp : rmP c f r = false := by
            have : r.2.2.1 < f := by
              rw [← Int32.not_le]; exact c2
            simp [rmP, c1, this]
          have e : ((L.concat r) ++ L2).eraseIdx L.length = L ++ L2 := by
            rw [List.concat_eq_append, List.append_assoc, List.eraseIdx_append_of_length_le (Nat.le_refl _), Nat.sub_self]
            rfl
          have h2 := h.2
          rw [e] at h2
          rw [hp]
          simpa using h2
      · refine keep w Bf.rf ?_
        have hp : rmP c f r = true := by simp [rmP, c1]
        rw [hp]
        simpa [List.concat_eq_append] using hB0
theorem bk_below {w : Wd} {a : Nat} {st ve hi : Int32} {va : Nat → Int64} {rs : List Rec} {kn fi : Nat → Int32} (c f : Int32) (h : BK w a st ve hi va rs kn fi) : ok (f_X0_removeRecordsBelow a c f w) (fun _ w' => Bf a w w' ∧ BK w' a st ve hi va (rs.filter (rmP c f)) kn fi) := by
  unfold f_X0_removeRecordsBelow
  refine ok_gI h.1.1.1 h.2.2.2.2.1 ?_
  have hl := h.2.2.2.2.2.1
  have := bk_below_loop (a := a) (st := st) (ve := ve) (hi := hi) (va := va) (kn := kn) (fi := fi) c f FU rs [] w (by unfold FU; omega) (by rw [List.append_nil]; exact h)
  simpa using this
