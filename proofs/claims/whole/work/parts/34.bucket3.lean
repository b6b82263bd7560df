/-! BUCKETS, III: an act, a copy, emptying, tests -/
section BK3
variable {w : Wd} {a x c : Nat} {st ve hi : Int32} {va : Nat → Int64} {rs : List Rec} {kn fi : Nat → Int32}
/-- an act: the value then, the result -/
def actN (act : Int32) (p q v : Int64) : Int64 := if act = 0 then p else if act = 1 then v + p else if act = 2 then (if v = p then q else v) else v * p
def actR (act : Int32) (p v : Int64) : Int64 := if act = 0 then v else if act = 1 then v + p else if act = 2 then (if v = p then 1 else 0) else v * p
theorem BK.value {k : Nat} {v : Int64} (h : BK w a st ve hi va rs kn fi) : BK (sL w (a + 1) k v) a st ve hi (va_up va k v) rs kn fi := by
  obtain ⟨hB, h0, h1, h2, h3, hl, hv, hr, hk, hf⟩ := h
  refine ⟨hB.f (Bf.sL (a := a) (by omega) (by omega)), h0, h1, h2, h3, hl, fun j hj => ?_, fun i r hi => ?_, hk, hf⟩
  · rw [wL_s]
    by_cases e : j = k
    · rw [if_pos ⟨rfl, e⟩]; simp [va_up, e]
    · rw [if_neg (fun z => e z.2)]; simp [va_up, e]; exact hv j hj
  · rw [← hr i r hi]; simp [recAt, wL_s, (wsL _ _ _ _).2.2.2.1]
theorem BK.same {va' : Nat → Int64} {kn' fi' : Nat → Int32} (h : BK w a st ve hi va rs kn fi) (e1 : ∀ k, k < 4 → va' k = va k) (e2 : ∀ k, k < 6 → kn' k = kn k) (e3 : ∀ k, k < 6 → fi' k = fi k) : BK w a st ve hi va' rs kn' fi' := by
  obtain ⟨hB, h0, h1, h2, h3, hl, hv, hr, hk, hf⟩ := h
  exact ⟨hB, h0, h1, h2, h3, hl, fun k hk => (hv k hk).trans (e1 k hk).symm, hr, fun k hk' => (hk k hk').trans (e2 k hk').symm, fun k hk' => (hf k hk').trans (e3 k hk').symm⟩
theorem lg_cmp_z {p q : Int64} : lg_cmp p q = 0 ↔ p = q := by
  unfold lg_cmp
  by_cases h1 : p = q
  · subst h1; simp
  · have : p < q ∨ q < p := by
      rw [Int64.lt_iff_toInt_lt, Int64.lt_iff_toInt_lt]
      have : p.toInt ≠ q.toInt := fun z => h1 (Int64.toInt_inj.mp z)
      omega
    rcases this with h | h
    · have h2 : ¬ q < p := fun z => Int64.lt_irrefl (Int64.lt_trans h z)
      simp [h1, h, h2]
    · have h2 : ¬ p < q := fun z => Int64.lt_irrefl (Int64.lt_trans h z)
      simp [h1, h, h2]
theorem div8 {k : Nat} (h : k < 2 ^ 31) : nI k / 8 = nI (k / 8) := pk_div h (d := 8) (by omega) (by omega)
theorem bk_act (h : BK w a st ve hi va rs kn fi) (kx : wK w x = 3) {k : Nat} (hk : k < 32) (x9 : wI w x 9 = nI k) : ok (f_X0_doAct a (some x) w) (fun v w' => Bf a w w' ∧ v = actR (wI w x 10) (wL w x 11) (va (k / 8)) ∧ BK w' a st ve hi (va_up va (k / 8) (actN (wI w x 10) (wL w x 11) (wL w x 12) (va (k / 8)))) rs kn fi) := by
  obtain ⟨⟨k0, l4, -⟩, ⟨k1, n1⟩, -⟩ := h.1
  have hv := h.2.2.2.2.2.2.1 (k / 8) (by omega)
  have h4 : nI (k / 8) < 4 := (nI_ltI (a := k / 8) (b := 4) (by omega) (by omega)).mpr (by omega)
  have hlt : k / 8 < 4 := by omega
  unfold f_X0_doAct f_X5_placeOf
  refine ok_gI kx x9 (ok_bnd (ok_ret ?_))
  rw [div8 (by omega)]
  refine ok_f (nI_pos (by omega)) (ok_t h4 (ok_gR k0 l4 (ok_aL rfl k1 (by omega) (by omega) hv (ok_gI kx rfl ?_))))
  refine ok_if (fun c0 => ?_) (fun c0 => ok_if (fun c1 => ?_) (fun c1 => ok_if (fun c2 => ?_) (fun c2 => ?_)))
  · refine ok_gR k0 l4 (ok_gL kx rfl (ok_tL rfl k1 (by omega) (by omega) (ok_ret ⟨Bf.sL (by omega) (by omega), ?_, ?_⟩)))
    · simp [actR, c0]
    · simpa [actN, c0] using h.value (k := k / 8) (v := wL w x 11)
  · refine ok_gR k0 l4 (ok_gL kx rfl (ok_tL rfl k1 (by omega) (by omega) (ok_gR k0 l4 (ok_aL rfl k1 (by show k / 8 < wN w (a + 1); omega) (by omega) (v := va (k / 8) + wL w x 11) (by rw [wL_s, if_pos ⟨rfl, rfl⟩]) (ok_ret ⟨Bf.sL (by omega) (by omega), ?_, ?_⟩)))))
    · simp [actR, c0, c1]
    · simpa [actN, c0, c1] using h.value (k := k / 8) (v := va (k / 8) + wL w x 11)
  · refine ok_gL kx rfl (ok_if (fun c3 => ?_) (fun c3 => ?_))
    · rw [lg_cmp_z] at c3
      refine ok_gR k0 l4 (ok_gL kx rfl (ok_tL rfl k1 (by omega) (by omega) (ok_ret ⟨Bf.sL (by omega) (by omega), ?_, ?_⟩)))
      · simp [actR, c0, c1, c2, c3]
      · simpa [actN, c0, c1, c2, c3] using h.value (k := k / 8) (v := wL w x 12)
    · rw [lg_cmp_z] at c3
      refine ok_ret ⟨Bf.rf, ?_, ?_⟩
      · simp [actR, c0, c1, c2, c3]
      · refine h.same (fun j hj => ?_) (fun _ _ => rfl) (fun _ _ => rfl)
        by_cases e : j = k / 8 <;> simp [va_up, actN, c0, c1, c2, c3, e]
  · refine ok_gR k0 l4 (ok_gL kx rfl (ok_tL rfl k1 (by omega) (by omega) (ok_gR k0 l4 (ok_aL rfl k1 (by show k / 8 < wN w (a + 1); omega) (by omega) (v := va (k / 8) * wL w x 11) (by rw [wL_s, if_pos ⟨rfl, rfl⟩]) (ok_ret ⟨Bf.sL (by omega) (by omega), ?_, ?_⟩)))))
    · simp [actR, c0, c1, c2]
    · simpa [actN, c0, c1, c2] using h.value (k := k / 8) (v := va (k / 8) * wL w x 11)
theorem bk_first (h : BK w a st ve hi va rs kn fi) (hc : c < 6) : f_X0_firstOf a (nI c) w = some (fi c, w) := by
  obtain ⟨⟨k0, -, -, -, -, -, -, l10⟩, -, -, -, -, -, -, ⟨k7, n7⟩⟩ := h.1
  have hf := h.2.2.2.2.2.2.2.2.2 c hc
  suffices ok (f_X0_firstOf a (nI c) w) (fun v w' => v = fi c ∧ w' = w) by
    obtain ⟨v, w', e, rfl, rfl⟩ := this
    exact e
  unfold f_X0_firstOf
  refine ok_f (nI_pos (by omega)) (ok_f ?_ (ok_gR k0 l10 (ok_aI rfl k7 (by omega) (by omega) hf (ok_ret ⟨rfl, rfl⟩))))
  exact fun z => absurd ((nI_leI (a := 6) (b := c) (by omega) (by omega)).mp z) (by omega)
theorem bk_leave (h : BK w a st ve hi va rs kn fi) (t : Int32) : f_X0_canLeaveFor a t w = some (if st = 1 ∨ (st = 2 ∧ hi = t) then 1 else 0, w) := by
  have k0 := h.1.1.1
  obtain ⟨-, h0, h1, h2, -⟩ := h
  suffices ok (f_X0_canLeaveFor a t w) (fun v w' => v = (if st = 1 ∨ (st = 2 ∧ hi = t) then 1 else 0) ∧ w' = w) by
    obtain ⟨v, w', e, rfl, rfl⟩ := this
    exact e
  unfold f_X0_canLeaveFor
  refine ok_gI k0 h0 (ok_if (fun c1 => ok_z (Or.inr rfl) ⟨?_, rfl⟩) (fun c1 => ok_gI k0 h0 (ok_if (fun c2 => ok_gI k0 h2 (ok_if (fun c3 => ok_z (Or.inr rfl) ⟨?_, rfl⟩) (fun c3 => ok_z (Or.inl rfl) ⟨?_, rfl⟩))) (fun c2 => ok_z (Or.inl rfl) ⟨?_, rfl⟩))))
  · simp [c1]
  · simp [c2, c3]
  · simp [c2, c3]
  · simp [c1, c2]
theorem cpy0 {α : Type} (f g : Nat → α) (n j : Nat) : va_cpy f g 0 0 n j = if j < n then f j else g j := by
  unfold va_cpy
  by_cases h : j < n
  · rw [if_pos ⟨Nat.zero_le _, by omega⟩, if_pos h]; congr 1; omega
  · rw [if_neg (by omega), if_neg h]
theorem ok_cpI' {α : Type} {P : α → Wd → Prop} {f : Wd → Option (α × Wd)} {a0 a1 n : Nat} {sp dp m : Int32} (k0 : wK w a0 = 100) (k1 : wK w a1 = 100) (hs : sp = 0) (hd : dp = 0) (hm : m = nI n) (hb : n < 2 ^ 31) (n0 : n ≤ wN w a0) (n1 : n ≤ wN w a1) (h : ∀ w', wn w' = wn w → wK w' = wK w → wN w' = wN w → wL w' = wL w → wR w' = wR w → (∀ q, q ≠ a1 → wI w' q = wI w q) → (∀ j, j < n → wI w' a1 j = wI w a0 j) → ok (f w') P) : ok (cpI w (some a0) sp (some a1) dp m f) P := by
  refine ok_cpI k0 k1 hs hd hm hb n0 n1 (h _ rfl rfl rfl rfl rfl (fun q hq => va_up_ne _ _ hq) (fun j hj => ?_))
  rw [wI_r, if_pos rfl, cpy0, if_pos hj]
theorem ok_cpL' {α : Type} {P : α → Wd → Prop} {f : Wd → Option (α × Wd)} {a0 a1 n : Nat} {sp dp m : Int32} (k0 : wK w a0 = 101) (k1 : wK w a1 = 101) (hs : sp = 0) (hd : dp = 0) (hm : m = nI n) (hb : n < 2 ^ 31) (n0 : n ≤ wN w a0) (n1 : n ≤ wN w a1) (h : ∀ w', wn w' = wn w → wK w' = wK w → wN w' = wN w → wI w' = wI w → wR w' = wR w → (∀ q, q ≠ a1 → wL w' q = wL w q) → (∀ j, j < n → wL w' a1 j = wL w a0 j) → ok (f w') P) : ok (cpL w (some a0) sp (some a1) dp m f) P := by
  refine ok_cpL k0 k1 hs hd hm hb n0 n1 (h _ rfl rfl rfl rfl rfl (fun q hq => va_up_ne _ _ hq) (fun j hj => ?_))
  rw [wL_r, if_pos rfl, cpy0, if_pos hj]
set_option maxHeartbeats 1000000 in
theorem bk_copy {b : Nat} {st' ve' hi' : Int32} {va' : Nat → Int64} {rs' : List Rec} {kn' fi' : Nat → Int32} (hA : isBk w a) (h : BK w b st' ve' hi' va' rs' kn' fi') (hab : b + 7 < a ∨ a + 7 < b) : ok (f_X0_copyFrom a (some b) w) (fun _ w' => Bf a w w' ∧ BK w' a st' ve' hi' va' rs' kn' fi') := by
  have hA' := hA
  obtain ⟨⟨k0, l4, l5, l6, l7, l8, l9, l10⟩, ⟨k1, n1⟩, ⟨k2, n2⟩, ⟨k3, n3⟩, ⟨k4, n4⟩, ⟨k5, n5⟩, ⟨k6, n6⟩, ⟨k7, n7⟩⟩ := hA
  obtain ⟨⟨⟨K0, L4, L5, L6, L7, L8, L9, L10⟩, ⟨K1, N1⟩, ⟨K2, N2⟩, ⟨K3, N3⟩, ⟨K4, N4⟩, ⟨K5, N5⟩, ⟨K6, N6⟩, ⟨K7, N7⟩⟩, h0, h1, h2, h3, hl, hv, hr, hk, hf⟩ := h
  unfold f_X0_copyFrom
  have e4 : (4 : Int32) = nI 4 := rfl
  have e6 : (6 : Int32) = nI 6 := rfl
  refine ok_gI K0 h0 (ok_pI k0 (ok_gI K0 (v := ve') (by rw [wI_s, if_neg (by omega)]; exact h1) (ok_pI k0 (ok_gI K0 (v := hi') (by rw [wI_s, if_neg (by omega), wI_s, if_neg (by omega)]; exact h2) (ok_pI k0 (ok_gI K0 (v := nI rs'.length) (by rw [wI_s, if_neg (by omega), wI_s, if_neg (by omega), wI_s, if_neg (by omega)]; exact h3) (ok_pI k0 ?_)))))))
  generalize hw1 : sI (sI (sI (sI w a 0 st') a 1 ve') a 2 hi') a 3 (nI rs'.length) = w1
  have g0 : wI w1 a 0 = st' ∧ wI w1 a 1 = ve' ∧ wI w1 a 2 = hi' ∧ wI w1 a 3 = nI rs'.length := by
    rw [← hw1]; simp [wI_s]
  have gI : ∀ q, q ≠ a → wI w1 q = wI w q := by
    intro q hq
    rw [← hw1]; funext k; simp [wI_s, hq]
  have gL : wL w1 = wL w := by rw [← hw1]; rfl
  have gn : wn w1 = wn w := by rw [← hw1]; rfl
  have eK : wK w1 = wK w := by rw [← hw1]; rfl
  have eN : wN w1 = wN w := by rw [← hw1]; rfl
  have eR : wR w1 = wR w := by rw [← hw1]; rfl
  clear hw1
  refine ok_gR (by rw [eK]; exact K0) (by rw [eR]; exact L4) (ok_gR (by rw [eK]; exact k0) (by rw [eR]; exact l4) (ok_cpL' (by rw [eK]; exact K1) (by rw [eK]; exact k1) rfl rfl e4 (by omega) (by rw [eN]; omega) (by rw [eN]; omega) (fun w2 A1 A2 A3 A4 A5 A6 A7 => ?_)))
  rw [eK] at A2; rw [eN] at A3; rw [eR] at A5
  refine ok_gR (by rw [A2]; exact K0) (by rw [A5]; exact L5) (ok_gR (by rw [A2]; exact k0) (by rw [A5]; exact l5) (ok_gI (by rw [A2]; exact k0) (v := nI rs'.length) (by rw [A4]; exact g0.2.2.2) (ok_cpI' (by rw [A2]; exact K2) (by rw [A2]; exact k2) rfl rfl rfl (by omega) (by rw [A3]; omega) (by rw [A3]; omega) (fun w3 B1 B2 B3 B4 B5 B6 B7 => ?_))))
  rw [A2] at B2; rw [A3] at B3; rw [A5] at B5
  refine ok_gR (by rw [B2]; exact K0) (by rw [B5]; exact L6) (ok_gR (by rw [B2]; exact k0) (by rw [B5]; exact l6) (ok_gI (by rw [B2]; exact k0) (v := nI rs'.length) (by rw [B6 a (by omega), A4]; exact g0.2.2.2) (ok_cpI' (by rw [B2]; exact K3) (by rw [B2]; exact k3) rfl rfl rfl (by omega) (by rw [B3]; omega) (by rw [B3]; omega) (fun w4 C1 C2 C3 C4 C5 C6 C7 => ?_))))
  rw [B2] at C2; rw [B3] at C3; rw [B5] at C5
  refine ok_gR (by rw [C2]; exact K0) (by rw [C5]; exact L7) (ok_gR (by rw [C2]; exact k0) (by rw [C5]; exact l7) (ok_gI (by rw [C2]; exact k0) (v := nI rs'.length) (by rw [C6 a (by omega), B6 a (by omega), A4]; exact g0.2.2.2) (ok_cpI' (by rw [C2]; exact K4) (by rw [C2]; exact k4) rfl rfl rfl (by omega) (by rw [C3]; omega) (by rw [C3]; omega) (fun w5 D1 D2 D3 D4 D5 D6 D7 => ?_))))
  rw [C2] at D2; rw [C3] at D3; rw [C5] at D5
  refine ok_gR (by rw [D2]; exact K0) (by rw [D5]; exact L8) (ok_gR (by rw [D2]; exact k0) (by rw [D5]; exact l8) (ok_gI (by rw [D2]; exact k0) (v := nI rs'.length) (by rw [D6 a (by omega), C6 a (by omega), B6 a (by omega), A4]; exact g0.2.2.2) (ok_cpL' (by rw [D2]; exact K5) (by rw [D2]; exact k5) rfl rfl rfl (by omega) (by rw [D3]; omega) (by rw [D3]; omega) (fun w6 E1 E2 E3 E4 E5 E6 E7 => ?_))))
  rw [D2] at E2; rw [D3] at E3; rw [D5] at E5
  refine ok_gR (by rw [E2]; exact K0) (by rw [E5]; exact L9) (ok_gR (by rw [E2]; exact k0) (by rw [E5]; exact l9) (ok_cpI' (by rw [E2]; exact K6) (by rw [E2]; exact k6) rfl rfl e6 (by omega) (by rw [E3]; omega) (by rw [E3]; omega) (fun w7 F1 F2 F3 F4 F5 F6 F7 => ?_)))
  rw [E2] at F2; rw [E3] at F3; rw [E5] at F5
  refine ok_gR (by rw [F2]; exact K0) (by rw [F5]; exact L10) (ok_gR (by rw [F2]; exact k0) (by rw [F5]; exact l10) (ok_cpI' (by rw [F2]; exact K7) (by rw [F2]; exact k7) rfl rfl e6 (by omega) (by rw [F3]; omega) (by rw [F3]; omega) (fun w8 G1 G2 G3 G4 G5 G6 G7 => ?_)))
  rw [F2] at G2; rw [F3] at G3; rw [F5] at G5
  have iI : ∀ q, q ≠ a → q ≠ a + 2 → q ≠ a + 3 → q ≠ a + 4 → q ≠ a + 6 → q ≠ a + 7 → wI w8 q = wI w q := by
    intro q q0 q2 q3 q4 q6 q7
    rw [G6 q q7, F6 q q6, E4, D6 q q4, C6 q q3, B6 q q2, A4, gI q q0]
  have iL : ∀ q, q ≠ a + 1 → q ≠ a + 5 → wL w8 q = wL w q := by
    intro q q1 q5
    rw [G4, F4, E6 q q5, D4, C4, B4, A6 q q1, gL]
  have ff : Bf a w w8 := ⟨by rw [G1, F1, E1, D1, C1, B1, A1, gn], G2, G3, G5, fun q hq => ⟨iI q (by omega) (by omega) (by omega) (by omega) (by omega) (by omega), iL q (by omega) (by omega)⟩⟩
  have ia : ∀ k, wI w8 a k = wI w1 a k := by
    intro k
    rw [G6 a (by omega), F6 a (by omega), E4, D6 a (by omega), C6 a (by omega), B6 a (by omega), A4]
  refine ok_ret ⟨ff, hA'.f ff, (ia 0).trans g0.1, (ia 1).trans g0.2.1, (ia 2).trans g0.2.2.1, (ia 3).trans g0.2.2.2, hl, fun k hk' => ?_, fun i r hi => ?_, fun d hd => ?_, fun d hd => ?_⟩
  · rw [G4, F4, E6 (a + 1) (by omega), D4, C4, B4, A7 k hk', gL]; exact hv k hk'
  · have hil : i < rs'.length := (List.getElem?_eq_some_iff.mp hi).1
    rw [← hr i r hi]
    unfold recAt
    have t2 : wI w8 (a + 2) i = wI w (b + 2) i := by
      rw [G6 (a + 2) (by omega), F6 (a + 2) (by omega), E4, D6 (a + 2) (by omega), C6 (a + 2) (by omega), B7 i hil, A4, gI (b + 2) (by omega)]
    have t3 : wI w8 (a + 3) i = wI w (b + 3) i := by
      rw [G6 (a + 3) (by omega), F6 (a + 3) (by omega), E4, D6 (a + 3) (by omega), C7 i hil, B6 (b + 3) (by omega), A4, gI (b + 3) (by omega)]
    have t4 : wI w8 (a + 4) i = wI w (b + 4) i := by
      rw [G6 (a + 4) (by omega), F6 (a + 4) (by omega), E4, D7 i hil, C6 (b + 4) (by omega), B6 (b + 4) (by omega), A4, gI (b + 4) (by omega)]
    have t5 : wL w8 (a + 5) i = wL w (b + 5) i := by
      rw [G4, F4, E7 i hil, D4, C4, B4, A6 (b + 5) (by omega), gL]
    rw [t2, t3, t4, t5]
  · rw [G6 (a + 6) (by omega), F7 d hd, E4, D6 (b + 6) (by omega), C6 (b + 6) (by omega), B6 (b + 6) (by omega), A4, gI (b + 6) (by omega)]
    exact hk d hd
  · rw [G7 d hd, F6 (b + 7) (by omega), E4, D6 (b + 7) (by omega), C6 (b + 7) (by omega), B6 (b + 7) (by omega), A4, gI (b + 7) (by omega)]
    exact hf d hd
theorem fillI {v : Int32} {N : Nat} (hN : N ≤ 1000) : ∀ (n j : Nat) (w : Wd), N < n + j → j ≤ N → wK w a = 100 → wN w a = N → ok (f_J7_fill_53178_5 n (some a) v (nI j) (nI N) w) (fun _ w' => wn w' = wn w ∧ wK w' = wK w ∧ wN w' = wN w ∧ wL w' = wL w ∧ wR w' = wR w ∧ (∀ q, q ≠ a → wI w' q = wI w q) ∧ (∀ i, i < N → wI w' a i = if j ≤ i then v else wI w a i)) := by
  intro n
  induction n with
  | zero => intro j w h1 h2; omega
  | succ n ih =>
    intro j w h1 h2 hk hn
    rw [f_J7_fill_53178_5.eq_2]
    refine ok_if (fun c => ?_) (fun c => ?_)
    · rw [nI_leI (by omega) (by omega)] at c
      exact ok_ret ⟨rfl, rfl, rfl, rfl, rfl, fun _ _ => rfl, fun i hi => by rw [if_neg (by omega)]⟩
    · rw [nI_leI (by omega) (by omega)] at c
      refine ok_tI rfl hk (by omega) (by omega) ?_
      rw [nI_1]
      refine ok_mono (ih (j + 1) _ (by omega) (by omega) hk hn) (fun _ w' h => ⟨h.1, h.2.1, h.2.2.1, h.2.2.2.1, h.2.2.2.2.1, fun q hq => (h.2.2.2.2.2.1 q hq).trans (up2_n _ _ _ hq), fun i hi => ?_⟩)
      rw [h.2.2.2.2.2.2 i hi, wI_s]
      by_cases e : i = j
      · rw [if_neg (by omega), if_pos ⟨rfl, e⟩, if_pos (by omega)]
      · by_cases e2 : j ≤ i
        · rw [if_pos (by omega), if_pos e2]
        · rw [if_neg (by omega), if_neg (by omega), if_neg e2]
theorem fillL {v : Int64} {N : Nat} (hN : N ≤ 1000) : ∀ (n j : Nat) (w : Wd), N < n + j → j ≤ N → wK w a = 101 → wN w a = N → ok (f_J7_fill_d0a16_6 n (some a) v (nI j) (nI N) w) (fun _ w' => wn w' = wn w ∧ wK w' = wK w ∧ wN w' = wN w ∧ wI w' = wI w ∧ wR w' = wR w ∧ (∀ q, q ≠ a → wL w' q = wL w q) ∧ (∀ i, i < N → wL w' a i = if j ≤ i then v else wL w a i)) := by
  intro n
  induction n with
  | zero => intro j w h1 h2; omega
  | succ n ih =>
    intro j w h1 h2 hk hn
    rw [f_J7_fill_d0a16_6.eq_2]
    refine ok_if (fun c => ?_) (fun c => ?_)
    · rw [nI_leI (by omega) (by omega)] at c
      exact ok_ret ⟨rfl, rfl, rfl, rfl, rfl, fun _ _ => rfl, fun i hi => by rw [if_neg (by omega)]⟩
    · rw [nI_leI (by omega) (by omega)] at c
      refine ok_tL rfl hk (by omega) (by omega) ?_
      rw [nI_1]
      refine ok_mono (ih (j + 1) _ (by omega) (by omega) hk hn) (fun _ w' h => ⟨h.1, h.2.1, h.2.2.1, h.2.2.2.1, h.2.2.2.2.1, fun q hq => (h.2.2.2.2.2.1 q hq).trans (up2_n _ _ _ hq), fun i hi => ?_⟩)
      rw [h.2.2.2.2.2.2 i hi, wL_s]
      by_cases e : i = j
      · rw [if_neg (by omega), if_pos ⟨rfl, e⟩, if_pos (by omega)]
      · by_cases e2 : j ≤ i
        · rw [if_pos (by omega), if_pos e2]
        · rw [if_neg (by omega), if_neg (by omega), if_neg e2]
theorem bk_empty (h : BK w a st ve hi va rs kn fi) : ok (f_X0_empty a w) (fun _ w' => Bf a w w' ∧ BK w' a st ve hi (fun _ => 0) [] (fun _ => 0) (fun _ => 0)) := by
  obtain ⟨hA, h0, h1, h2, h3, hl, hv, hr, hk, hf⟩ := h
  have hA' := hA
  obtain ⟨⟨k0, l4, l5, l6, l7, l8, l9, l10⟩, ⟨k1, n1⟩, ⟨k2, n2⟩, ⟨k3, n3⟩, ⟨k4, n4⟩, ⟨k5, n5⟩, ⟨k6, n6⟩, ⟨k7, n7⟩⟩ := hA
  unfold f_X0_empty f_J7_fill_d0a16 f_J7_fill_53178
  refine ok_pI k0 (ok_gR k0 l4 (ok_bnd (ok_gN k1 (v := nI 4) (by show nI (wN w (a + 1)) = _; rw [n1]) (ok_mono (fillL (a := a + 1) (N := 4) (by omega) FU 0 _ (by unfold FU; omega) (by omega) k1 n1) (fun _ w1 ⟨A1, A2, A3, A4, A5, A6, A7⟩ => ?_)))))
  refine ok_gR (by rw [A2]; exact k0) (by rw [A5]; exact l9) (ok_bnd (ok_gN (by rw [A2]; exact k6) (v := nI 6) (by rw [A3]; show nI (wN w (a + 6)) = _; rw [n6]) (ok_mono (fillI (a := a + 6) (N := 6) (by omega) FU 0 _ (by unfold FU; omega) (by omega) (by rw [A2]; exact k6) (by rw [A3]; exact n6)) (fun _ w2 ⟨B1, B2, B3, B4, B5, B6, B7⟩ => ?_))))
  refine ok_gR (by rw [B2, A2]; exact k0) (by rw [B5, A5]; exact l10) (ok_bnd (ok_gN (by rw [B2, A2]; exact k7) (v := nI 6) (by rw [B3, A3]; show nI (wN w (a + 7)) = _; rw [n7]) (ok_mono (fillI (a := a + 7) (N := 6) (by omega) FU 0 _ (by unfold FU; omega) (by omega) (by rw [B2, A2]; exact k7) (by rw [B3, A3]; exact n7)) (fun _ w3 ⟨C1, C2, C3, C4, C5, C6, C7⟩ => ?_))))
  have ff : Bf a w w3 := ⟨by rw [C1, B1, A1]; rfl, by rw [C2, B2, A2]; rfl, by rw [C3, B3, A3]; rfl, by rw [C5, B5, A5]; rfl, fun q hq => ⟨by rw [C6 q (by omega), B6 q (by omega), A4]; exact up2_n _ _ _ (by omega), by rw [C4, B4, A6 q (by omega)]; rfl⟩⟩
  have ia : ∀ k, wI w3 a k = if k = 3 then 0 else wI w a k := by
    intro k
    rw [C6 a (by omega), B6 a (by omega), A4, wI_s]
    simp
  refine ok_ret ⟨ff, hA'.f ff, ?_, ?_, ?_, ?_, by simp, fun k hk' => ?_, fun i r hi => by simp at hi, fun d hd => ?_, fun d hd => ?_⟩
  · rw [ia]; simp [h0]
  · rw [ia]; simp [h1]
  · rw [ia]; simp [h2]
  · rw [ia]; exact nI_0.symm
  · rw [C4, B4, A7 k hk', if_pos (Nat.zero_le _)]
  · rw [C6 (a + 6) (by omega), B7 d hd, if_pos (Nat.zero_le _)]
  · rw [C7 d hd, if_pos (Nat.zero_le _)]
end BK3
