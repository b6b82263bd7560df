/-! CALLS THAT ASK OF A CLIENT, AND RENEW -/
section RD
variable {w : Wd} {o m S : Nat} {le : Int32} {sc : Nat → Int32} {cl : Nat → ClD} {mem kept : Nat → Nat → BkD} {up cn dy : Nat → Bool} {row : List Ltr} {held : Nat → List Ltr} {fl : List (Nat × Ltr)}
/-- live, as the reference sees it -/
def LivM (cl : Nat → ClD) (t i : Int32) (j : Nat) : Prop := ∃ e, e < j ∧ 0 < i ∧ (cl e).1 = i ∧ ¬ (cl e).2.1 < t
theorem m_live (h : RMF w m S le sc cl mem kept up dy row held fl) (i : Int32) [hd : Decidable (LivM cl (sc 0) i 6)] : f_X6_isLive m i w = some (if LivM cl (sc 0) i 6 then 1 else 0, w) := by
  obtain ⟨hM, -, -, i2, -⟩ := h.1
  obtain ⟨r7, k7, n7⟩ := M_incarnation hM
  obtain ⟨r8, k8, n8⟩ := M_ends hM
  have k0 := hM.1
  refine ok_eq ?_
  suffices H : ∀ (n j : Nat) (x : Int32), 6 < n + j → j ≤ 6 → (x = 0 ∨ x = 1) → (x = 1 ↔ LivM cl (sc 0) i j) → ok (f_X6_isLive_4 n m i x (nI j) w) (fun v w' => v = (if LivM cl (sc 0) i 6 then 1 else 0) ∧ w' = w) from H FU 0 0 (by unfold FU; omega) (by omega) (Or.inl rfl) ⟨fun z => absurd z (by decide), fun ⟨e, he, _⟩ => by omega⟩
  intro n
  induction n with
  | zero => intro j x h1 h2; omega
  | succ n ih =>
    intro j x h1 h2 hx hL
    rw [f_X6_isLive_4.eq_2]
    refine ok_if (fun c1 => ?_) (fun c1 => ?_)
    · rw [show (6 : Int32) = nI 6 from rfl, nI_leI (by omega) (by omega)] at c1
      have hj : j = 6 := by omega
      subst hj
      refine ok_z hx ⟨?_, rfl⟩
      rcases hx with rfl | rfl
      · rw [if_neg (fun z => absurd (hL.mpr z) (by decide))]
      · rw [if_pos (hL.mp rfl)]
    · rw [show (6 : Int32) = nI 6 from rfl, nI_leI (by omega) (by omega)] at c1
      obtain ⟨a1, a2, -⟩ := h.2.1 j (by omega)
      have no : ¬ (0 < i ∧ (cl j).1 = i ∧ ¬ (cl j).2.1 < sc 0) → ok (f_X6_isLive_42 (f_X6_isLive_4 n) m i (nI j) x w) (fun v w' => v = (if LivM cl (sc 0) i 6 then 1 else 0) ∧ w' = w) := by
        intro hn
        unfold f_X6_isLive_42 f_X6_isLive_43
        rw [nI_1]
        refine ih (j + 1) _ (by omega) (by omega) ?_ ?_
        · rcases hx with rfl | rfl
          · exact Or.inl (by decide)
          · exact Or.inr (by decide)
        · have e1 : (x ||| 0 = 1) ↔ x = 1 := by
            rcases hx with rfl | rfl <;> decide
          rw [e1, hL]
          refine ⟨fun ⟨e, u1, u2⟩ => ⟨e, by omega, u2⟩, fun ⟨e, u1, u2⟩ => ?_⟩
          by_cases ej : e = j
          · subst ej; exact absurd u2 hn
          · exact ⟨e, by omega, u2⟩
      refine ok_if (fun c2 => no (fun z => absurd z.1 (Int32.not_lt.mpr c2))) (fun c2 => ok_gR k0 r7 (ok_aI rfl k7 (by omega) (by omega) a1 (ok_if (fun c3 => ok_gI k0 i2 (ok_gR k0 r8 (ok_aI rfl k8 (by omega) (by omega) a2 (ok_if (fun c4 => no (fun z => z.2.2 c4)) (fun c4 => ?_))))) (fun c3 => no (fun z => c3 z.2.1)))))
      unfold f_X6_isLive_43
      rw [nI_1]
      refine ih (j + 1) _ (by omega) (by omega) ?_ ?_
      · rcases hx with rfl | rfl
        · exact Or.inr (by decide)
        · exact Or.inr (by decide)
      · have e1 : (x ||| 1 = 1) := by
          rcases hx with rfl | rfl <;> decide
        exact ⟨fun _ => ⟨j, by omega, Int32.not_le.mp c2, c3, c4⟩, fun _ => e1⟩
theorem nI_pos1 {j : Nat} (h1 : 1 ≤ j) (h : j < 2 ^ 31) : 0 < nI j := by
  rw [← nI_0, nI_ltI (by omega) h]; omega
theorem liv_own {op c : Nat} {i t : Int32} (hc : c < 6) (ho : Own cl op c i) (hop : op ≤ 600) : liv (cl c) t i ↔ LivM cl t i 6 := by
  obtain ⟨j, rfl, h1, h2, h3⟩ := ho
  constructor
  · rintro ⟨a1, a2, a3⟩
    exact ⟨c, hc, nI_pos1 h1 (by omega), a2, a3⟩
  · rintro ⟨e, he, b1, b2, b3⟩
    have := h3 e he b2
    subst this
    exact ⟨fun z => by rw [z, ← nI_0, nI_eq (by omega) (by omega)] at b2; omega, b2, b3⟩
theorem liv_0 {c : Nat} {t : Int32} (h0 : (cl c).1 = 0) : (liv (cl c) t (cl c).1 ↔ LivM cl t (cl c).1 6) := by
  constructor
  · rintro ⟨a1, -⟩; exact absurd h0 a1
  · rintro ⟨e, he, b1, -⟩; rw [h0] at b1; exact absurd b1 (by decide)
theorem liv_cur {S k : Nat} {t : Int32} (hI : Inv S k sc cl mem kept up row held) {c : Nat} (hc : c < 6) : liv (cl c) t (cl c).1 ↔ LivM cl t (cl c).1 6 := by
  obtain ⟨h1, ⟨op, h2, -, h4, -⟩, -⟩ := hI
  rcases h4 c hc with h | h
  · exact liv_0 h
  · exact liv_own hc h (by omega)
/-- what 'client' answers -/
def clA (d : ClD) (lv x : Int32) : Int32 := if 10 ≤ x ∧ x ≤ 17 then d.2.2.2 (x.toNatClampNeg - 10) else if x = 0 then d.1 else if x = 1 then d.2.1 else if x = 2 then lv else if x = 3 then nI d.2.2.1.length else if x = 4 then nI (fst1 d.2.2.1) else if x = 5 then nI (d.2.2.1.countP isW) else -1
theorem c_client_out (h : RC w o S le sc cl mem kept up cn row held) {x y : Int32} (hx : x < 0 ∨ nI 6 ≤ x) : f_X5_client o x y w = some (-1, w) := by
  refine ok_eq ?_
  unfold f_X5_client
  exact ok_chk h.2.1.1.1 (ok_use (c_cl_out h hx) (ok_t rfl (ok_ret ⟨rfl, rfl⟩)))
theorem i10 {y : Int32} (h1 : ¬ y < 10) (h2 : ¬ 18 ≤ y) : ∃ j, 10 ≤ j ∧ j ≤ 17 ∧ y = nI j := by
  have h0 : ¬ y < 0 := fun z => h1 (Int32.lt_of_lt_of_le z (by decide))
  obtain ⟨e1, e2⟩ := nn_of h0
  rw [e1] at h1 h2
  rw [show (10 : Int32) = nI 10 from rfl, nI_ltI (by omega) (by omega)] at h1
  rw [show (18 : Int32) = nI 18 from rfl, nI_leI (by omega) (by omega)] at h2
  exact ⟨_, by omega, by omega, e1⟩
theorem nsub {a b : Nat} (h : b ≤ a) : nI a - nI b = nI (a - b) := pk_sub h
theorem c_client_in (h : RC w o S le sc cl mem kept up cn row held) {c : Nat} (hc : c < 6) (y : Int32) [Decidable (liv (cl c) (sc 0) (cl c).1)] : f_X5_client o (nI c) y w = some (clA (cl c) (if liv (cl c) (sc 0) (cl c).1 then 1 else 0) y, w) := by
  have k0 := h.2.1.1.1
  have hcl := h.2.2.2.1 c hc
  obtain ⟨⟨⟨kc, l4, -⟩, ⟨k1, n1⟩, -⟩, -, h1, h2, h3, -, -, hg⟩ := h.2.2.2.1 c hc
  have q34 : ¬ (10 ≤ y ∧ y ≤ 17) → ok (f_X5_client_34 o (nI c) y (some (aCl o S c)) w) (fun a b => a = clA (cl c) (if liv (cl c) (sc 0) (cl c).1 then 1 else 0) y ∧ b = w) := by
    intro hn
    unfold f_X5_client_34 clA
    rw [if_neg hn]
    refine ok_if (fun c0 => ok_gI kc h1 (ok_ret ⟨?_, rfl⟩)) (fun c0 => ok_if (fun c1 => ok_gI kc h2 (ok_ret ⟨?_, rfl⟩)) (fun c1 => ok_if (fun c2 => ok_gI kc h1 (ok_chk k0 (ok_use (c_live h hc (cl c).1) ?_))) (fun c2 => ok_if (fun c3 => ok_gI kc h3 (ok_ret ⟨?_, rfl⟩)) (fun c3 => ok_if (fun c4 => ok_chk kc (ok_use (cl_first hcl) (ok_ret ⟨?_, rfl⟩))) (fun c4 => ok_if (fun c5 => ok_chk kc (ok_use (cl_wait hcl) (ok_ret ⟨?_, rfl⟩))) (fun c5 => ok_ret ⟨?_, rfl⟩))))))
    · rw [if_pos c0]
    · rw [if_neg c0, if_pos c1]
    · rw [if_neg c0, if_neg c1, if_pos c2]
      by_cases hl : liv (cl c) (sc 0) (cl c).1
      · rw [if_pos hl]; exact ⟨_, _, rfl, rfl, rfl⟩
      · rw [if_neg hl]; exact ⟨_, _, rfl, rfl, rfl⟩
    · rw [if_neg c0, if_neg c1, if_neg c2, if_pos c3]
    · rw [if_neg c0, if_neg c1, if_neg c2, if_neg c3, if_pos c4]
    · rw [if_neg c0, if_neg c1, if_neg c2, if_neg c3, if_neg c4, if_pos c5]
    · rw [if_neg c0, if_neg c1, if_neg c2, if_neg c3, if_neg c4, if_neg c5]
  refine ok_eq ?_
  unfold f_X5_client
  refine ok_chk k0 (ok_use (c_cl_in h hc) (ok_f (by simp) (ok_if (fun c1 => q34 (fun z => absurd c1 (Int32.not_lt.mpr z.1))) (fun c1 => ok_if (fun c2 => q34 (fun z => absurd (Int32.le_trans c2 z.2) (by decide))) (fun c2 => ?_)))))
  obtain ⟨j, j1, j2, rfl⟩ := i10 c1 c2
  have hin : 10 ≤ nI j ∧ nI j ≤ 17 := ⟨Int32.not_lt.mp c1, by rw [show (17 : Int32) = nI 17 from rfl, nI_leI (by omega) (by omega)]; omega⟩
  refine ok_gR kc l4 (ok_aI (n := j - 10) (nsub j1) k1 (by omega) (by omega) (hg (j - 10) (by omega)) (ok_ret ⟨?_, rfl⟩))
  unfold clA
  rw [if_pos hin, nI_clamp (by omega)]
theorem m_client_out {x y : Int32} (hx : x < 0 ∨ nI 6 ≤ x) : f_X6_client m x y w = some (-1, w) := by
  refine ok_eq ?_
  unfold f_X6_client
  refine ok_use m_isClient ?_
  rw [if_neg (out6 hx)]
  exact ok_t rfl (ok_ret ⟨rfl, rfl⟩)
theorem m_client_in (h : RMF w m S le sc cl mem kept up dy row held fl) {c : Nat} (hc : c < 6) (y : Int32) [Decidable (LivM cl (sc 0) (cl c).1 6)] : f_X6_client m (nI c) y w = some (clA (cl c) (if LivM cl (sc 0) (cl c).1 6 then 1 else 0) y, w) := by
  have hM := h.1.1
  have k0 := hM.1
  have hcl := h.2.1 c hc
  obtain ⟨a1, a2, a3, a4, a5, a6⟩ := hcl
  obtain ⟨r7, k7, n7⟩ := M_incarnation hM
  obtain ⟨r8, k8, n8⟩ := M_ends hM
  obtain ⟨r9, k9, n9⟩ := M_calls hM
  obtain ⟨r10, k10, n10⟩ := M_guess hM
  refine ok_eq ?_
  unfold f_X6_client
  refine ok_use m_isClient ?_
  rw [if_pos (in6 hc)]
  refine ok_f (by decide) (ok_use m_in ?_)
  by_cases hn : 10 ≤ y ∧ y ≤ 17
  · rw [if_pos hn]
    refine ok_f (by decide) ?_
    obtain ⟨j, j1, j2, rfl⟩ := i10 (Int32.not_lt.mpr hn.1) (fun z => absurd (Int32.le_trans z hn.2) (by decide))
    refine ok_gR k0 r10 (ok_aI (n := 8 * c + (j - 10)) ?_ k10 (by omega) (by omega) (a6 (j - 10) (by omega)) (ok_ret ⟨?_, rfl⟩))
    · rw [show (8 : Int32) = nI 8 from rfl, pk_mul, nI_add, show (10 : Int32) = nI 10 from rfl, nsub (by omega)]
      congr 1; omega
    · unfold clA
      rw [if_pos hn, nI_clamp (by omega)]
  · rw [if_neg hn]
    unfold clA
    rw [if_neg hn]
    refine ok_t rfl (ok_if (fun c0 => ok_gR k0 r7 (ok_aI rfl k7 (by omega) (by omega) a1 (ok_ret ⟨?_, rfl⟩))) (fun c0 => ok_if (fun c1 => ok_gR k0 r8 (ok_aI rfl k8 (by omega) (by omega) a2 (ok_ret ⟨?_, rfl⟩))) (fun c1 => ok_if (fun c2 => ok_gR k0 r7 (ok_aI rfl k7 (by omega) (by omega) a1 (ok_chk k0 (ok_use (m_live h (cl c).1) ?_)))) (fun c2 => ok_if (fun c3 => ok_gR k0 r9 (ok_aI rfl k9 (by omega) (by omega) a3 (ok_ret ⟨?_, rfl⟩))) (fun c3 => ok_if (fun c4 => ok_chk k0 (ok_use (m_first hM hc (h.2.1 c hc)) (ok_ret ⟨?_, rfl⟩))) (fun c4 => ok_if (fun c5 => ok_chk k0 (ok_use (m_wait hM hc (h.2.1 c hc)) (ok_ret ⟨?_, rfl⟩))) (fun c5 => ok_ret ⟨?_, rfl⟩)))))))
    · rw [if_pos c0]
    · rw [if_neg c0, if_pos c1]
    · rw [if_neg c0, if_neg c1, if_pos c2]
      by_cases hl : LivM cl (sc 0) (cl c).1 6
      · rw [if_pos hl]; exact ⟨_, _, rfl, rfl, rfl⟩
      · rw [if_neg hl]; exact ⟨_, _, rfl, rfl, rfl⟩
    · rw [if_neg c0, if_neg c1, if_neg c2, if_pos c3]
    · rw [if_neg c0, if_neg c1, if_neg c2, if_neg c3, if_pos c4]
    · rw [if_neg c0, if_neg c1, if_neg c2, if_neg c3, if_neg c4, if_pos c5]
    · rw [if_neg c0, if_neg c1, if_neg c2, if_neg c3, if_neg c4, if_neg c5]
theorem st_client (x y : Int32) : Same2 o S le (f_X5_client o x y) (f_X6_client (aMo o S) x y) := by
  rintro w k hk ⟨sc, cl, mem, kept, up, dy, row, held, hR, hI⟩
  rcases pk_ix x (n := 6) (by omega) with hx | hx | ⟨c, hc, rfl⟩
  · exact mkSame hR hI hk (c_client_out hR.1 (Or.inl hx)) (m_client_out (Or.inl hx))
  · exact mkSame hR hI hk (c_client_out hR.1 (Or.inr hx)) (m_client_out (Or.inr hx))
  · haveI : Decidable (liv (cl c) (sc 0) (cl c).1) := Classical.propDecidable _
    haveI : Decidable (LivM cl (sc 0) (cl c).1 6) := Classical.propDecidable _
    refine mkSame hR hI hk (c_client_in hR.1 hc y) ?_
    rw [m_client_in hR.2 hc y]
    have e := liv_cur (t := sc 0) hI hc
    by_cases hl : liv (cl c) (sc 0) (cl c).1
    · rw [if_pos hl, if_pos (e.mp hl)]
    · rw [if_neg hl, if_neg (fun z => hl (e.mpr z))]
theorem m_renew_out {x : Int32} (hx : x < 0 ∨ nI 6 ≤ x) : f_X6_renew m x w = some (-1, w) := by
  refine ok_eq ?_
  unfold f_X6_renew
  refine ok_use m_isClient ?_
  rw [if_neg (out6 hx)]
  exact ok_t rfl (ok_ret ⟨rfl, rfl⟩)
theorem m_renew_dead (h : RMF w m S le sc cl mem kept up dy row held fl) {c : Nat} (hc : c < 6) (hd : ¬ LivM cl (sc 0) (cl c).1 6) : f_X6_renew m (nI c) w = some (-3, w) := by
  have hM := h.1.1
  obtain ⟨r7, k7, n7⟩ := M_incarnation hM
  have a1 := (h.2.1 c hc).1
  haveI : Decidable (LivM cl (sc 0) (cl c).1 6) := Classical.propDecidable _
  have e := m_live h (cl c).1
  rw [if_neg hd] at e
  refine ok_eq ?_
  unfold f_X6_renew
  refine ok_use m_isClient ?_
  rw [if_pos (in6 hc)]
  exact ok_f (by decide) (ok_gR hM.1 r7 (ok_aI rfl k7 (by omega) (by omega) a1 (ok_chk hM.1 (ok_use e (ok_t rfl (ok_ret ⟨rfl, rfl⟩))))))
theorem m_renew_in (h : RMF w m S le sc cl mem kept up dy row held fl) {c : Nat} (hc : c < 6) (hd : LivM cl (sc 0) (cl c).1 6) : ok (f_X6_renew m (nI c) w) (fun v w' => v = sc 0 + le ∧ RMF w' m S le sc (va_up cl c ((cl c).1, sc 0 + le, (cl c).2.2)) mem kept up dy row held fl ∧ Mf m w w') := by
  have hM := h.1.1
  have k0 := hM.1
  obtain ⟨-, i0, i1, i2, -⟩ := h.1
  obtain ⟨r7, k7, n7⟩ := M_incarnation hM
  obtain ⟨r8, k8, n8⟩ := M_ends hM
  obtain ⟨a1, a2, a3, a4, a5, a6⟩ := h.2.1 c hc
  haveI : Decidable (LivM cl (sc 0) (cl c).1 6) := Classical.propDecidable _
  have e := m_live h (cl c).1
  rw [if_pos hd] at e
  unfold f_X6_renew
  refine ok_use m_isClient ?_
  rw [if_pos (in6 hc)]
  refine ok_f (by decide) (ok_gR k0 r7 (ok_aI rfl k7 (by omega) (by omega) a1 (ok_chk k0 (ok_use e (ok_f (by decide) (ok_gR k0 r8 (ok_gI k0 i2 (ok_gI k0 i1 (ok_tI rfl k8 (by omega) (by omega) (ok_gR k0 r8 (ok_aI rfl k8 (by show c < wN w (m + 2); omega) (by omega) (v := sc 0 + le) (by simp [wI_s]) (ok_ret ⟨rfl, ?_⟩))))))))))))
  have g : Mx m (fun q => m + 1 ≤ q ∧ q ≤ m + 10) w (sI w (m + 2) c (sc 0 + le)) := (Mx.rf (fun q hq => by omega)).sI (by omega)
  have e1 : ∀ (j i : Nat), 1 ≤ j → j ≤ 3 → i ≠ c → wI (sI w (m + 2) c (sc 0 + le)) (m + j) i = wI w (m + j) i := fun j i _ _ hi => by rw [wI_s, if_neg (by omega)]
  have e2 : ∀ (j i : Nat), j ≠ 2 → wI (sI w (m + 2) c (sc 0 + le)) (m + j) i = wI w (m + j) i := fun j i hj => by rw [wI_s, if_neg (by omega)]
  refine h.cli hc (d := ((cl c).1, sc 0 + le, (cl c).2.2)) g e1 (fun i _ => e2 4 i (by omega)) (fun j i h1 h2 _ => ⟨e2 j i (by omega), rfl⟩) ⟨(e2 1 c (by omega)).trans a1, by simp [wI_s], (e2 3 c (by omega)).trans a3, a4, fun i r hi => ?_, fun b hb => (e2 4 _ (by omega)).trans (a6 b hb)⟩
  rw [← a5 i r hi]
  unfold calM
  rw [e2 5 _ (by omega), e2 7 _ (by omega), e2 8 _ (by omega)]
  rfl
theorem Inv.cli {S k : Nat} {sc : Nat → Int32} {cl : Nat → ClD} {mem kept : Nat → Nat → BkD} {up : Nat → Bool} {row : List Ltr} {held : Nat → List Ltr} {c : Nat} {d : ClD} (h : Inv S k sc cl mem kept up row held) (hd : d.1 = (cl c).1) (hok : ClOk S d) : Inv S k sc (va_up cl c d) mem kept up row held := by
  have hi : ∀ e, (va_up cl c d e).1 = (cl e).1 := by
    intro e
    by_cases e1 : e = c
    · subst e1; rw [va_up_self]; exact hd
    · rw [va_up_ne _ _ e1]
  have ho : ∀ op e i, Own cl op e i → Own (va_up cl c d) op e i := by
    rintro op e i ⟨j, h1, h2, h3, h4⟩
    exact ⟨j, h1, h2, h3, fun f hf he => h4 f hf (by rw [← hi f]; exact he)⟩
  have hr : ∀ op r, RecOk cl op r → RecOk (va_up cl c d) op r := by
    rintro op r ⟨e, n, h1, h2, h3, h4⟩
    exact ⟨e, n, h1, h2, ho _ _ _ h3, h4⟩
  have hb : ∀ op b, BkOk S cl op b → BkOk S (va_up cl c d) op b := fun op b h => ⟨h.1, h.2.1, fun r hr' => hr _ _ (h.2.2 r hr')⟩
  have hl : ∀ op t, LtOk S cl op t → LtOk S (va_up cl c d) op t := by
    intro op t h
    rcases h with ⟨h0, s, c, n, k, h1, h2, h3, h4, h5, h6, h7, h8, h9⟩ | h | ⟨h0, s, c, b, h1, h2, h3, h4, h5, h6, h7, h8⟩ | h | ⟨h0, s, c, h1, h2, h3, h4, h5⟩
    · exact Or.inl ⟨h0, s, c, n, k, h1, h2, h3, h4, h5, h6, h7, ho _ _ _ h8, h9⟩
    · exact Or.inr (Or.inl h)
    · exact Or.inr (Or.inr (Or.inl ⟨h0, s, c, b, h1, h2, h3, h4, h5, h6, h7, fun r hr' => hr _ _ (h8 r hr')⟩))
    · exact Or.inr (Or.inr (Or.inr (Or.inl h)))
    · exact Or.inr (Or.inr (Or.inr (Or.inr ⟨h0, s, c, h1, h2, h3, h4, ho _ _ _ h5⟩)))
  obtain ⟨h1, ⟨op, h2, h3, h4, h5, h6, h7⟩, h8, h9⟩ := h
  refine ⟨h1, ⟨op, h2, h3, fun e he => ?_, fun s b hs hb' => ⟨fun hu => hb _ _ ((h5 s b hs hb').1 hu), hb _ _ (h5 s b hs hb').2⟩, fun t ht => hl _ _ (h6 t ht), fun s hs t ht => hl _ _ (h7 s hs t ht)⟩, fun e he => ?_, h9⟩
  · rw [hi e]
    rcases h4 e he with z | z
    · exact Or.inl z
    · exact Or.inr (ho _ _ _ z)
  · by_cases e1 : e = c
    · subst e1; rw [va_up_self]; exact hok
    · rw [va_up_ne _ _ e1]; exact h8 e he
theorem st_renew (x : Int32) : Same2 o S le (f_X5_renew o x) (f_X6_renew (aMo o S) x) := by
  rintro w k hk ⟨sc, cl, mem, kept, up, dy, row, held, hR, hI⟩
  rcases pk_ix x (n := 6) (by omega) with hx | hx | ⟨c, hc, rfl⟩
  · exact mkSame hR hI hk (c_renew_out hR.1 (Or.inl hx)) (m_renew_out (Or.inl hx))
  · exact mkSame hR hI hk (c_renew_out hR.1 (Or.inr hx)) (m_renew_out (Or.inr hx))
  · have e := liv_cur (t := sc 0) hI hc
    by_cases hl : liv (cl c) (sc 0) (cl c).1
    · exact mkStep hR (c_renew_in hR.1 hc hl) (fun w1 h1 => m_renew_in h1 hc (e.mp hl)) ((hI.up hk).cli rfl (hI.2.2.1 c hc))
    · exact mkSame hR hI hk (c_renew_dead hR.1 hc hl) (m_renew_dead hR.2 hc (fun z => hl (e.mpr z)))
end RD
