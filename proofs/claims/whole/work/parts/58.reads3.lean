/-! CALLS THAT ASK, II: value, record, server, letter -/
section RE3
variable {w : Wd} {o m S : Nat} {le : Int32} {sc : Nat → Int32} {cl : Nat → ClD} {mem kept : Nat → Nat → BkD} {up cn dy : Nat → Bool} {row : List Ltr} {held : Nat → List Ltr} {fl : List (Nat × Ltr)}
theorem mod8 {k : Nat} (h : k < 2 ^ 31) : nI k - nI k / 8 * 8 = nI (k % 8) := by
  rw [div8 h, show (8 : Int32) = nI 8 from rfl, pk_mul, nsub (by omega)]
  congr 1; omega
theorem i4 (a j : Nat) : (4 : Int32) * nI a + nI j = nI (4 * a + j) := by
  rw [show (4 : Int32) = nI 4 from rfl, pk_mul, nI_add]
theorem i12 (a j : Nat) : (12 : Int32) * nI a + nI j = nI (12 * a + j) := by
  rw [show (12 : Int32) = nI 12 from rfl, pk_mul, nI_add]
theorem i6' (a j : Nat) : (6 : Int32) * nI a + nI j = nI (6 * a + j) := by
  rw [show (6 : Int32) = nI 6 from rfl, pk_mul, nI_add]
theorem i16 (a j : Nat) : (16 : Int32) * nI a + nI j = nI (16 * a + j) := by
  rw [show (16 : Int32) = nI 16 from rfl, pk_mul, nI_add]
theorem i8' (a j : Nat) : (8 : Int32) * nI a + nI j = nI (8 * a + j) := by
  rw [show (8 : Int32) = nI 8 from rfl, pk_mul, nI_add]
theorem i4200 (a j : Nat) : (4200 : Int32) * nI a + nI j = nI (4200 * a + j) := by
  rw [show (4200 : Int32) = nI 4200 from rfl, pk_mul, nI_add]
theorem in_row {L : Nat} (hL : L ≤ 5000) (x : Int32) : (0 ≤ x ∧ x ≤ nI L - 1) ↔ ∃ i, i < L ∧ x = nI i := by
  constructor
  · rintro ⟨h1, h2⟩
    obtain ⟨e1, e2⟩ := nn_of (Int32.not_lt.mpr h1)
    rw [e1] at h2
    by_cases hz : L = 0
    · subst hz
      have : nI x.toNatClampNeg < 0 := Int32.lt_of_le_of_lt h2 (by decide)
      exact absurd this (nI_pos e2)
    · obtain ⟨q, rfl⟩ : ∃ q, L = q + 1 := ⟨L - 1, by omega⟩
      rw [nI_pred, nI_leI (by omega) (by omega)] at h2
      exact ⟨_, by omega, e1⟩
  · rintro ⟨i, hi, rfl⟩
    refine ⟨nI_pos' (by omega), ?_⟩
    obtain ⟨q, rfl⟩ : ∃ q, L = q + 1 := ⟨L - 1, by omega⟩
    rw [nI_pred, nI_leI (by omega) (by omega)]
    omega
theorem st_value (x y : Int32) : Same2 o S le (f_X5_value o x y) (f_X6_value (aMo o S) x y) := by
  rintro w k hk ⟨sc, cl, mem, kept, up, dy, row, held, hR, hI⟩
  have k0 := hR.1.2.1.1.1
  have m0 := hR.2.1.1.1
  have h2 := hR.1.1.1
  have h4 := hR.1.1.2.1
  have hM := hR.2.1.1
  have cy : (y < 0 ∨ nI 32 ≤ y) → f_X5_value o x y w = some (0, w) := by
    intro hy
    refine ok_eq ?_
    unfold f_X5_value
    refine ok_if (fun _ => ok_ret ⟨rfl, rfl⟩) (fun c1 => ok_f (fun c2 => ?_) (ok_ret ⟨rfl, rfl⟩))
    rcases hy with hy | hy
    · exact c1 hy
    · exact absurd c2 (Int32.not_lt.mpr hy)
  have my : (y < 0 ∨ nI 32 ≤ y) → ¬ (0 ≤ y ∧ y ≤ 31) := by
    rintro hy ⟨a, b⟩
    rcases hy with hy | hy
    · exact absurd hy (Int32.not_lt.mpr a)
    · exact absurd (Int32.le_trans hy b) (by decide)
  have hy' := pk_ix y (n := 32) (by omega)
  have out : (x < 0 ∨ nI S ≤ x) → ∃ v w1 w2, f_X5_value o x y w = some (v, w1) ∧ wK w1 (aMo o S) = 7 ∧ f_X6_value (aMo o S) x y w1 = some (v, w2) ∧ Rel w2 o S le (k + 1) := by
    intro hx
    refine mkSame (r := 0) hR hI hk ?_ (ok_eq ?_)
    · rcases hy' with hy | hy | ⟨q, hq, rfl⟩
      · exact cy (Or.inl hy)
      · exact cy (Or.inr hy)
      · refine ok_eq ?_
        unfold f_X5_value
        refine ok_f (nI_pos (by omega)) (ok_t ((nI_ltI (a := q) (b := 32) (by omega) (by omega)).mpr hq) ?_)
        exact ok_use (rfl : f_X5_bucketOf (nI q) w = _) (ok_chk k0 (ok_use (c_bkt_so hR.1 hx) (ok_t rfl (ok_ret ⟨rfl, rfl⟩))))
    · unfold f_X6_value
      exact ok_chk m0 (ok_use (m_sv_out hR.2 h2 h4 hx) (ok_t rfl (ok_ret ⟨rfl, rfl⟩)))
  rcases pk_ix x (n := S) (by omega) with hx | hx | ⟨s, hs, rfl⟩
  · exact out (Or.inl hx)
  · exact out (Or.inr hx)
  · have out2 : (y < 0 ∨ nI 32 ≤ y) → ∃ v w1 w2, f_X5_value o (nI s) y w = some (v, w1) ∧ wK w1 (aMo o S) = 7 ∧ f_X6_value (aMo o S) (nI s) y w1 = some (v, w2) ∧ Rel w2 o S le (k + 1) := by
      intro hy
      refine mkSame (r := 0) hR hI hk (cy hy) (ok_eq ?_)
      unfold f_X6_value
      refine ok_chk m0 (ok_use (m_sv_in hR.2 h2 h4 hs) (ok_f (by decide) (ok_use m_in ?_)))
      rw [if_neg (my hy)]
      exact ok_t rfl (ok_ret ⟨rfl, rfl⟩)
    rcases hy' with hy | hy | ⟨q, hq, rfl⟩
    · exact out2 (Or.inl hy)
    · exact out2 (Or.inr hy)
    · obtain ⟨⟨⟨kb, l4, -⟩, ⟨k1, n1⟩, -⟩, -, -, -, -, -, gv, -⟩ := (hR.1.2.2.2.2.1 s (q % 8) hs (by omega)).1
      refine mkSame (r := (mxm up mem kept s (q % 8)).2.2.2.1 (q / 8)) hR hI hk (ok_eq ?_) (ok_eq ?_)
      · unfold f_X5_value
        refine ok_f (nI_pos (by omega)) (ok_t ((nI_ltI (a := q) (b := 32) (by omega) (by omega)).mpr hq) ?_)
        refine ok_use (rfl : f_X5_bucketOf (nI q) w = _) (ok_chk k0 ?_)
        rw [mod8 (by omega)]
        refine ok_use (c_bkt_in hR.1 hs (by omega)) (ok_f (by simp) (ok_gR kb l4 (ok_use (rfl : f_X5_placeOf (nI q) w = _) (ok_aL (div8 (by omega)) k1 (by omega) (by omega) (gv (q / 8) (by omega)) (ok_ret ⟨rfl, rfl⟩)))))
      · unfold f_X6_value
        refine ok_chk m0 (ok_use (m_sv_in hR.2 h2 h4 hs) (ok_f (by decide) (ok_use m_in ?_)))
        have hin : 0 ≤ nI q ∧ nI q ≤ 31 := ⟨nI_pos' (by omega), (nI_leI (a := q) (b := 31) (by omega) (by omega)).mpr (by omega)⟩
        rw [if_pos hin]
        obtain ⟨r20, k20, n20⟩ := M_values hM
        refine ok_f (by decide) (ok_gR m0 r20 (ok_chk m0 (ok_call (m_store hR.2 h4 hs) ?_)))
        rintro v w' ⟨rfl, a, rfl, ha, hB⟩
        obtain ⟨g0, g1, g2, g3, gl, gv', -⟩ := hB (q % 8) (by omega)
        refine ok_aL (n := 4 * (a + q % 8) + q / 8) ?_ k20 (by omega) (by omega) (gv' (q / 8) (by omega)) (ok_ret ⟨rfl, rfl⟩)
        rw [mod8 (by omega), div8 (by omega), nI_add, i4]
/-- what 'record' answers of a record -/
def rcA (r : Rec) (x : Int32) : Int32 := if x = 0 then r.1 else if x = 1 then r.2.1 else if x = 2 then r.2.2.1 else -1
theorem BK.rec {a : Nat} {st ve hi : Int32} {va : Nat → Int64} {rs : List Rec} {kn fi : Nat → Int32} (h : BK w a st ve hi va rs kn fi) {i : Nat} (hl : i < rs.length) : wI w (a + 2) i = rs[i].1 ∧ wI w (a + 3) i = rs[i].2.1 ∧ wI w (a + 4) i = rs[i].2.2.1 ∧ wL w (a + 5) i = rs[i].2.2.2 := by
  have e := h.2.2.2.2.2.2.2.1 i _ (List.getElem?_eq_getElem hl)
  rw [← e]
  exact ⟨rfl, rfl, rfl, rfl⟩
theorem BKM.rec {a : Nat} {d : BkD} (h : BKM w m a d) {i : Nat} (hl : i < d.2.2.2.2.1.length) : wI w (m + 16) (12 * a + i) = d.2.2.2.2.1[i].1 ∧ wI w (m + 17) (12 * a + i) = d.2.2.2.2.1[i].2.1 ∧ wI w (m + 18) (12 * a + i) = d.2.2.2.2.1[i].2.2.1 ∧ wL w (m + 19) (12 * a + i) = d.2.2.2.2.1[i].2.2.2 := by
  have e := h.2.2.2.2.2.2.1 i _ (List.getElem?_eq_getElem hl)
  rw [← e]
  exact ⟨rfl, rfl, rfl, rfl⟩
theorem st_record (x y z u : Int32) : Same2 o S le (f_X5_record o x y z u) (f_X6_record (aMo o S) x y z u) := by
  rintro w k hk ⟨sc, cl, mem, kept, up, dy, row, held, hR, hI⟩
  have k0 := hR.1.2.1.1.1
  have m0 := hR.2.1.1.1
  have h2 := hR.1.1.1
  have h4 := hR.1.1.2.1
  have hM := hR.2.1.1
  have out : (x < 0 ∨ nI S ≤ x) → ∃ v w1 w2, f_X5_record o x y z u w = some (v, w1) ∧ wK w1 (aMo o S) = 7 ∧ f_X6_record (aMo o S) x y z u w1 = some (v, w2) ∧ Rel w2 o S le (k + 1) := by
    intro hx
    refine mkSame (r := -1) hR hI hk (ok_eq ?_) (ok_eq ?_)
    · unfold f_X5_record
      exact ok_chk k0 (ok_use (c_bkt_so hR.1 hx) (ok_t rfl (ok_ret ⟨rfl, rfl⟩)))
    · unfold f_X6_record
      exact ok_chk m0 (ok_use (m_sv_out hR.2 h2 h4 hx) (ok_t rfl (ok_ret ⟨rfl, rfl⟩)))
  rcases pk_ix x (n := S) (by omega) with hx | hx | ⟨s, hs, rfl⟩
  · exact out (Or.inl hx)
  · exact out (Or.inr hx)
  · have out2 : (y < 0 ∨ nI 8 ≤ y) → ∃ v w1 w2, f_X5_record o (nI s) y z u w = some (v, w1) ∧ wK w1 (aMo o S) = 7 ∧ f_X6_record (aMo o S) (nI s) y z u w1 = some (v, w2) ∧ Rel w2 o S le (k + 1) := by
      intro hy
      refine mkSame (r := -1) hR hI hk (ok_eq ?_) (ok_eq ?_)
      · unfold f_X5_record
        exact ok_chk k0 (ok_use (c_bkt_bo hR.1 hs hy) (ok_t rfl (ok_ret ⟨rfl, rfl⟩)))
      · unfold f_X6_record
        refine ok_chk m0 (ok_use (m_sv_in hR.2 h2 h4 hs) (ok_f (by decide) (ok_use m_in ?_)))
        rw [if_neg (out8 hy)]
        exact ok_t rfl (ok_ret ⟨rfl, rfl⟩)
    rcases pk_ix y (n := 8) (by omega) with hy | hy | ⟨b, hb, rfl⟩
    · exact out2 (Or.inl hy)
    · exact out2 (Or.inr hy)
    · have hB := (hR.1.2.2.2.2.1 s b hs hb).1
      obtain ⟨⟨⟨kb, l4, l5, l6, l7, -⟩, ⟨k1, n1⟩, ⟨k2, n2⟩, ⟨k3, n3⟩, ⟨k4, n4⟩, -⟩, -, -, -, g3, gl, -⟩ := (hR.1.2.2.2.2.1 s b hs hb).1
      have hor := in_row (L := (mxm up mem kept s b).2.2.2.2.1.length) (by omega) z
      obtain ⟨r21, k21, n21⟩ := M_size hM
      obtain ⟨r22, k22, n22⟩ := M_recordClient hM
      obtain ⟨r23, k23, n23⟩ := M_recordIncarnation hM
      obtain ⟨r24, k24, n24⟩ := M_recordNumber hM
      by_cases hn : 0 ≤ z ∧ z ≤ nI (mxm up mem kept s b).2.2.2.2.1.length - 1
      · obtain ⟨i, hi, rfl⟩ := hor.mp hn
        obtain ⟨q1, q2, q3, q4⟩ := BK.rec hB hi
        refine mkSame (r := rcA (mxm up mem kept s b).2.2.2.2.1[i] u) hR hI hk (ok_eq ?_) (ok_eq ?_)
        · unfold f_X5_record rcA
          refine ok_chk k0 (ok_use (c_bkt_in hR.1 hs hb) (ok_f (by simp) (ok_f (nI_pos (by omega)) (ok_gI kb g3 (ok_t ((nI_ltI (by omega) (by omega)).mpr hi) (ok_if (fun c0 => ok_gR kb l5 (ok_aI rfl k2 (by omega) (by omega) q1 (ok_ret ⟨?_, rfl⟩))) (fun c0 => ok_if (fun c1 => ok_gR kb l6 (ok_aI rfl k3 (by omega) (by omega) q2 (ok_ret ⟨?_, rfl⟩))) (fun c1 => ok_if (fun c2 => ok_gR kb l7 (ok_aI rfl k4 (by omega) (by omega) q3 (ok_ret ⟨?_, rfl⟩))) (fun c2 => ok_ret ⟨?_, rfl⟩)))))))))
          · rw [if_pos c0]
          · rw [if_neg c0, if_pos c1]
          · rw [if_neg c0, if_neg c1, if_pos c2]
          · rw [if_neg c0, if_neg c1, if_neg c2]
        · unfold f_X6_record rcA
          refine ok_chk m0 (ok_use (m_sv_in hR.2 h2 h4 hs) (ok_f (by decide) (ok_use m_in ?_)))
          rw [if_pos (in8 hb)]
          refine ok_f (by decide) (ok_chk m0 (ok_call (m_store hR.2 h4 hs) ?_))
          rintro v w' ⟨rfl, a, rfl, ha, hB'⟩
          have hBb := hB' b hb
          obtain ⟨p1, p2, p3, p4⟩ := hBb.rec hi
          rw [nI_add]
          refine ok_gR m0 r21 (ok_aI rfl k21 (by omega) (by omega) hBb.2.2.2.1 (ok_use m_in ?_))
          rw [if_pos hn]
          refine ok_f (by decide) (ok_if (fun c0 => ok_gR m0 r22 (ok_aI (i12 _ _) k22 (by omega) (by omega) p1 (ok_ret ⟨?_, rfl⟩))) (fun c0 => ok_if (fun c1 => ok_gR m0 r23 (ok_aI (i12 _ _) k23 (by omega) (by omega) p2 (ok_ret ⟨?_, rfl⟩))) (fun c1 => ok_if (fun c2 => ok_gR m0 r24 (ok_aI (i12 _ _) k24 (by omega) (by omega) p3 (ok_ret ⟨?_, rfl⟩))) (fun c2 => ok_ret ⟨?_, rfl⟩))))
          · rw [if_pos c0]
          · rw [if_neg c0, if_pos c1]
          · rw [if_neg c0, if_neg c1, if_pos c2]
          · rw [if_neg c0, if_neg c1, if_neg c2]
      · refine mkSame (r := -1) hR hI hk (ok_eq ?_) (ok_eq ?_)
        · unfold f_X5_record
          refine ok_chk k0 (ok_use (c_bkt_in hR.1 hs hb) (ok_f (by simp) (ok_if (fun _ => ok_ret ⟨rfl, rfl⟩) (fun c1 => ok_gI kb g3 (ok_f (fun c2 => ?_) (ok_ret ⟨rfl, rfl⟩))))))
          obtain ⟨e1, e2⟩ := nn_of c1
          rw [e1, nI_ltI (by omega) (by omega)] at c2
          exact hn (hor.mpr ⟨_, c2, e1⟩)
        · unfold f_X6_record
          refine ok_chk m0 (ok_use (m_sv_in hR.2 h2 h4 hs) (ok_f (by decide) (ok_use m_in ?_)))
          rw [if_pos (in8 hb)]
          refine ok_f (by decide) (ok_chk m0 (ok_call (m_store hR.2 h4 hs) ?_))
          rintro v w' ⟨rfl, a, rfl, ha, hB'⟩
          rw [nI_add]
          refine ok_gR m0 r21 (ok_aI rfl k21 (by omega) (by omega) (hB' b hb).2.2.2.1 (ok_use m_in ?_))
          rw [if_neg hn]
          exact ok_t rfl (ok_ret ⟨rfl, rfl⟩)
/-- what 'server' answers -/
def nRec (f : Nat → BkD) (j : Nat) : Nat := sumTo j (fun b => (f b).2.2.2.2.1.length)
theorem c_all (h : RC w o S le sc cl mem kept up cn row held) {s : Nat} (hs : s < S) : f_X4_recordsInAll (aSv o s) w = some (nI (nRec (mem s) 8), w) := by
  have hS := h.2.2.1 s hs
  obtain ⟨⟨k0, -, -, r2, -⟩, ⟨k3, n3, e3⟩, -⟩ := hS
  have loop : ∀ (n j : Nat), 8 < n + j → j ≤ 8 → ok (f_X4_recordsInAll_4 n (aSv o s) (nI (nRec (mem s) j)) (nI j) w) (fun a b => a = nI (nRec (mem s) 8) ∧ b = w) := by
    intro n
    induction n with
    | zero => intro j h1 h2; omega
    | succ n ih =>
      intro j h1 h2
      rw [f_X4_recordsInAll_4.eq_2]
      refine ok_if (fun c => ?_) (fun c => ?_)
      · rw [show (8 : Int32) = nI 8 from rfl, nI_leI (by omega) (by omega)] at c
        have : j = 8 := by omega
        subst this
        exact ok_ret ⟨rfl, rfl⟩
      · rw [show (8 : Int32) = nI 8 from rfl, nI_leI (by omega) (by omega)] at c
        obtain ⟨⟨⟨kb, -⟩, -⟩, -, -, -, g3, -⟩ := (h.2.2.2.2.1 s j hs (by omega)).1
        refine ok_gR k0 r2 (ok_aR rfl k3 (by omega) (by omega) (e3 j (by omega)) (ok_gI kb g3 ?_))
        rw [nI_add, nI_1]
        exact ih (j + 1) (by omega) (by omega)
  refine ok_eq ?_
  unfold f_X4_recordsInAll
  exact loop FU 0 (by unfold FU; omega) (by omega)
theorem m_all (h : RMF w m S le sc cl mem kept up dy row held fl) {s : Nat} (hs : s < S) (h4 : S ≤ 4) : f_X6_server_93 FU m (nI s) 0 0 w = some (nI (if up s then nRec (mem s) 8 else 0), w) := by
  have hM := h.1.1
  have m0 := hM.1
  obtain ⟨r28, k28, n28⟩ := M_up hM
  obtain ⟨r21, k21, n21⟩ := M_size hM
  have hu := (h.2.2.1 s hs).1
  refine ok_eq ?_
  cases e : up s with
  | false =>
    rw [e] at hu
    unfold FU
    rw [f_X6_server_93.eq_2]
    refine ok_f (by decide) (ok_gR m0 r28 (ok_aI rfl k28 (by omega) (by omega) hu (ok_t rfl (ok_ret ⟨by rfl, rfl⟩))))
  | true =>
    have loop : ∀ (n j : Nat), 8 < n + j → j ≤ 8 → ok (f_X6_server_93 n m (nI s) (nI (nRec (mem s) j)) (nI j) w) (fun a b => a = nI (nRec (mem s) 8) ∧ b = w) := by
      intro n
      induction n with
      | zero => intro j h1 h2; omega
      | succ n ih =>
        intro j h1 h2
        rw [f_X6_server_93.eq_2]
        refine ok_if (fun c => ?_) (fun c => ?_)
        · rw [show (8 : Int32) = nI 8 from rfl, nI_leI (by omega) (by omega)] at c
          have : j = 8 := by omega
          subst this
          exact ok_ret ⟨rfl, rfl⟩
        · rw [show (8 : Int32) = nI 8 from rfl, nI_leI (by omega) (by omega)] at c
          obtain ⟨-, -, -, g3, -⟩ := (h.2.2.2.1 s j hs (by omega)).1 e
          refine ok_gR m0 r28 (ok_aI rfl k28 (by omega) (by omega) hu (ok_f (by rw [e]; decide) (ok_gR m0 r21 (ok_aI (i16 _ _) k21 (by omega) (by omega) g3 ?_))))
          rw [nI_add, nI_1]
          exact ih (j + 1) (by omega) (by omega)
    exact loop FU 0 (by unfold FU; omega) (by omega)
theorem st_server (x y : Int32) : Same2 o S le (f_X5_server o x y) (f_X6_server (aMo o S) x y) := by
  rintro w k hk ⟨sc, cl, mem, kept, up, dy, row, held, hR, hI⟩
  have k0 := hR.1.2.1.1.1
  have m0 := hR.2.1.1.1
  have h2 := hR.1.1.1
  have h4 := hR.1.1.2.1
  have hM := hR.2.1.1
  have out : (x < 0 ∨ nI S ≤ x) → ∃ v w1 w2, f_X5_server o x y w = some (v, w1) ∧ wK w1 (aMo o S) = 7 ∧ f_X6_server (aMo o S) x y w1 = some (v, w2) ∧ Rel w2 o S le (k + 1) := by
    intro hx
    refine mkSame (r := -1) hR hI hk (ok_eq ?_) (ok_eq ?_)
    · unfold f_X5_server
      exact ok_chk k0 (ok_use (c_sv_out hR.1 hx) (ok_t rfl (ok_ret ⟨rfl, rfl⟩)))
    · unfold f_X6_server
      exact ok_chk m0 (ok_use (m_sv_out hR.2 h2 h4 hx) (ok_t rfl (ok_ret ⟨rfl, rfl⟩)))
  rcases pk_ix x (n := S) (by omega) with hx | hx | ⟨s, hs, rfl⟩
  · exact out (Or.inl hx)
  · exact out (Or.inr hx)
  · obtain ⟨⟨ks, -, r1, -, -, u4, u5⟩, -⟩ := hR.1.2.2.1 s hs
    obtain ⟨La, hLa, hLl⟩ := hR.1.2.2.2.2.2.2 s hs
    obtain ⟨-, -, -, -, Lr, Lh, -, hh, -⟩ := hR.2
    obtain ⟨mu, md⟩ := hR.2.2.2.1 s hs
    obtain ⟨r28, k28, n28⟩ := M_up hM
    obtain ⟨r29, k29, n29⟩ := M_dirty hM
    obtain ⟨r52, k52, n52⟩ := M_heldMany hM
    have ea := c_all hR.1 hs
    have eb := m_all hR.2 hs h4
    refine mkSame (r := if y = 0 then bI (up s) else if y = 1 then bI (up s && !dy s) else if y = 2 then nI (held s).length else if y = 3 then nI (if up s then nRec (mem s) 8 else 0) else -1) hR hI hk (ok_eq ?_) (ok_eq ?_)
    · unfold f_X5_server
      refine ok_chk k0 (ok_use (c_sv_in hR.1 hs) (ok_f (by simp) (ok_if (fun c0 => ok_gI ks u4 ?_) (fun c0 => ok_if (fun c1 => ok_gI ks u4 ?_) (fun c1 => ok_if (fun c2 => ok_gR ks r1 (ok_gI hLa.1 hLa.2.2.2.2.1 (ok_ret ⟨?_, rfl⟩))) (fun c2 => ok_if (fun c3 => ok_gI ks u4 ?_) (fun c3 => ok_ret ⟨?_, rfl⟩)))))))
      · rw [if_pos c0]
        cases up s <;> exact ⟨_, _, rfl, rfl, rfl⟩
      · rw [if_neg c0, if_pos c1]
        unfold cnf at u5
        cases eu : up s with
        | false => exact ⟨_, _, rfl, rfl, rfl⟩
        | true =>
          rw [eu] at u5
          refine ok_f (by decide) (ok_gI ks u5 ?_)
          cases dy s <;> exact ⟨_, _, rfl, rfl, rfl⟩
      · rw [if_neg c0, if_neg c1, if_pos c2, hLl.1]
      · rw [if_neg c0, if_neg c1, if_neg c2, if_pos c3]
        cases eu : up s with
        | false => exact ⟨_, _, rfl, by rfl, rfl⟩
        | true =>
          have e9 : mxm up mem kept s = mem s := by
            funext b; unfold mxm; rw [eu]; rfl
          rw [e9] at ea
          exact ok_f (by decide) (ok_chk ks (ok_use ea (ok_ret ⟨rfl, rfl⟩)))
      · rw [if_neg c0, if_neg c1, if_neg c2, if_neg c3]
    · unfold f_X6_server
      refine ok_chk m0 (ok_use (m_sv_in hR.2 h2 h4 hs) (ok_f (by decide) (ok_if (fun c0 => ok_gR m0 r28 (ok_aI rfl k28 (by omega) (by omega) mu ?_)) (fun c0 => ok_if (fun c1 => ok_gR m0 r28 (ok_aI rfl k28 (by omega) (by omega) mu ?_)) (fun c1 => ok_if (fun c2 => ok_gR m0 r52 (ok_aI rfl k52 (by omega) (by omega) (hh s hs).1.1 (ok_ret ⟨?_, rfl⟩))) (fun c2 => ok_if (fun c3 => ⟨_, _, eb, ?_, rfl⟩) (fun c3 => ok_ret ⟨?_, rfl⟩)))))))
      · rw [if_pos c0]
        cases up s <;> exact ⟨_, _, rfl, rfl, rfl⟩
      · rw [if_neg c0, if_pos c1]
        cases eu : up s with
        | false => exact ⟨_, _, rfl, rfl, rfl⟩
        | true =>
          refine ok_f (by decide) (ok_gR m0 r29 (ok_aI rfl k29 (by omega) (by omega) md ?_))
          cases dy s <;> exact ⟨_, _, rfl, rfl, rfl⟩
      · rw [if_neg c0, if_neg c1, if_pos c2, (hh s hs).2.1]
      · rw [if_neg c0, if_neg c1, if_neg c2, if_pos c3]
      · rw [if_neg c0, if_neg c1, if_neg c2, if_neg c3]
/-- what 'letter' answers of a letter -/
def ltA (t : Ltr) (x : Int32) : Int32 := if x = 0 then t.1.1 else if x = 1 then t.1.2.1 else if x = 2 then t.1.2.2 else if x = 3 then t.2.1.1 else if x = 4 then t.2.1.2.1 else if x = 5 then (if t.1.1 = 4 then 0 else if t.1.1 = 5 then 0 else t.2.1.2.2) else -1
theorem c_btw {x : Nat} {v : Int32} (k : wK w x = 3) (h : wI w x 0 = v) : f_X2_isBetweenServers x w = some (if v = 3 ∨ v = 4 then 1 else 0, w) := by
  refine ok_eq ?_
  unfold f_X2_isBetweenServers
  refine ok_gI k h (ok_if (fun c => ok_z (Or.inr rfl) ⟨?_, rfl⟩) (fun c => ok_gI k h (ok_if (fun c1 => ok_z (Or.inr rfl) ⟨?_, rfl⟩) (fun c1 => ok_z (Or.inl rfl) ⟨?_, rfl⟩))))
  · rw [if_pos (Or.inl c)]
  · rw [if_pos (Or.inr c1)]
  · rw [if_neg (fun z => z.elim c c1)]
def knd (t : Ltr) : Prop := t.1.1 = 1 ∨ t.1.1 = 2 ∨ t.1.1 = 3 ∨ t.1.1 = 4 ∨ t.1.1 = 5
theorem LtOk.knd {S : Nat} {cl : Nat → ClD} {op : Nat} {t : Ltr} (h : LtOk S cl op t) : knd t := by
  rcases h with ⟨h, -⟩ | ⟨h, -⟩ | ⟨h, -⟩ | ⟨h, -⟩ | ⟨h, -⟩
  · exact Or.inl h
  · exact Or.inr (Or.inl h)
  · exact Or.inr (Or.inr (Or.inl h))
  · exact Or.inr (Or.inr (Or.inr (Or.inl h)))
  · exact Or.inr (Or.inr (Or.inr (Or.inr h)))
theorem c_part {x : Nat} {t : Ltr} (h : LTC w x t) (hk : knd t) (y : Int32) : f_X2_part x y w = some (ltA t y, w) := by
  obtain ⟨⟨k, i0, i1', i2⟩, h1, h2, h3, h4, h5⟩ := h
  refine ok_eq ?_
  have eb := c_btw k i0
  have q3 : ok (chk w (some x) 3 (fun a23 => bnd (f_X2_isBetweenServers a23 w) (fun v20 w21 => if v20 = 0 then (gI w21 (some x) 3 3 (fun v28 => some (v28, w21))) else (gI w21 (some x) 3 4 (fun v33 => some (v33, w21)))))) (fun a b => a = t.2.1.1 ∧ b = w) := by
    refine ok_chk k (ok_use eb ?_)
    rcases hk with e | e | e | e | e <;> rw [e]
    · exact ok_t rfl (ok_gI k (h1 e).1 (ok_ret ⟨rfl, rfl⟩))
    · exact ok_t rfl (ok_gI k (h2 e).1 (ok_ret ⟨rfl, rfl⟩))
    · exact ok_f (by decide) (ok_gI k (h3 e).1 (ok_ret ⟨rfl, rfl⟩))
    · exact ok_f (by decide) (ok_gI k (h4 e).1 (ok_ret ⟨rfl, rfl⟩))
    · exact ok_t rfl (ok_gI k (h5 e).1 (ok_ret ⟨rfl, rfl⟩))
  have q4 : ok (f_X2_fourthPart x w) (fun a b => a = t.2.1.2.1 ∧ b = w) := by
    unfold f_X2_fourthPart
    refine ok_chk k (ok_use eb ?_)
    rcases hk with e | e | e | e | e <;> rw [e]
    · exact ok_t rfl (ok_gI k (i0.trans e) (ok_f (by decide) (ok_gI k (h1 e).2.1 (ok_ret ⟨rfl, rfl⟩))))
    · exact ok_t rfl (ok_gI k (i0.trans e) (ok_f (by decide) (ok_gI k (h2 e).2.1 (ok_ret ⟨rfl, rfl⟩))))
    · exact ok_f (by decide) (ok_gI k (h3 e).2.1 (ok_ret ⟨rfl, rfl⟩))
    · exact ok_f (by decide) (ok_gI k (h4 e).2.1 (ok_ret ⟨rfl, rfl⟩))
    · exact ok_t rfl (ok_gI k (i0.trans e) (ok_t rfl (ok_gI k (h5 e).2.1 (ok_ret ⟨rfl, rfl⟩))))
  have q5 : ok (f_X2_fifthPart x w) (fun a b => a = (if t.1.1 = 4 then 0 else if t.1.1 = 5 then 0 else t.2.1.2.2) ∧ b = w) := by
    unfold f_X2_fifthPart
    rcases hk with e | e | e | e | e
    · rw [if_neg (by rw [e]; decide), if_neg (by rw [e]; decide)]
      exact ok_gI k (i0.trans e) (ok_t rfl (ok_gI k (h1 e).2.2.1 (ok_ret ⟨rfl, rfl⟩)))
    · rw [if_neg (by rw [e]; decide), if_neg (by rw [e]; decide)]
      exact ok_gI k (i0.trans e) (ok_f (by decide) (ok_gI k (i0.trans e) (ok_t rfl (ok_gI k (h2 e).2.2.1 (ok_ret ⟨rfl, rfl⟩)))))
    · rw [if_neg (by rw [e]; decide), if_neg (by rw [e]; decide)]
      obtain ⟨-, -, -, z, st, ve, hi, z1, z2, z3, -⟩ := h3 e
      exact ok_gI k (i0.trans e) (ok_f (by decide) (ok_gI k (i0.trans e) (ok_f (by decide) (ok_gR k z1 (ok_f (by simp) (ok_gR k z1 (ok_gI z2.1.1.1 (z2.2.2.2.2.1.trans z3.symm) (ok_ret ⟨rfl, rfl⟩))))))))
    · rw [if_pos e]
      exact ok_gI k (i0.trans e) (ok_f (by decide) (ok_gI k (i0.trans e) (ok_f (by decide) (ok_gR k (h4 e).2.2.2 (ok_t rfl (ok_ret ⟨rfl, rfl⟩))))))
    · rw [if_neg (by rw [e]; decide), if_pos e]
      exact ok_gI k (i0.trans e) (ok_f (by decide) (ok_gI k (i0.trans e) (ok_f (by decide) (ok_gR k (h5 e).2.2 (ok_t rfl (ok_ret ⟨rfl, rfl⟩))))))
  unfold f_X2_part ltA
  refine ok_if (fun c0 => ok_gI k i0 (ok_ret ⟨?_, rfl⟩)) (fun c0 => ok_if (fun c1 => ok_gI k i1' (ok_ret ⟨?_, rfl⟩)) (fun c1 => ok_if (fun c2 => ok_gI k i2 (ok_ret ⟨?_, rfl⟩)) (fun c2 => ok_if (fun c3 => ?_) (fun c3 => ok_if (fun c4 => ok_chk k (ok_call q4 (fun v w' z => ok_ret ⟨?_, z.2⟩))) (fun c4 => ok_if (fun c5 => ok_chk k (ok_call q5 (fun v w' z => ok_ret ⟨?_, z.2⟩))) (fun c5 => ok_ret ⟨?_, rfl⟩))))))
  · rw [if_pos c0]
  · rw [if_neg c0, if_pos c1]
  · rw [if_neg c0, if_neg c1, if_pos c2]
  · rw [if_neg c0, if_neg c1, if_neg c2, if_pos c3]; exact q3
  · rw [if_neg c0, if_neg c1, if_neg c2, if_neg c3, if_pos c4]; exact z.1
  · rw [if_neg c0, if_neg c1, if_neg c2, if_neg c3, if_neg c4, if_pos c5]; exact z.1
  · rw [if_neg c0, if_neg c1, if_neg c2, if_neg c3, if_neg c4, if_neg c5]
/-- the letter at a place of the row, by both -/
theorem c_at (h : RC w o S le sc cl mem kept up cn row held) {i : Nat} (hi : i < row.length) : ∃ x, f_X3_at (aRw o S) (nI i) w = some (some x, w) ∧ LTC w x row[i] ∧ aMo o S + 45 ≤ x ∧ x < wn w := by
  obtain ⟨La, hr, hl⟩ := h.2.2.2.2.2.1
  have hil : i < La.length := by rw [hl.1]; exact hi
  have := hr.2.2.2.2.2.1
  have := hr.2.2.2.2.2.2.1
  refine ⟨La[i], ?_, hl.2 i _ _ (List.getElem?_eq_getElem hil) (List.getElem?_eq_getElem hi)⟩
  rw [row_at hr]
  unfold rowGet
  rw [if_neg (nI_pos (by omega)), nI_clamp (by omega), List.getElem?_eq_getElem hil]
theorem c_at_out (h : RC w o S le sc cl mem kept up cn row held) {x : Int32} (hx : ¬ ∃ i, i < row.length ∧ x = nI i) : f_X3_at (aRw o S) x w = some (none, w) := by
  obtain ⟨La, hr, hl⟩ := h.2.2.2.2.2.1
  rw [row_at hr]
  unfold rowGet
  by_cases c : x < 0
  · rw [if_pos c]
  · rw [if_neg c, List.getElem?_eq_none]
    obtain ⟨e1, e2⟩ := nn_of c
    exact Nat.not_lt.mp (fun z => hx ⟨_, by rw [← hl.1]; exact z, e1⟩)
theorem RC.len (h : RC w o S le sc cl mem kept up cn row held) : row.length ≤ 400 := by
  obtain ⟨La, hr, hl⟩ := h.2.2.2.2.2.1
  rw [← hl.1]; exact hr.2.2.2.2.2.1
theorem st_letter (x y : Int32) : Same2 o S le (f_X5_letter o x y) (f_X6_letter_ (aMo o S) x y) := by
  rintro w k hk ⟨sc, cl, mem, kept, up, dy, row, held, hR, hI⟩
  have k0 := hR.1.2.1.1.1
  have r2 := hR.1.2.1.1.2.2.2
  have m0 := hR.2.1.1.1
  have hM := hR.2.1.1
  have hlen := hR.1.len
  obtain ⟨La, hr, hl⟩ := hR.1.2.2.2.2.2.1
  obtain ⟨-, -, -, -, Lr, Lh, ⟨hr', hl'⟩, -⟩ := hR.2
  have hor := in_row (L := row.length) (by omega) x
  have e50 : wI w (aMo o S) 50 = nI row.length := by rw [hr'.1, hl'.1]
  obtain ⟨r49, k49, n49⟩ := M_row hM
  obtain ⟨r31, k31, n31⟩ := M_kind hM
  obtain ⟨r32, k32, n32⟩ := M_to hM
  obtain ⟨r33, k33, n33⟩ := M_from hM
  obtain ⟨r34, k34, n34⟩ := M_nr hM
  obtain ⟨r35, k35, n35⟩ := M_number hM
  obtain ⟨r36, k36, n36⟩ := M_info hM
  by_cases hn : 0 ≤ x ∧ x ≤ nI row.length - 1
  · obtain ⟨i, hi, rfl⟩ := hor.mp hn
    obtain ⟨x', e1, e2, e3, e4⟩ := c_at hR.1 hi
    obtain ⟨op, -, -, -, -, hrow, -⟩ := hI.2.1
    have hkn := (hrow row[i] (List.getElem_mem hi)).knd
    have hil : i < Lr.length := by rw [hl'.1]; exact hi
    obtain ⟨⟨t1, t2, t3, t4, t5, t6, t7⟩, u1, u2, u3, u4⟩ := hl'.2 i _ _ (List.getElem?_eq_getElem hil) (List.getElem?_eq_getElem hi)
    refine mkSame (r := ltA row[i] y) hR hI hk (ok_eq ?_) (ok_eq ?_)
    · unfold f_X5_letter
      exact ok_gR k0 r2 (ok_chk hr.1 (ok_use e1 (ok_f (by simp) (ok_chk e2.1.1 (ok_use (c_part e2 hkn y) (ok_ret ⟨rfl, rfl⟩))))))
    · unfold f_X6_letter_ ltA
      refine ok_gI m0 e50 (ok_use m_in ?_)
      rw [if_pos hn]
      refine ok_f (by decide) (ok_gR m0 r49 (ok_aI rfl k49 (by omega) (by omega) (hr'.2.2 i _ (List.getElem?_eq_getElem hil)) (ok_gR m0 r31 (ok_aI rfl k31 (by omega) (by omega) t3 ?_))))
      refine ok_if (fun c0 => ok_ret ⟨?_, rfl⟩) (fun c0 => ok_if (fun c1 => ok_gR m0 r32 (ok_aI rfl k32 (by omega) (by omega) t4 (ok_ret ⟨?_, rfl⟩))) (fun c1 => ok_if (fun c2 => ok_gR m0 r33 (ok_aI rfl k33 (by omega) (by omega) t5 (ok_ret ⟨?_, rfl⟩))) (fun c2 => ok_if (fun c3 => ok_gR m0 r34 (ok_aI rfl k34 (by omega) (by omega) t6 (ok_ret ⟨?_, rfl⟩))) (fun c3 => ok_if (fun c4 => ok_gR m0 r35 (ok_aI rfl k35 (by omega) (by omega) t7 (ok_ret ⟨?_, rfl⟩))) (fun c4 => ok_if (fun c5 => ?_) (fun c5 => ok_ret ⟨?_, rfl⟩))))))
      · rw [if_pos c0]
      · rw [if_neg c0, if_pos c1]
      · rw [if_neg c0, if_neg c1, if_pos c2]
      · rw [if_neg c0, if_neg c1, if_neg c2, if_pos c3]
      · rw [if_neg c0, if_neg c1, if_neg c2, if_neg c3, if_pos c4]
      · rw [if_neg c0, if_neg c1, if_neg c2, if_neg c3, if_neg c4, if_pos c5]
        refine ok_if (fun d0 => ok_ret ⟨?_, rfl⟩) (fun d0 => ok_if (fun d1 => ok_ret ⟨?_, rfl⟩) (fun d1 => ok_gR m0 r36 (ok_aI (v := row[i].2.1.2.2) rfl k36 (by omega) (by omega) ?_ (ok_ret ⟨?_, rfl⟩))))
        · rw [if_pos d0]
        · rw [if_neg d0, if_pos d1]
        · rcases hkn with e | e | e | e | e
          · exact (u1 e).1
          · exact (u2 e).1
          · exact (u3 e).1
          · exact absurd e d0
          · exact absurd e d1
        · rw [if_neg d0, if_neg d1]
      · rw [if_neg c0, if_neg c1, if_neg c2, if_neg c3, if_neg c4, if_neg c5]
  · refine mkSame (r := -1) hR hI hk (ok_eq ?_) (ok_eq ?_)
    · unfold f_X5_letter
      exact ok_gR k0 r2 (ok_chk hr.1 (ok_use (c_at_out hR.1 (fun z => hn (hor.mpr z))) (ok_t rfl (ok_ret ⟨rfl, rfl⟩))))
    · unfold f_X6_letter_
      refine ok_gI m0 e50 (ok_use m_in ?_)
      rw [if_neg hn]
      exact ok_t rfl (ok_ret ⟨rfl, rfl⟩)
end RE3
