/-! CALLS THAT ASK: state, result, server, bucket, value, record, letter -/
section RE
variable {w : Wd} {o m S : Nat} {le : Int32} {sc : Nat → Int32} {cl : Nat → ClD} {mem kept : Nat → Nat → BkD} {up cn dy : Nat → Bool} {row : List Ltr} {held : Nat → List Ltr} {fl : List (Nat × Ltr)}
theorem call_ix {L : Nat} {x : Int32} (hL : L ≤ 60) (h : 1 ≤ x ∧ x ≤ nI L) : ∃ i, i < L ∧ x = nI (i + 1) := by
  obtain ⟨h1, h2⟩ := h
  have h0 : ¬ x < 0 := fun z => absurd (Int32.lt_of_lt_of_le z (show (0 : Int32) ≤ 1 by decide)) (Int32.not_lt.mpr h1)
  obtain ⟨e1, e2⟩ := nn_of h0
  rw [e1] at h1 h2
  rw [i1, nI_leI (by omega) (by omega)] at h1
  rw [nI_leI (by omega) (by omega)] at h2
  exact ⟨x.toNatClampNeg - 1, by omega, by rw [show x.toNatClampNeg - 1 + 1 = x.toNatClampNeg by omega]; exact e1⟩
theorem CLI.cal {a c : Nat} {inc en : Int32} {cs : List Cal} {gu : Nat → Int32} (h : CLI w a c inc en cs gu) {i : Nat} (hi : i < cs.length) : wI w (a + 6) (i + 1) = cs[i].1 ∧ wL w (a + 7) (i + 1) = cs[i].2.1 ∧ wI w (a + 2) (i + 1) = cs[i].2.2.1 ∧ wI w (a + 3) (i + 1) = cs[i].2.2.2.1 ∧ wL w (a + 4) (i + 1) = cs[i].2.2.2.2.1 ∧ wL w (a + 5) (i + 1) = cs[i].2.2.2.2.2 := by
  have e := h.2.2.2.2.2.2.1 i _ (List.getElem?_eq_getElem hi)
  rw [← e]
  exact ⟨rfl, rfl, rfl, rfl, rfl, rfl⟩
theorem CLM.cal {c : Nat} {inc en : Int32} {cs : List Cal} {gu : Nat → Int32} (h : CLM w m c inc en cs gu) {i : Nat} (hi : i < cs.length) : wI w (m + 5) (60 * c + i) = cs[i].1 ∧ wL w (m + 6) (60 * c + i) = cs[i].2.1 ∧ wI w (m + 7) (60 * c + i) = cs[i].2.2.1 ∧ wI w (m + 8) (60 * c + i) = cs[i].2.2.2.1 ∧ wL w (m + 9) (60 * c + i) = cs[i].2.2.2.2.1 ∧ wL w (m + 10) (60 * c + i) = cs[i].2.2.2.2.2 := by
  have e := h.2.2.2.2.1 i _ (List.getElem?_eq_getElem hi)
  rw [← e]
  exact ⟨rfl, rfl, rfl, rfl, rfl, rfl⟩
theorem m_isCall_out {x y : Int32} (hx : x < 0 ∨ nI 6 ≤ x) : f_X6_isCall m x y w = some (0, w) := by
  refine ok_eq ?_
  unfold f_X6_isCall
  refine ok_use m_isClient ?_
  rw [if_neg (out6 hx)]
  exact ok_t rfl (ok_z (Or.inl rfl) ⟨rfl, rfl⟩)
theorem m_isCall (h : RMF w m S le sc cl mem kept up dy row held fl) {c : Nat} (hc : c < 6) (x : Int32) : f_X6_isCall m (nI c) x w = some (if 1 ≤ x ∧ x ≤ nI (cl c).2.2.1.length then 1 else 0, w) := by
  have hM := h.1.1
  obtain ⟨a1, a2, a3, a4, -⟩ := h.2.1 c hc
  obtain ⟨r9, k9, n9⟩ := M_calls hM
  refine ok_eq ?_
  unfold f_X6_isCall
  refine ok_use m_isClient ?_
  rw [if_pos (in6 hc)]
  refine ok_f (by decide) (ok_gR hM.1 r9 (ok_aI rfl k9 (by omega) (by omega) a3 (ok_use m_in ?_)))
  by_cases hn : 1 ≤ x ∧ x ≤ nI (cl c).2.2.1.length
  · rw [if_pos hn]
    exact ok_f (by decide) (ok_z (Or.inr rfl) ⟨rfl, rfl⟩)
  · rw [if_neg hn]
    exact ok_t rfl (ok_z (Or.inl rfl) ⟨rfl, rfl⟩)
theorem st_state (x y : Int32) : Same2 o S le (f_X5_state o x y) (f_X6_state (aMo o S) x y) := by
  rintro w k hk ⟨sc, cl, mem, kept, up, dy, row, held, hR, hI⟩
  have k0 := hR.1.2.1.1.1
  have m0 := hR.2.1.1.1
  have out : (x < 0 ∨ nI 6 ≤ x) → ∃ v w1 w2, f_X5_state o x y w = some (v, w1) ∧ wK w1 (aMo o S) = 7 ∧ f_X6_state (aMo o S) x y w1 = some (v, w2) ∧ Rel w2 o S le (k + 1) := by
    intro hx
    refine mkSame (r := -1) hR hI hk (ok_eq ?_) (ok_eq ?_)
    · unfold f_X5_state
      exact ok_chk k0 (ok_use (c_cl_out hR.1 hx) (ok_t rfl (ok_ret ⟨rfl, rfl⟩)))
    · unfold f_X6_state
      exact ok_chk m0 (ok_use (m_isCall_out hx) (ok_t rfl (ok_ret ⟨rfl, rfl⟩)))
  rcases pk_ix x (n := 6) (by omega) with hx | hx | ⟨c, hc, rfl⟩
  · exact out (Or.inl hx)
  · exact out (Or.inr hx)
  · have hcl := hR.1.2.2.2.1 c hc
    have hcm := hR.2.2.1 c hc
    have l60 := hcm.2.2.2.1
    obtain ⟨⟨⟨kc, -, -, -, -, -, l9, l10⟩, -, -, -, -, -, ⟨k6, n6⟩, ⟨k7, n7⟩⟩, -⟩ := hR.1.2.2.2.1 c hc
    obtain ⟨r11, k11, n11⟩ := M_state hR.2.1.1
    have e1 := cl_has hcl y
    have e2 := m_isCall hR.2 hc y
    by_cases hn : 1 ≤ y ∧ y ≤ nI (cl c).2.2.1.length
    · rw [if_pos hn] at e1 e2
      obtain ⟨i, hi, rfl⟩ := call_ix l60 hn
      refine mkSame (r := (cl c).2.2.1[i].1) hR hI hk (ok_eq ?_) (ok_eq ?_)
      · unfold f_X5_state
        exact ok_chk k0 (ok_use (c_cl_in hR.1 hc) (ok_f (by simp) (ok_chk kc (ok_use e1 (ok_f (by decide) (ok_gR kc l9 (ok_aI rfl k6 (by omega) (by omega) (CLI.cal hcl hi).1 (ok_ret ⟨rfl, rfl⟩))))))))
      · unfold f_X6_state
        exact ok_chk m0 (ok_use e2 (ok_f (by decide) (ok_gR m0 r11 (ok_aI (m60p c i) k11 (by omega) (by omega) (CLM.cal hcm hi).1 (ok_ret ⟨rfl, rfl⟩)))))
    · rw [if_neg hn] at e1 e2
      refine mkSame (r := -1) hR hI hk (ok_eq ?_) (ok_eq ?_)
      · unfold f_X5_state
        exact ok_chk k0 (ok_use (c_cl_in hR.1 hc) (ok_f (by simp) (ok_chk kc (ok_use e1 (ok_t rfl (ok_ret ⟨rfl, rfl⟩))))))
      · unfold f_X6_state
        exact ok_chk m0 (ok_use e2 (ok_t rfl (ok_ret ⟨rfl, rfl⟩)))
theorem st_result (x y : Int32) : Same2 o S le (f_X5_result o x y) (f_X6_result (aMo o S) x y) := by
  rintro w k hk ⟨sc, cl, mem, kept, up, dy, row, held, hR, hI⟩
  have k0 := hR.1.2.1.1.1
  have m0 := hR.2.1.1.1
  have out : (x < 0 ∨ nI 6 ≤ x) → ∃ v w1 w2, f_X5_result o x y w = some (v, w1) ∧ wK w1 (aMo o S) = 7 ∧ f_X6_result (aMo o S) x y w1 = some (v, w2) ∧ Rel w2 o S le (k + 1) := by
    intro hx
    refine mkSame (r := 0) hR hI hk (ok_eq ?_) (ok_eq ?_)
    · unfold f_X5_result
      exact ok_chk k0 (ok_use (c_cl_out hR.1 hx) (ok_t rfl (ok_ret ⟨rfl, rfl⟩)))
    · unfold f_X6_result
      exact ok_chk m0 (ok_use (m_isCall_out hx) (ok_t rfl (ok_ret ⟨rfl, rfl⟩)))
  rcases pk_ix x (n := 6) (by omega) with hx | hx | ⟨c, hc, rfl⟩
  · exact out (Or.inl hx)
  · exact out (Or.inr hx)
  · have hcl := hR.1.2.2.2.1 c hc
    have hcm := hR.2.2.1 c hc
    have l60 := hcm.2.2.2.1
    obtain ⟨⟨⟨kc, -, -, -, -, -, l9, l10⟩, -, -, -, -, -, ⟨k6, n6⟩, ⟨k7, n7⟩⟩, -⟩ := hR.1.2.2.2.1 c hc
    obtain ⟨r11, k11, n11⟩ := M_state hR.2.1.1
    obtain ⟨r12, k12, n12⟩ := M_result hR.2.1.1
    have e1 := cl_has hcl y
    have e2 := m_isCall hR.2 hc y
    by_cases hn : 1 ≤ y ∧ y ≤ nI (cl c).2.2.1.length
    · rw [if_pos hn] at e1 e2
      obtain ⟨i, hi, rfl⟩ := call_ix l60 hn
      refine mkSame (r := if (cl c).2.2.1[i].1 = 1 then (cl c).2.2.1[i].2.1 else 0) hR hI hk (ok_eq ?_) (ok_eq ?_)
      · unfold f_X5_result
        refine ok_chk k0 (ok_use (c_cl_in hR.1 hc) (ok_f (by simp) (ok_chk kc (ok_use e1 (ok_f (by decide) (ok_gR kc l9 (ok_aI rfl k6 (by omega) (by omega) (CLI.cal hcl hi).1 (ok_if (fun c1 => ok_gR kc l10 (ok_aL rfl k7 (by omega) (by omega) (CLI.cal hcl hi).2.1 (ok_ret ⟨?_, rfl⟩))) (fun c1 => ok_ret ⟨?_, rfl⟩)))))))))
        · rw [if_pos c1]
        · rw [if_neg c1]
      · unfold f_X6_result
        refine ok_chk m0 (ok_use e2 (ok_f (by decide) (ok_gR m0 r11 (ok_aI (m60p c i) k11 (by omega) (by omega) (CLM.cal hcm hi).1 (ok_if (fun c1 => ok_gR m0 r12 (ok_aL (m60p c i) k12 (by omega) (by omega) (CLM.cal hcm hi).2.1 (ok_ret ⟨?_, rfl⟩))) (fun c1 => ok_ret ⟨?_, rfl⟩))))))
        · rw [if_pos c1]
        · rw [if_neg c1]
    · rw [if_neg hn] at e1 e2
      refine mkSame (r := 0) hR hI hk (ok_eq ?_) (ok_eq ?_)
      · unfold f_X5_result
        exact ok_chk k0 (ok_use (c_cl_in hR.1 hc) (ok_f (by simp) (ok_chk kc (ok_use e1 (ok_t rfl (ok_ret ⟨rfl, rfl⟩))))))
      · unfold f_X6_result
        exact ok_chk m0 (ok_use e2 (ok_t rfl (ok_ret ⟨rfl, rfl⟩)))
-- servers and buckets
theorem m_sv_in (h : RMF w m S le sc cl mem kept up dy row held fl) (h2 : 2 ≤ S) (h4 : S ≤ 4) {s : Nat} (hs : s < S) : f_X6_isServer m (nI s) w = some (1, w) := by
  rw [m_isServer h.1.1 h.1.2.1 (by omega) h4, if_pos]
  exact ⟨nI_pos' (by omega), by rw [nI_leI (by omega) (by omega)]; omega⟩
theorem m_sv_out (h : RMF w m S le sc cl mem kept up dy row held fl) (h2 : 2 ≤ S) (h4 : S ≤ 4) {x : Int32} (hx : x < 0 ∨ nI S ≤ x) : f_X6_isServer m x w = some (0, w) := by
  rw [m_isServer h.1.1 h.1.2.1 (by omega) h4, if_neg]
  rintro ⟨a, b⟩
  rcases hx with hx | hx
  · exact absurd hx (Int32.not_lt.mpr a)
  · have := Int32.le_trans hx b
    rw [nI_leI (by omega) (by omega)] at this
    omega
theorem out8 {x : Int32} (hx : x < 0 ∨ nI 8 ≤ x) : ¬ (0 ≤ x ∧ x ≤ 7) := by
  rintro ⟨h1, h2⟩
  rcases hx with h | h
  · exact absurd h (Int32.not_lt.mpr h1)
  · have := Int32.le_trans h h2
    rw [show (7 : Int32) = nI 7 from rfl, nI_leI (by omega) (by omega)] at this
    omega
theorem in8 {c : Nat} (hc : c < 8) : 0 ≤ nI c ∧ nI c ≤ 7 := ⟨nI_pos' (by omega), by rw [show (7 : Int32) = nI 7 from rfl, nI_leI (by omega) (by omega)]; omega⟩
theorem c_bkt_so (h : RC w o S le sc cl mem kept up cn row held) {x y : Int32} (hx : x < 0 ∨ nI S ≤ x) : f_X5_bucketAt o x y w = some (none, w) := by
  refine ok_eq ?_
  unfold f_X5_bucketAt
  exact ok_chk h.2.1.1.1 (ok_use (c_sv_out h hx) (ok_t rfl (ok_ret ⟨rfl, rfl⟩)))
theorem c_bkt_bo (h : RC w o S le sc cl mem kept up cn row held) {s : Nat} (hs : s < S) {y : Int32} (hy : y < 0 ∨ nI 8 ≤ y) : f_X5_bucketAt o (nI s) y w = some (none, w) := by
  refine ok_eq ?_
  unfold f_X5_bucketAt
  exact ok_chk h.2.1.1.1 (ok_use (c_sv_in h hs) (ok_f (by simp) (ok_chk (h.2.2.1 s hs).1.1 (ok_use (c_bk_out hy) (ok_ret ⟨rfl, rfl⟩)))))
theorem c_bkt_in (h : RC w o S le sc cl mem kept up cn row held) {s b : Nat} (hs : s < S) (hb : b < 8) : f_X5_bucketAt o (nI s) (nI b) w = some (some (aMb o s b), w) := by
  refine ok_eq ?_
  unfold f_X5_bucketAt
  exact ok_chk h.2.1.1.1 (ok_use (c_sv_in h hs) (ok_f (by simp) (ok_chk (h.2.2.1 s hs).1.1 (ok_use (c_bk_in h hs hb) (ok_ret ⟨rfl, rfl⟩)))))
theorem bI_0 {b : Bool} (h : bI b = 0) : b = false := by
  cases b
  · rfl
  · exact absurd h (by decide)
theorem bI_1 {b : Bool} (h : ¬ bI b = 0) : b = true := by
  cases b
  · exact absurd rfl h
  · rfl
/-- where the reference has what is shown of server s -/
theorem m_store (h : RMF w m S le sc cl mem kept up dy row held fl) (h4 : S ≤ 4) {s : Nat} (hs : s < S) : ok (f_X6_store m (nI s) w) (fun v w' => w' = w ∧ ∃ a, v = nI a ∧ a ≤ 56 ∧ ∀ b, b < 8 → BKM w m (a + b) (mxm up mem kept s b)) := by
  have hM := h.1.1
  obtain ⟨r28, k28, n28⟩ := M_up hM
  have hu := (h.2.2.1 s hs).1
  unfold f_X6_store
  refine ok_gR hM.1 r28 (ok_aI rfl k28 (by omega) (by omega) hu (ok_if (fun c1 => ok_ret ⟨rfl, 16 * s + 8, ?_, by omega, fun b hb => ?_⟩) (fun c1 => ok_ret ⟨rfl, 16 * s, ?_, by omega, fun b hb => ?_⟩)))
  · rw [show (16 : Int32) = nI 16 from rfl, pk_mul, show (8 : Int32) = nI 8 from rfl, nI_add]
  · have e := bI_0 c1
    have := (h.2.2.2.1 s b hs hb).2
    unfold mxm
    rw [e]
    exact this
  · rw [show (16 : Int32) = nI 16 from rfl, pk_mul]
  · have e := bI_1 c1
    have := (h.2.2.2.1 s b hs hb).1 e
    unfold mxm
    rw [e]
    exact this
/-- what 'bucket' answers -/
def bkA (d : BkD) (x : Int32) : Int32 := if 10 ≤ x ∧ x ≤ 15 then d.2.2.2.2.2.1 (x.toNatClampNeg - 10) else if 20 ≤ x ∧ x ≤ 25 then d.2.2.2.2.2.2 (x.toNatClampNeg - 20) else if x = 0 then d.1 else if x = 1 then d.2.1 else if x = 2 then d.2.2.1 else if x = 3 then nI d.2.2.2.2.1.length else -1
theorem iab {y : Int32} {a b : Nat} (hb : b < 2 ^ 31) (h1 : nI a ≤ y) (h2 : y ≤ nI b) (ha : a < 2 ^ 31) : ∃ j, a ≤ j ∧ j ≤ b ∧ y = nI j := by
  have h0 : ¬ y < 0 := fun z => absurd (Int32.lt_of_lt_of_le z (nI_pos' ha)) (Int32.not_lt.mpr h1)
  obtain ⟨e1, e2⟩ := nn_of h0
  rw [e1] at h1 h2
  rw [nI_leI (by omega) (by omega)] at h1 h2
  exact ⟨_, h1, h2, e1⟩
theorem c_bkA {a : Nat} {d : BkD} (h : BKd w a d) (y : Int32) : ok (if y < 10 then f_X5_bucket_38 y (some a) w else (if 16 ≤ y then f_X5_bucket_38 y (some a) w else (gR w (some a) 1 9 (fun v48 => aI w v48 100 (y - 10) (fun v53 => some (v53, w)))))) (fun v w' => v = bkA d y ∧ w' = w) := by
  obtain ⟨⟨⟨k0, l4, l5, l6, l7, l8, l9, l10⟩, -, -, -, -, -, ⟨k6, n6⟩, ⟨k7, n7⟩⟩, g0, g1, g2, g3, gl, gv, gr, gk, gf⟩ := h
  have q38 : ¬ (10 ≤ y ∧ y ≤ 15) → ok (f_X5_bucket_38 y (some a) w) (fun v w' => v = bkA d y ∧ w' = w) := by
    intro hn
    unfold f_X5_bucket_38 bkA
    rw [if_neg hn]
    have q61 : ¬ (20 ≤ y ∧ y ≤ 25) → ok (f_X5_bucket_61 y (some a) w) (fun v w' => v = (if 20 ≤ y ∧ y ≤ 25 then d.2.2.2.2.2.2 (y.toNatClampNeg - 20) else if y = 0 then d.1 else if y = 1 then d.2.1 else if y = 2 then d.2.2.1 else if y = 3 then nI d.2.2.2.2.1.length else -1) ∧ w' = w) := by
      intro hm
      rw [if_neg hm]
      unfold f_X5_bucket_61
      refine ok_if (fun c0 => ok_gI k0 g0 (ok_ret ⟨?_, rfl⟩)) (fun c0 => ok_if (fun c1 => ok_gI k0 g1 (ok_ret ⟨?_, rfl⟩)) (fun c1 => ok_if (fun c2 => ok_gI k0 g2 (ok_ret ⟨?_, rfl⟩)) (fun c2 => ok_if (fun c3 => ok_gI k0 g3 (ok_ret ⟨?_, rfl⟩)) (fun c3 => ok_ret ⟨?_, rfl⟩))))
      · rw [if_pos c0]
      · rw [if_neg c0, if_pos c1]
      · rw [if_neg c0, if_neg c1, if_pos c2]
      · rw [if_neg c0, if_neg c1, if_neg c2, if_pos c3]
      · rw [if_neg c0, if_neg c1, if_neg c2, if_neg c3]
    refine ok_if (fun c1 => q61 (fun z => absurd c1 (Int32.not_lt.mpr z.1))) (fun c1 => ok_if (fun c2 => q61 (fun z => absurd (Int32.le_trans c2 z.2) (by decide))) (fun c2 => ?_))
    have hin : 20 ≤ y ∧ y ≤ 25 := ⟨Int32.not_lt.mp c1, by
      have := Int32.not_le.mp c2
      obtain ⟨e1, e2⟩ := nn_of (fun z => c1 (Int32.lt_of_lt_of_le z (by decide)) : ¬ y < 0)
      rw [e1] at this ⊢
      rw [show (26 : Int32) = nI 26 from rfl, nI_ltI (by omega) (by omega)] at this
      rw [show (25 : Int32) = nI 25 from rfl, nI_leI (by omega) (by omega)]; omega⟩
    obtain ⟨j, j1, j2, rfl⟩ := iab (a := 20) (b := 25) (by omega) hin.1 hin.2 (by omega)
    refine ok_gR k0 l10 (ok_aI (n := j - 20) (nsub j1) k7 (by omega) (by omega) (gf (j - 20) (by omega)) (ok_ret ⟨?_, rfl⟩))
    rw [if_pos hin, nI_clamp (by omega)]
  refine ok_if (fun c1 => q38 (fun z => absurd c1 (Int32.not_lt.mpr z.1))) (fun c1 => ok_if (fun c2 => q38 (fun z => absurd (Int32.le_trans c2 z.2) (by decide))) (fun c2 => ?_))
  have hin : 10 ≤ y ∧ y ≤ 15 := ⟨Int32.not_lt.mp c1, by
    have := Int32.not_le.mp c2
    obtain ⟨e1, e2⟩ := nn_of (fun z => c1 (Int32.lt_of_lt_of_le z (by decide)) : ¬ y < 0)
    rw [e1] at this ⊢
    rw [show (16 : Int32) = nI 16 from rfl, nI_ltI (by omega) (by omega)] at this
    rw [show (15 : Int32) = nI 15 from rfl, nI_leI (by omega) (by omega)]; omega⟩
  obtain ⟨j, j1, j2, rfl⟩ := iab (a := 10) (b := 15) (by omega) hin.1 hin.2 (by omega)
  refine ok_gR k0 l9 (ok_aI (n := j - 10) (nsub j1) k6 (by omega) (by omega) (gk (j - 10) (by omega)) (ok_ret ⟨?_, rfl⟩))
  unfold bkA
  rw [if_pos hin, nI_clamp (by omega)]
theorem i6 (a j p : Nat) (h : p ≤ j) : (6 : Int32) * nI a + nI j - nI p = nI (6 * a + (j - p)) := by
  rw [show (6 : Int32) = nI 6 from rfl, pk_mul, nI_add, nsub (by omega)]
  congr 1; omega
theorem st_bucket (x y z : Int32) : Same2 o S le (f_X5_bucket o x y z) (f_X6_bucket (aMo o S) x y z) := by
  rintro w k hk ⟨sc, cl, mem, kept, up, dy, row, held, hR, hI⟩
  have k0 := hR.1.2.1.1.1
  have m0 := hR.2.1.1.1
  have h2 := hR.1.1.1
  have h4 := hR.1.1.2.1
  have hM := hR.2.1.1
  have out : (x < 0 ∨ nI S ≤ x) → ∃ v w1 w2, f_X5_bucket o x y z w = some (v, w1) ∧ wK w1 (aMo o S) = 7 ∧ f_X6_bucket (aMo o S) x y z w1 = some (v, w2) ∧ Rel w2 o S le (k + 1) := by
    intro hx
    refine mkSame (r := -1) hR hI hk (ok_eq ?_) (ok_eq ?_)
    · unfold f_X5_bucket
      exact ok_chk k0 (ok_use (c_bkt_so hR.1 hx) (ok_t rfl (ok_ret ⟨rfl, rfl⟩)))
    · unfold f_X6_bucket
      exact ok_chk m0 (ok_use (m_sv_out hR.2 h2 h4 hx) (ok_t rfl (ok_ret ⟨rfl, rfl⟩)))
  rcases pk_ix x (n := S) (by omega) with hx | hx | ⟨s, hs, rfl⟩
  · exact out (Or.inl hx)
  · exact out (Or.inr hx)
  · have out2 : (y < 0 ∨ nI 8 ≤ y) → ∃ v w1 w2, f_X5_bucket o (nI s) y z w = some (v, w1) ∧ wK w1 (aMo o S) = 7 ∧ f_X6_bucket (aMo o S) (nI s) y z w1 = some (v, w2) ∧ Rel w2 o S le (k + 1) := by
      intro hy
      refine mkSame (r := -1) hR hI hk (ok_eq ?_) (ok_eq ?_)
      · unfold f_X5_bucket
        exact ok_chk k0 (ok_use (c_bkt_bo hR.1 hs hy) (ok_t rfl (ok_ret ⟨rfl, rfl⟩)))
      · unfold f_X6_bucket
        refine ok_chk m0 (ok_use (m_sv_in hR.2 h2 h4 hs) (ok_f (by decide) (ok_use m_in ?_)))
        rw [if_neg (out8 hy)]
        exact ok_t rfl (ok_ret ⟨rfl, rfl⟩)
    rcases pk_ix y (n := 8) (by omega) with hy | hy | ⟨b, hb, rfl⟩
    · exact out2 (Or.inl hy)
    · exact out2 (Or.inr hy)
    · refine mkSame (r := bkA (mxm up mem kept s b) z) hR hI hk (ok_eq ?_) (ok_eq ?_)
      · unfold f_X5_bucket
        exact ok_chk k0 (ok_use (c_bkt_in hR.1 hs hb) (ok_f (by simp) (c_bkA (hR.1.2.2.2.2.1 s b hs hb).1 z)))
      · unfold f_X6_bucket
        refine ok_chk m0 (ok_use (m_sv_in hR.2 h2 h4 hs) (ok_f (by decide) (ok_use m_in ?_)))
        rw [if_pos (in8 hb)]
        refine ok_f (by decide) (ok_chk m0 (ok_call (m_store hR.2 h4 hs) ?_))
        rintro v w' ⟨rfl, a, rfl, ha, hB⟩
        obtain ⟨g0, g1, g2, g3, gl, gv, gr, gk, gf⟩ := hB b hb
        obtain ⟨r17, k17, n17⟩ := M_status hM
        obtain ⟨r18, k18, n18⟩ := M_version hM
        obtain ⟨r19, k19, n19⟩ := M_hint hM
        obtain ⟨r21, k21, n21⟩ := M_size hM
        obtain ⟨r26, k26, n26⟩ := M_known hM
        obtain ⟨r27, k27, n27⟩ := M_knownFirst hM
        rw [nI_add]
        refine ok_use m_in ?_
        unfold bkA
        by_cases hn : 10 ≤ z ∧ z ≤ 15
        · rw [if_pos hn, if_pos hn]
          obtain ⟨j, j1, j2, rfl⟩ := iab (a := 10) (b := 15) (by omega) hn.1 hn.2 (by omega)
          rw [nI_clamp (by omega)]
          exact ok_f (by decide) (ok_gR m0 r26 (ok_aI (i6 (a + b) j 10 j1) k26 (by omega) (by omega) (gk (j - 10) (by omega)) (ok_ret ⟨rfl, rfl⟩)))
        · rw [if_neg hn, if_neg hn]
          refine ok_t rfl (ok_use m_in ?_)
          by_cases hn2 : 20 ≤ z ∧ z ≤ 25
          · rw [if_pos hn2, if_pos hn2]
            obtain ⟨j, j1, j2, rfl⟩ := iab (a := 20) (b := 25) (by omega) hn2.1 hn2.2 (by omega)
            rw [nI_clamp (by omega)]
            exact ok_f (by decide) (ok_gR m0 r27 (ok_aI (i6 (a + b) j 20 j1) k27 (by omega) (by omega) (gf (j - 20) (by omega)) (ok_ret ⟨rfl, rfl⟩)))
          · rw [if_neg hn2, if_neg hn2]
            refine ok_t rfl (ok_if (fun c0 => ok_gR m0 r17 (ok_aI rfl k17 (by omega) (by omega) g0 (ok_ret ⟨?_, rfl⟩))) (fun c0 => ok_if (fun c1 => ok_gR m0 r18 (ok_aI rfl k18 (by omega) (by omega) g1 (ok_ret ⟨?_, rfl⟩))) (fun c1 => ok_if (fun c2 => ok_gR m0 r19 (ok_aI rfl k19 (by omega) (by omega) g2 (ok_ret ⟨?_, rfl⟩))) (fun c2 => ok_if (fun c3 => ok_gR m0 r21 (ok_aI rfl k21 (by omega) (by omega) g3 (ok_ret ⟨?_, rfl⟩))) (fun c3 => ok_ret ⟨?_, rfl⟩)))))
            · rw [if_pos c0]
            · rw [if_neg c0, if_pos c1]
            · rw [if_neg c0, if_neg c1, if_pos c2]
            · rw [if_neg c0, if_neg c1, if_neg c2, if_pos c3]
            · rw [if_neg c0, if_neg c1, if_neg c2, if_neg c3]
end RE
