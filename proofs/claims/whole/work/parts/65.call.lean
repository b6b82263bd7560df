/-! RETRY, CALL -/
section CA
variable {w w' : Wd} {o m S : Nat} {le : Int32} {sc : Nat → Int32} {cl : Nat → ClD} {mem kept : Nat → Nat → BkD} {up cn dy : Nat → Bool} {row : List Ltr} {held : Nat → List Ltr} {fl : List (Nat × Ltr)}
/-- the request of client c's call i (from 0), of key k -/
def mkReq (d : ClD) (c i k : Nat) (r : Cal) : Ltr := ((1, d.2.2.2 (k % 8), nI c), (d.1, nI (i + 1), nI (fst1 d.2.2.1)), (r.2.2.1, r.2.2.2.1, r.2.2.2.2.1, r.2.2.2.2.2), noLoad)
theorem c_reqOf (h : RC w o S le sc cl mem kept up cn row held) {c i k : Nat} (hc : c < 6) (hi : i < (cl c).2.2.1.length) (hk : k < 32) (hr : (cl c).2.2.1[i].2.2.1 = nI k) : ok (f_X5_requestOf (some (aCl o S c)) (nI (i + 1)) w) (fun v w' => v = some (wn w) ∧ NewF w w' ∧ wn w < wn w' ∧ LTC w' (wn w) (mkReq (cl c) c i k (cl c).2.2.1[i])) := by
  have hx : wn w ≤ wn w := Nat.le_refl _
  have hcl := h.2.2.2.1 c hc
  have l60 := hcl.2.2.2.2.2.1
  obtain ⟨⟨⟨kc, l4, l5, l6, l7, l8, l9, l10⟩, ⟨k1, n1⟩, ⟨k2, n2⟩, ⟨k3, n3⟩, ⟨k4, n4⟩, ⟨k5, n5⟩, ⟨k6, n6⟩, ⟨k7, n7⟩⟩, -⟩ := hcl
  obtain ⟨q1, q2, q3, q4, q5, q6⟩ := CLI.cal (h.2.2.2.1 c hc) hi
  unfold f_X5_requestOf
  refine ok_gR kc l5 (ok_aI rfl k2 (by omega) (by omega) (q3.trans hr) (ok_new h.1.2.2.1 (fun w1 g1 c1 => ?_)))
  obtain ⟨⟨⟨kc, l4, l5, l6, l7, l8, l9, l10⟩, ⟨k1, n1⟩, ⟨k2, n2⟩, ⟨k3, n3⟩, ⟨k4, n4⟩, ⟨k5, n5⟩, ⟨k6, n6⟩, ⟨k7, n7⟩⟩, p0, p1, p2, p3, p4, p5, pg⟩ := (h.nw g1).1.2.2.2.1 c hc
  refine ok_gR kc l4 (ok_use (rfl : f_X5_bucketOf (nI k) w1 = _) (ok_aI (mod8 (by omega)) k1 (by omega) (by omega) (pg (k % 8) (by omega)) (ok_gI kc p0 (ok_ini g1 c1 hx (fun w2 g2 c2 => ?_)))))
  obtain ⟨⟨⟨kc, -⟩, -⟩, p0, p1, -⟩ := (h.nw g2).1.2.2.2.1 c hc
  refine ok_gI kc p1 (ok_nI g2 c2 hx (fun w3 g3 c3 => ok_nI g3 c3 hx (fun w4 g4 c4 => ?_)))
  have hcl4 := (h.nw g4).1.2.2.2.1 c hc
  refine ok_chk hcl4.1.1.1 (ok_use (cl_first hcl4) (ok_nI g4 c4 hx (fun w5 g5 c5 => ok_nI g5 c5 hx (fun w6 g6 c6 => ?_))))
  have hcl6 := (h.nw g6).1.2.2.2.1 c hc
  obtain ⟨q1, q2, q3, q4, q5, q6⟩ := CLI.cal hcl6 hi
  obtain ⟨⟨⟨kc, l4, l5, l6, l7, l8, l9, l10⟩, ⟨k1, n1⟩, ⟨k2, n2⟩, ⟨k3, n3⟩, ⟨k4, n4⟩, ⟨k5, n5⟩, ⟨k6, n6⟩, ⟨k7, n7⟩⟩, -⟩ := hcl6
  refine ok_gR kc l6 (ok_aI rfl k3 (by omega) (by omega) q4 (ok_nI g6 c6 hx (fun w7 g7 c7 => ?_)))
  have hcl7 := (h.nw g7).1.2.2.2.1 c hc
  obtain ⟨q1, q2, q3, q4, q5, q6⟩ := CLI.cal hcl7 hi
  obtain ⟨⟨⟨kc, l4, l5, l6, l7, l8, l9, l10⟩, ⟨k1, n1⟩, ⟨k2, n2⟩, ⟨k3, n3⟩, ⟨k4, n4⟩, ⟨k5, n5⟩, ⟨k6, n6⟩, ⟨k7, n7⟩⟩, -⟩ := hcl7
  refine ok_gR kc l7 (ok_aL rfl k4 (by omega) (by omega) q5 (ok_nL g7 c7 hx (fun w8 g8 c8 => ?_)))
  have hcl8 := (h.nw g8).1.2.2.2.1 c hc
  obtain ⟨q1, q2, q3, q4, q5, q6⟩ := CLI.cal hcl8 hi
  obtain ⟨⟨⟨kc, l4, l5, l6, l7, l8, l9, l10⟩, ⟨k1, n1⟩, ⟨k2, n2⟩, ⟨k3, n3⟩, ⟨k4, n4⟩, ⟨k5, n5⟩, ⟨k6, n6⟩, ⟨k7, n7⟩⟩, -⟩ := hcl8
  refine ok_gR kc l8 (ok_aL rfl k5 (by omega) (by omega) q6 (ok_nL g8 c8 hx (fun w9 g9 c9 => ok_ret ⟨rfl, g9, c9.2.1, ?_⟩)))
  obtain ⟨d1, d2, d3, d4, d5⟩ := c9
  refine ⟨⟨d1, by rw [d3]; rfl, by rw [d3]; rfl, by rw [d3]; rfl⟩, fun _ => ⟨by rw [d3]; rfl, by rw [d3]; rfl, by rw [d3]; rfl, ?_, by rw [d3]; rfl, by rw [d4]; rfl, by rw [d4]; rfl⟩, fun e => absurd (show (1 : Int32) = 2 from e) (by decide), fun e => absurd (show (1 : Int32) = 3 from e) (by decide), fun e => absurd (show (1 : Int32) = 4 from e) (by decide), fun e => absurd (show (1 : Int32) = 5 from e) (by decide)⟩
  rw [d3]
  exact hr.symm
theorem m_request (h : RMF w m S le sc cl mem kept up dy row held fl) (h4 : S ≤ 4) (hfl : fl.length ≤ 600) {c i k : Nat} (hc : c < 6) (hi : i < (cl c).2.2.1.length) (hk : k < 32) (hr : (cl c).2.2.1[i].2.2.1 = nI k) : ok (f_X6_request m (nI c) (nI (i + 1)) w) (fun _ w' => RMF w' m S le (goL sc row) cl mem kept up dy (goR row (mkReq (cl c) c i k (cl c).2.2.1[i])) held fl ∧ Mf m w w') := by
  have hM := h.1.1
  have hcm := h.2.1 c hc
  have l60 := hcm.2.2.2.1
  obtain ⟨q1, q2, q3, q4, q5, q6⟩ := CLM.cal hcm hi
  have hb : 60 * c + i < 360 := by omega
  unfold f_X6_request
  refine ok_mR hM 4 (ok_mR hM 7 (ok_mA hM (m60p c i) hb (q3.trans hr) (ok_mA (n := 8 * c + k % 8) hM ?_ (by show _ < 48; omega) (hcm.2.2.2.2.2 (k % 8) (by omega)) (ok_chk hM.1 (ok_call (m_letter h h4 hfl 1 _ (nI c)) (fun v w1 z => ?_))))))
  · rw [mod8 (by omega), i8']
  obtain ⟨l, rfl, hl, h0, g, ⟨u1, u2, u3, u4⟩, ⟨v1, v2, v3, v4, v5⟩, v6, v7⟩ := z
  have hM1 := hM.f g.mf
  have hcm1 := hcm.kp g.1 (fun j a b => by omega)
  refine ok_mR hM1 28 (ok_mR hM1 1 (ok_mA hM1 rfl hc hcm1.1 (ok_mT hM1 rfl hl (fun hM2 => ok_mR hM2 29 (ok_mT hM2 rfl hl (fun hM3 => ok_mR hM3 30 (ok_chk hM3.1 ?_)))))))
  have g3 := (g.sI (j := 28) (v := (cl c).1) (by omega) (by omega)).sI (j := 29) (v := nI (i + 1)) (by omega) (by omega)
  have hcm3 := hcm.kp g3.1 (fun j a b => by omega)
  refine ok_use (m_first hM3 hc hcm3) (ok_mT hM3 rfl hl (fun hM4 => ?_))
  have g4 := g3.sI (j := 30) (v := nI (fst1 (cl c).2.2.1)) (by omega) (by omega)
  have hcm4 := hcm.kp g4.1 (fun j a b => by omega)
  refine ok_mR hM4 31 (ok_mR hM4 7 (ok_mA hM4 (m60p c i) hb (CLM.cal hcm4 hi).2.2.1 (ok_mT hM4 rfl hl (fun hM5 => ?_))))
  have g5 := g4.sI (j := 31) (v := (cl c).2.2.1[i].2.2.1) (by omega) (by omega)
  have hcm5 := hcm.kp g5.1 (fun j a b => by omega)
  refine ok_mR hM5 32 (ok_mR hM5 8 (ok_mA hM5 (m60p c i) hb (CLM.cal hcm5 hi).2.2.2.1 (ok_mT hM5 rfl hl (fun hM6 => ?_))))
  have g6 := g5.sI (j := 32) (v := (cl c).2.2.1[i].2.2.2.1) (by omega) (by omega)
  have hcm6 := hcm.kp g6.1 (fun j a b => by omega)
  refine ok_mR hM6 33 (ok_mR hM6 9 (ok_mAL hM6 (m60p c i) hb (CLM.cal hcm6 hi).2.2.2.2.1 (ok_mTL hM6 rfl hl (fun hM7 => ?_))))
  have g7 := g6.sL (j := 33) (v := (cl c).2.2.1[i].2.2.2.2.1) (by omega) (by omega)
  have hcm7 := hcm.kp g7.1 (fun j a b => by omega)
  refine ok_mR hM7 34 (ok_mR hM7 10 (ok_mAL hM7 (m60p c i) hb (CLM.cal hcm7 hi).2.2.2.2.2 (ok_mTL hM7 rfl hl (fun hM8 => ok_chk hM8.1 ?_))))
  have g8 := g7.sL (j := 34) (v := (cl c).2.2.1[i].2.2.2.2.2) (by omega) (by omega)
  obtain ⟨h9, f9⟩ := h.alloc (t := mkReq (cl c) c i k (cl c).2.2.1[i]) hl h0 g8 ⟨⟨hl, by simpa [wI_s, (wsL _ _ _ _).2.2.2.1] using u1, by simpa [wI_s, (wsL _ _ _ _).2.2.2.1, mkReq] using u2, by simpa [wI_s, (wsL _ _ _ _).2.2.2.1, mkReq] using u3, by simpa [wI_s, (wsL _ _ _ _).2.2.2.1, mkReq] using u4, by simp [wI_s, (wsL _ _ _ _).2.2.2.1, mkReq], by simp [wI_s, (wsL _ _ _ _).2.2.2.1, mkReq]⟩, fun _ => ⟨by simp [wI_s, (wsL _ _ _ _).2.2.2.1, mkReq], by simp [wI_s, (wsL _ _ _ _).2.2.2.1, mkReq], by simp [wI_s, (wsL _ _ _ _).2.2.2.1, mkReq], by simp [wL_s, mkReq], by simp [wL_s, mkReq]⟩, fun e => absurd (show (1 : Int32) = 2 from e) (by decide), fun e => absurd (show (1 : Int32) = 3 from e) (by decide), fun e => absurd (show (1 : Int32) = 4 from e) (by decide)⟩
  exact ok_call (m_go h9) (fun _ w5 z => ok_ret ⟨z.1, f9.tr z.2⟩)
/-- a request of an open client is a letter as it should be -/
theorem req_ok {op c i k : Nat} {r : Cal} (hc : c < 6) (hi : i < 60) (hk : k < 32) (hr : r.2.2.1 = nI k) (ho : Own cl op c (cl c).1) (hg : ∀ b, b < 8 → ∃ s, s < S ∧ (cl c).2.2.2 b = nI s) : LtOk S cl op (mkReq (cl c) c i k r) := by
  obtain ⟨s, hs, e⟩ := hg (k % 8) (by omega)
  exact Or.inl ⟨rfl, s, c, i + 1, k, hs, hc, by omega, by omega, hk, e, rfl, ho, rfl, hr⟩
theorem st_retry (x y : Int32) : Same2 o S le (f_X5_retry o x y) (f_X6_retry (aMo o S) x y) := by
  rintro w k hk ⟨sc, cl, mem, kept, up, dy, row, held, hR, hI⟩
  have k0 := hR.1.2.1.1.1
  have m0 := hR.2.1.1.1
  have hM := hR.2.1.1
  have h4 := hR.1.1.2.1
  have out : (x < 0 ∨ nI 6 ≤ x) → ∃ v w1 w2, f_X5_retry o x y w = some (v, w1) ∧ wK w1 (aMo o S) = 7 ∧ f_X6_retry (aMo o S) x y w1 = some (v, w2) ∧ Rel w2 o S le (k + 1) := by
    intro hx
    refine mkSame (r := -1) hR hI hk (ok_eq ?_) (ok_eq ?_)
    · unfold f_X5_retry
      exact ok_chk k0 (ok_use (c_cl_out hR.1 hx) (ok_t rfl (ok_ret ⟨rfl, rfl⟩)))
    · unfold f_X6_retry
      exact ok_chk m0 (ok_use (m_isCall_out hx) (ok_t rfl (ok_ret ⟨rfl, rfl⟩)))
  rcases pk_ix x (n := 6) (by omega) with hx | hx | ⟨c, hc, rfl⟩
  · exact out (Or.inl hx)
  · exact out (Or.inr hx)
  · have hcl := hR.1.2.2.2.1 c hc
    have hcm := hR.2.2.1 c hc
    have l60 := hcm.2.2.2.1
    obtain ⟨⟨⟨kc, -, -, -, -, -, l9, l10⟩, -, -, -, -, -, ⟨k6, n6⟩, -⟩, -⟩ := hR.1.2.2.2.1 c hc
    have e1 := cl_has hcl y
    have e2 := m_isCall hR.2 hc y
    by_cases hn : 1 ≤ y ∧ y ≤ nI (cl c).2.2.1.length
    · rw [if_pos hn] at e1 e2
      obtain ⟨i, hi, rfl⟩ := call_ix l60 hn
      by_cases hz : (cl c).2.2.1[i].1 = 0
      · obtain ⟨q, hq, eq⟩ := (hI.2.2.1 c hc).2.1 _ (List.getElem_mem hi)
        refine mkStep (r := 1) (sc' := goL sc row) (cl' := cl) (mem' := mem) (kept' := kept) (up' := up) (dy' := dy) (row' := goR row (mkReq (cl c) c i q (cl c).2.2.1[i])) (held' := held) hR ?_ (fun w1 h1 => ?_) (hI.go hk (fun op a0 b1 b2 b3 => ?_))
        · unfold f_X5_retry
          refine ok_chk k0 (ok_use (c_cl_in hR.1 hc) (ok_f (by simp) (ok_chk kc (ok_use e1 (ok_f (by decide) (ok_gR kc l9 (ok_aI rfl k6 (by omega) (by omega) (CLI.cal hcl hi).1 (ok_t hz (ok_call (c_reqOf hR.1 hc hi hq eq) (fun v w1 z => ?_))))))))))
          obtain ⟨rfl, z1, z2, z3⟩ := z
          obtain ⟨h5, f5⟩ := hR.1.nw z1
          exact ok_chk h5.2.1.1.1 (ok_call (c_send h5 z3 hR.1.1.2.2.2 z2) (fun _ w2 u => ok_ret ⟨rfl, u.1, f5.tr u.2⟩))
        · have hM1 := h1.1.1
          have e3 := m_isCall h1 hc (nI (i + 1))
          rw [if_pos hn] at e3
          unfold f_X6_retry
          refine ok_chk hM1.1 (ok_use e3 (ok_f (by decide) (ok_mR hM1 5 (ok_mA hM1 (m60p c i) (by show _ < 360; omega) (CLM.cal (h1.2.1 c hc) hi).1 (ok_t hz (ok_chk hM1.1 (ok_call (m_request h1 h4 (by simp) hc hi hq eq) (fun _ w2 u => ok_ret ⟨rfl, u⟩))))))))
        · rcases b1 c hc with z | z
          · -- an incarnation that was never opened has no calls: but a call waits here all the same
            exact absurd z (by
              intro z0
              exact hI.2.2.1 c hc |>.2.2.1 z0 i hi)
          · exact req_ok hc (by omega) hq eq z (hI.2.2.1 c hc).2.2.2
      · refine mkSame (r := 0) hR hI hk (ok_eq ?_) (ok_eq ?_)
        · unfold f_X5_retry
          exact ok_chk k0 (ok_use (c_cl_in hR.1 hc) (ok_f (by simp) (ok_chk kc (ok_use e1 (ok_f (by decide) (ok_gR kc l9 (ok_aI rfl k6 (by omega) (by omega) (CLI.cal hcl hi).1 (ok_f hz (ok_ret ⟨rfl, rfl⟩)))))))))
        · unfold f_X6_retry
          exact ok_chk m0 (ok_use e2 (ok_f (by decide) (ok_mR hM 5 (ok_mA hM (m60p c i) (by show _ < 360; omega) (CLM.cal hcm hi).1 (ok_f hz (ok_ret ⟨rfl, rfl⟩))))))
    · rw [if_neg hn] at e1 e2
      refine mkSame (r := -1) hR hI hk (ok_eq ?_) (ok_eq ?_)
      · unfold f_X5_retry
        exact ok_chk k0 (ok_use (c_cl_in hR.1 hc) (ok_f (by simp) (ok_chk kc (ok_use e1 (ok_t rfl (ok_ret ⟨rfl, rfl⟩))))))
      · unfold f_X6_retry
        exact ok_chk m0 (ok_use e2 (ok_t rfl (ok_ret ⟨rfl, rfl⟩)))
end CA
