/-! A TAKEN, AN ACK ARE TAKEN -/
section TK
variable {w w' : Wd} {o m S : Nat} {le : Int32} {sc : Nat → Int32} {cl : Nat → ClD} {mem kept : Nat → Nat → BkD} {up cn dy : Nat → Bool} {row : List Ltr} {held : Nat → List Ltr} {fl : List (Nat × Ltr)}
def tkD (d : BkD) (nr : Int32) : BkD × Bool := if d.1 = 2 ∧ d.2.1 = nr - 1 then ((0, nr, d.2.2.1, fun _ => 0, [], fun _ => 0, fun _ => 0), true) else (d, false)
theorem BK.hd2 {a : Nat} {st ve hi st' ve' : Int32} {va : Nat → Int64} {rs : List Rec} {kn fi : Nat → Int32} (h : BK w a st ve hi va rs kn fi) : BK (sI (sI w a 0 st') a 1 ve') a st' ve' hi va rs kn fi ∧ Bf a w (sI (sI w a 0 st') a 1 ve') := by
  obtain ⟨hB, h0, h1, h2, h3, hl, hv, hr, hk, hf⟩ := h
  have g : Bf a w (sI (sI w a 0 st') a 1 ve') := (Bf.sI (Nat.le_refl _) (by omega)).tr (Bf.sI (Nat.le_refl _) (by omega))
  refine ⟨⟨hB.f g, by simp [wI_s], by simp [wI_s], by simp [wI_s]; exact h2, by simp [wI_s]; exact h3, hl, fun k hk' => by rw [wL_sI, wL_sI]; exact hv k hk', fun i r hi'' => ?_, fun c hc => by rw [wI_so (by omega), wI_so (by omega)]; exact hk c hc, fun c hc => by rw [wI_so (by omega), wI_so (by omega)]; exact hf c hc⟩, g⟩
  rw [← hr i r hi'']
  unfold recAt
  rw [wI_so (by omega), wI_so (by omega), wI_so (by omega), wI_so (by omega), wI_so (by omega), wI_so (by omega), wL_sI, wL_sI]
theorem c_takeTaken (h : RC w o S le sc cl mem kept up cn row held) {x s b : Nat} {t : Ltr} (hx : LTC w x t) (h4 : t.1.1 = 4) (hT : aMo o S + 45 ≤ x) (hn : x < wn w) (hs : s < S) (hb : b < 8) (hbk : t.2.1.2.1 = nI b) : ok (f_X5_takeTaken o (some (aSv o s)) (some x) w) (fun _ w' => ∀ D, D = tkD (mem s b) t.2.1.1 → RC w' o S le sc cl (up2b mem s b D.1) kept up (drt D.2 false cn s) row held ∧ Cf o S w w') := by
  have kx := hx.1.1
  have hS := h.1.2.1
  have ks := (h.2.2.1 s hs).1.1
  have hB := (h.2.2.2.2.1 s b hs hb).1
  have hxa : aMb o s b + 7 < x := by unfold aMb; unfold aMo at hT; omega
  obtain ⟨x4, x7, -⟩ := hx.2.2.2.2.1 h4
  have same : ¬ ((mem s b).1 = 2 ∧ (mem s b).2.1 = t.2.1.1 - 1) → ∀ D, D = tkD (mem s b) t.2.1.1 → RC w o S le sc cl (up2b mem s b D.1) kept up (drt D.2 false cn s) row held ∧ Cf o S w w := by
    intro hno D hD
    unfold tkD at hD
    rw [if_neg hno] at hD
    subst hD
    refine ⟨?_, Cf.rf⟩
    show RC w o S le sc cl (up2b mem s b (mem s b)) kept up cn row held
    rw [up2b_id rfl]; exact h
  unfold f_X5_takeTaken
  refine ok_gI kx (x7.trans hbk) <| ok_chk ks <| ok_use (c_bk_in h hs hb) <| ok_f (by simp) <| ok_gI hB.1.1.1 hB.2.1 <| ok_if (fun c1 => ?_) (fun c1 => ok_ret (same (fun z => c1 z.1)))
  refine ok_gI hB.1.1.1 hB.2.2.1 <| ok_gI kx x4 <| ok_if (fun c2 => ?_) (fun c2 => ok_ret (same (fun z => c2 z.2)))
  refine ok_chk hB.1.1.1 <| ok_call (bk_empty hB) (fun _ w1 z => ?_)
  obtain ⟨z1, z2⟩ := z
  have kx1 : wK w1 x = 3 := by rw [z1.2.1]; exact kx
  have x4' : wI w1 x 4 = t.2.1.1 := (z1.oI (Or.inr hxa) 4).trans x4
  obtain ⟨q1, q2⟩ := z2.hd2 (st' := 0) (ve' := t.2.1.1)
  obtain ⟨r2, f2⟩ := h.bkt hs hb (d := (0, t.2.1.1, (mem s b).2.2.1, fun _ => 0, [], fun _ => 0, fun _ => 0)) (z1.tr q2) q1
  have sx := (r2.2.2.1 s hs).1
  refine ok_pI z2.1.1.1 <| ok_gI (v := t.2.1.1) kx1 (by rw [wI_so (by omega)]; exact x4') <| ok_pI z2.1.1.1 <| ok_pZ sx.1 (Or.inl rfl) <| ok_ret (fun D hD => ?_)
  obtain ⟨r4, f4⟩ := r2.mark hs (up s) false (Or.inr ⟨rfl, rfl⟩)
  unfold tkD at hD
  rw [if_pos ⟨c1, c2⟩] at hD
  subst hD
  exact ⟨r4.ext (fun _ _ _ _ => rfl) (fun _ _ _ _ => rfl) (fun p hp => by rw [va_up_id rfl]) (fun _ _ => rfl) (fun _ _ => rfl), f2.tr f4⟩
theorem l_taken_85 {a : Nat} (ha : a < 64) {K : Nat → Int32 → Wd → Option (Unit × Wd)} {P : Unit → Wd → Prop} : ∀ (n j : Nat) (w : Wd), 4 < n + j → j ≤ 4 → isM w m → (∀ w', isM w' m → Mx m (fun q => q = m + 14) w w' → wI w' = wI w → (∀ i, (i < 4 * a ∨ 4 * a + 4 ≤ i) → wL w' (m + 14) i = wL w (m + 14) i) → (∀ k, k < 4 → j ≤ k → wL w' (m + 14) (4 * a + k) = 0) → (∀ k, k < j → wL w' (m + 14) (4 * a + k) = wL w (m + 14) (4 * a + k)) → ok (K m (nI a) w') P) → ok (f_X6_taken_85 K n m (nI a) (nI j) w) P := by
  intro n
  induction n with
  | zero => intro j w h1 h2; omega
  | succ n ih =>
    intro j w h1 h2 hM hP
    rw [f_X6_taken_85.eq_2]
    refine ok_if (fun c => ?_) (fun c => ?_)
    · rw [show (4 : Int32) = nI 4 from rfl, nI_leI (by omega) (by omega)] at c
      exact hP w hM (Mx.rf (fun q hq => by omega)) rfl (fun _ _ => rfl) (fun k a b => by omega) (fun _ _ => rfl)
    · rw [show (4 : Int32) = nI 4 from rfl, nI_leI (by omega) (by omega)] at c
      refine ok_mR hM 14 <| ok_mTL hM (i4 a j) (by show 4 * a + j < 256; omega) (fun hM1 => ?_)
      rw [nI_1]
      refine ih (j + 1) _ (by omega) (by omega) hM1 (fun w2 q x e vo vn vk => ?_)
      refine hP w2 q (((Mx.rf (X := fun q => q = m + 14) (fun q hq => by omega)).sL rfl).tr x) (e.trans wI_sL) (fun i hi => ?_) (fun k k1 k2 => ?_) (fun k hk => ?_)
      · rw [vo i hi, wL_s, if_neg (by omega)]
      · by_cases ek : k = j
        · rw [vk k (by omega), wL_s, if_pos ⟨rfl, by rw [ek]⟩]
        · exact vn k k1 (by omega)
      · rw [vk k (by omega), wL_s, if_neg (by omega)]
theorem l_taken_109 {a : Nat} (ha : a < 64) : ∀ (n j : Nat) (w : Wd), 6 < n + j → j ≤ 6 → isM w m → ok (f_X6_taken_109 n m (nI a) (nI j) w) (fun _ w' => isM w' m ∧ Mx m (fun q => q = m + 20 ∨ q = m + 21) w w' ∧ wL w' = wL w ∧ (∀ p i, p = 20 ∨ p = 21 → (i < 6 * a ∨ 6 * a + 6 ≤ i) → wI w' (m + p) i = wI w (m + p) i) ∧ (∀ k, k < 6 → j ≤ k → wI w' (m + 20) (6 * a + k) = 0 ∧ wI w' (m + 21) (6 * a + k) = 0) ∧ (∀ k, k < j → wI w' (m + 20) (6 * a + k) = wI w (m + 20) (6 * a + k) ∧ wI w' (m + 21) (6 * a + k) = wI w (m + 21) (6 * a + k))) := by
  intro n
  induction n with
  | zero => intro j w h1 h2; omega
  | succ n ih =>
    intro j w h1 h2 hM
    rw [f_X6_taken_109.eq_2]
    refine ok_if (fun c => ?_) (fun c => ?_)
    · rw [show (6 : Int32) = nI 6 from rfl, nI_leI (by omega) (by omega)] at c
      exact ok_ret ⟨hM, Mx.rf (fun q hq => by omega), rfl, fun _ _ _ _ => rfl, fun k a b => by omega, fun _ _ => ⟨rfl, rfl⟩⟩
    · rw [show (6 : Int32) = nI 6 from rfl, nI_leI (by omega) (by omega)] at c
      refine ok_mR hM 20 <| ok_mT hM (i6' a j) (by show 6 * a + j < 384; omega) (fun hM1 => ok_mR hM1 21 <| ok_mT hM1 (i6' a j) (by show 6 * a + j < 384; omega) (fun hM2 => ?_))
      rw [nI_1]
      refine ok_mono (ih (j + 1) _ (by omega) (by omega) hM2) (fun _ w2 z => ?_)
      obtain ⟨z1, z2, z3, z4, z5, z6⟩ := z
      refine ⟨z1, (((Mx.rf (X := fun q => q = m + 20 ∨ q = m + 21) (fun q hq => by omega)).sI (Or.inl rfl)).sI (Or.inr rfl)).tr z2, by rw [z3, wL_sI, wL_sI], fun p i hp hi => ?_, fun k k1 k2 => ?_, fun k hk => ?_⟩
      · rw [z4 p i hp hi, wI_s, if_neg (by omega), wI_s, if_neg (by omega)]
      · by_cases ek : k = j
        · rw [(z6 k (by omega)).1, (z6 k (by omega)).2]
          constructor
          · rw [wI_so (by omega), wI_s, if_pos ⟨rfl, by rw [ek]⟩]
          · rw [wI_s, if_pos ⟨rfl, by rw [ek]⟩]
        · exact z5 k k1 (by omega)
      · rw [(z6 k (by omega)).1, (z6 k (by omega)).2]
        constructor
        · rw [wI_so (by omega), wI_s, if_neg (by omega)]
        · rw [wI_s, if_neg (by omega), wI_so (by omega)]
theorem m_taken (h : RMF w m S le sc cl mem kept up dy row held fl) (h4 : S ≤ 4) {l s b : Nat} {t : Ltr} (hl : (l, t) ∈ fl) (hk4 : t.1.1 = 4) (hs : s < S) (hb : b < 8) (hu : up s = true) (hto : t.1.2.1 = nI s) (hbk : t.2.2.1.1 = nI b) : ok (f_X6_taken m (nI l) w) (fun _ w' => ∀ D, D = tkD (mem s b) t.2.1.1 → RMF w' m S le sc cl (up2b mem s b D.1) kept up (drt D.2 true dy s) row held fl ∧ Mf m w w') := by
  have hM := h.1.1
  have hat : 16 * s + b < 64 := by omega
  have hB := (h.2.2.2.1 s b hs hb).1 hu
  have ht := h.inh hl
  have hl4 := ht.1.1
  have t31 := ht.2.2.2.2 hk4
  have same : ¬ ((mem s b).1 = 2 ∧ (mem s b).2.1 = t.2.1.1 - 1) → ∀ D, D = tkD (mem s b) t.2.1.1 → RMF w m S le sc cl (up2b mem s b D.1) kept up (drt D.2 true dy s) row held fl ∧ Mf m w w := by
    intro hno D hD
    unfold tkD at hD
    rw [if_neg hno] at hD
    subst hD
    refine ⟨?_, Mf.rf⟩
    show RMF w m S le sc cl (up2b mem s b (mem s b)) kept up dy row held fl
    rw [up2b_id rfl]; exact h
  unfold f_X6_taken
  refine ok_mR hM 26 <| ok_mA hM rfl hl4 (ht.1.2.2.2.1.trans hto) <| ok_mR hM 31 <| ok_mA hM rfl hl4 (t31.trans hbk) ?_
  rw [i16]
  refine ok_mR hM 11 <| ok_mA hM rfl hat hB.1 <| ok_if (fun c1 => ?_) (fun c1 => ok_ret (same (fun z => c1 z.1)))
  refine ok_mR hM 12 <| ok_mA hM rfl hat hB.2.1 <| ok_mR hM 28 <| ok_mA hM rfl hl4 ht.1.2.2.2.2.2.1 <| ok_if (fun c2 => ?_) (fun c2 => ok_ret (same (fun z => c2 z.2)))
  obtain ⟨h1, f1⟩ := h.dirty hs
  refine ok_mR hM 23 <| ok_mR hM 26 <| ok_mA hM rfl hl4 (ht.1.2.2.2.1.trans hto) <| ok_mTZ hM rfl (by show s < 4; omega) (Or.inr rfl) (fun hM1 => ?_)
  generalize sI w (m + 23) s 1 = w1 at h1 f1 hM1 ⊢
  have ht1 := h1.inh hl
  have hB1 := (h1.2.2.2.1 s b hs hb).1 hu
  refine ok_mR hM1 11 <| ok_mT hM1 rfl hat (fun hM2 => ok_mR hM2 12 <| ok_mR hM2 28 <| ok_mA (v := t.2.1.1) hM2 rfl hl4 (by rw [wI_so (by omega)]; exact ht1.1.2.2.2.2.2.1) <| ok_mT hM2 rfl hat (fun hM3 => ok_mR hM3 15 <| ok_mT hM3 rfl hat (fun hM4 => ?_)))
  have g5 : BkF m (16 * s + b) w1 (sI (sI (sI w1 (m + 11) (16 * s + b) 0) (m + 12) (16 * s + b) t.2.1.1) (m + 15) (16 * s + b) 0) := ((BkF.rf.sI (by omega)).sI (by omega)).sI (by omega)
  have F : wI (sI (sI (sI w1 (m + 11) (16 * s + b) 0) (m + 12) (16 * s + b) t.2.1.1) (m + 15) (16 * s + b) 0) (m + 11) (16 * s + b) = 0 ∧ wI (sI (sI (sI w1 (m + 11) (16 * s + b) 0) (m + 12) (16 * s + b) t.2.1.1) (m + 15) (16 * s + b) 0) (m + 12) (16 * s + b) = t.2.1.1 ∧ wI (sI (sI (sI w1 (m + 11) (16 * s + b) 0) (m + 12) (16 * s + b) t.2.1.1) (m + 15) (16 * s + b) 0) (m + 13) (16 * s + b) = wI w1 (m + 13) (16 * s + b) ∧ wI (sI (sI (sI w1 (m + 11) (16 * s + b) 0) (m + 12) (16 * s + b) t.2.1.1) (m + 15) (16 * s + b) 0) (m + 15) (16 * s + b) = 0 := by simp [wI_s]
  generalize sI (sI (sI w1 (m + 11) (16 * s + b) 0) (m + 12) (16 * s + b) t.2.1.1) (m + 15) (16 * s + b) 0 = w5 at hM4 g5 F ⊢
  refine l_taken_85 hat FU 0 w5 (by unfold FU; omega) (by omega) hM4 (fun wa qa xa ia oa na _ => ?_)
  unfold f_X6_taken_107
  refine ok_mono (l_taken_109 hat FU 0 wa (by unfold FU; omega) (by omega) qa) (fun _ wc z => ?_)
  obtain ⟨qc, xc, ic, oc, nc, -⟩ := z
  intro D hD
  have gc : BkF m (16 * s + b) w1 wc := (g5.l14 xa ia oa).l20 xc oc
  have I : ∀ e i, e = 11 ∨ e = 12 ∨ e = 13 ∨ e = 15 → wI wc (m + e) i = wI w5 (m + e) i := fun e i he => by rw [xc.I (by omega), ia]
  have hBc : BKM wc m (16 * s + b) (0, t.2.1.1, (mem s b).2.2.1, fun _ => 0, [], fun _ => 0, fun _ => 0) := by
    refine ⟨by rw [I 11 _ (by omega)]; exact F.1, by rw [I 12 _ (by omega)]; exact F.2.1, by rw [I 13 _ (by omega), F.2.2.1]; exact hB1.2.2.1, by rw [I 15 _ (by omega)]; exact F.2.2.2.trans nI_0.symm, by simp, fun k hk => ?_, fun i r hi => by simp at hi, fun e he => (nc e he (by omega)).1, fun e he => (nc e he (by omega)).2⟩
    rw [ic]; exact na k hk (by omega)
  obtain ⟨h9, f9⟩ := h1.bk hs hb gc hBc
  unfold tkD at hD
  rw [if_pos ⟨c1, c2⟩] at hD
  subst hD
  exact ⟨h9, f1.tr f9⟩
/-- server s's buckets below j, after an ACK of client c -/
def ackM (mem : Nat → Nat → BkD) (s c : Nat) (i f : Int32) (j : Nat) : Nat → Nat → BkD := fun p q => if p = s ∧ q < j ∧ (mem p q).1 = 1 then knD (mem p q) c i f else mem p q
def ackB (mem : Nat → Nat → BkD) (s c : Nat) (i f : Int32) : Nat → Bool
  | 0 => false
  | j + 1 => ackB mem s c i f j || (decide ((mem s j).1 = 1) && knC (mem s j) c i f)
theorem ackM_0 {s c : Nat} {i f : Int32} : ackM mem s c i f 0 = mem := by
  funext p q
  unfold ackM
  rw [if_neg (by omega)]
theorem ackM_at {s c j : Nat} {i f : Int32} : ackM mem s c i f j s j = mem s j := by
  unfold ackM
  rw [if_neg (by omega)]
theorem ackM_n {s c j : Nat} {i f : Int32} (h : ¬ (mem s j).1 = 1) : ackM mem s c i f (j + 1) = ackM mem s c i f j := by
  funext p q
  unfold ackM
  by_cases e : p = s ∧ q < j ∧ (mem p q).1 = 1
  · rw [if_pos e, if_pos ⟨e.1, by omega, e.2.2⟩]
  · rw [if_neg e, if_neg]
    rintro ⟨e1, e2, e3⟩
    by_cases e4 : q = j
    · subst e1 e4; exact h e3
    · exact e ⟨e1, by omega, e3⟩
theorem ackM_s {s c j : Nat} {i f : Int32} (h : (mem s j).1 = 1) : up2b (ackM mem s c i f j) s j (knD (mem s j) c i f) = ackM mem s c i f (j + 1) := by
  funext p q
  unfold ackM up2b
  by_cases e : p = s ∧ q = j
  · obtain ⟨rfl, rfl⟩ := e
    rw [if_pos ⟨rfl, rfl⟩, if_pos ⟨rfl, by omega, h⟩]
  · rw [if_neg e]
    show (if p = s ∧ q < j ∧ (mem p q).1 = 1 then knD (mem p q) c i f else mem p q) = _
    by_cases e2 : p = s ∧ q < j ∧ (mem p q).1 = 1
    · rw [if_pos e2, if_pos ⟨e2.1, by omega, e2.2.2⟩]
    · rw [if_neg e2, if_neg]
      rintro ⟨e3, e4, e5⟩
      exact e2 ⟨e3, by omega, e5⟩
theorem ackB_n {s c j : Nat} {i f : Int32} (h : ¬ (mem s j).1 = 1) : ackB mem s c i f (j + 1) = ackB mem s c i f j := by
  show (ackB mem s c i f j || (decide ((mem s j).1 = 1) && knC (mem s j) c i f)) = _
  rw [decide_eq_false h]; simp
theorem ackB_s {s c j : Nat} {i f : Int32} (h : (mem s j).1 = 1) : ackB mem s c i f (j + 1) = (ackB mem s c i f j || knC (mem s j) c i f) := by
  show (ackB mem s c i f j || (decide ((mem s j).1 = 1) && knC (mem s j) c i f)) = _
  rw [decide_eq_true h]; simp
theorem c_ackL {x s c : Nat} {t : Ltr} (h5 : t.1.1 = 5) (hT : aMo o S + 45 ≤ x) (hs : s < S) (hc : c < 6) (hfr : t.1.2.2 = nI c) : ∀ (n j : Nat) (w : Wd), 8 < n + j → j ≤ 8 → LTC w x t → x < wn w → RC w o S le sc cl (ackM mem s c t.2.1.1 t.2.1.2.1 j) kept up (drt (ackB mem s c t.2.1.1 t.2.1.2.1 j) false cn s) row held → ok (f_X5_takeAck_2 n (some (aSv o s)) (some x) (nI j) w) (fun _ w' => RC w' o S le sc cl (ackM mem s c t.2.1.1 t.2.1.2.1 8) kept up (drt (ackB mem s c t.2.1.1 t.2.1.2.1 8) false cn s) row held ∧ Cf o S w w') := by
  intro n
  induction n with
  | zero => intro j w h1 h2; omega
  | succ n ih =>
    intro j w h1 h2 hx hn h
    have hS := h.1.2.1
    have ks := (h.2.2.1 s hs).1.1
    rw [f_X5_takeAck_2.eq_2]
    refine ok_if (fun c1 => ?_) (fun c1 => ?_)
    · rw [show (8 : Int32) = nI 8 from rfl, nI_leI (by omega) (by omega)] at c1
      have hj : j = 8 := by omega
      subst hj
      exact ok_ret ⟨h, Cf.rf⟩
    · rw [show (8 : Int32) = nI 8 from rfl, nI_leI (by omega) (by omega)] at c1
      have hj : j < 8 := by omega
      have hB := (h.2.2.2.2.1 s j hs hj).1
      rw [ackM_at] at hB
      have kx := hx.1.1
      obtain ⟨x3, x6, -⟩ := hx.2.2.2.2.2 h5
      have x2 : wI w x 2 = nI c := hx.1.2.2.2.trans hfr
      have hxa : x < aMb o s j ∨ aMb o s j + 7 < x := Or.inr (by unfold aMb; unfold aMo at hT; omega)
      refine ok_chk ks <| ok_use (c_bk_in h hs hj) <| ok_f (by simp) <| ok_gI hB.1.1.1 hB.2.1 <| ok_if (fun c2 => ?_) (fun c2 => ?_)
      · refine ok_chk hB.1.1.1 <| ok_call (bk_know hB hc kx hxa x2) (fun v w1 z => ?_)
        obtain ⟨z1, z2, z3⟩ := z
        rw [x3, x6] at z2 z3
        rw [z2, knB_C]
        obtain ⟨r1, f1⟩ := h.bkt hs hj (d := knD (mem s j) c t.2.1.1 t.2.1.2.1) z1 z3
        rw [ackM_s c2] at r1
        have hx1 := hx.cf hT hn f1
        have hn1 : x < wn w1 := Nat.lt_of_lt_of_le hn f1.1
        have eB := ackB_s (c := c) (i := t.2.1.1) (f := t.2.1.2.1) c2
        cases hC : knC (mem s j) c t.2.1.1 t.2.1.2.1 with
        | false =>
          rw [hC, Bool.or_false] at eB
          refine ok_t rfl ?_
          unfold f_X5_takeAck_43
          rw [nI_1]
          exact ok_mono (ih (j + 1) w1 (by omega) (by omega) hx1 hn1 (by rw [eB]; exact r1)) (fun _ w2 u => ⟨u.1, f1.tr u.2⟩)
        | true =>
          rw [hC] at eB
          refine ok_f (by decide) <| ok_pZ (r1.2.2.1 s hs).1.1 (Or.inl rfl) ?_
          obtain ⟨r2, f2⟩ := r1.mark hs (up s) false (Or.inr ⟨rfl, rfl⟩)
          have f3 := f1.tr f2
          have hx3 := hx.cf hT hn f3
          unfold f_X5_takeAck_43
          rw [nI_1]
          refine ok_mono (ih (j + 1) _ (by omega) (by omega) hx3 (Nat.lt_of_lt_of_le hn f3.1) ?_) (fun _ w2 u => ⟨u.1, f3.tr u.2⟩)
          rw [eB, ← drt_drt]
          exact r2.ext (fun _ _ _ _ => rfl) (fun _ _ _ _ => rfl) (fun p hp => by rw [va_up_id rfl]) (fun _ _ => rfl) (fun _ _ => rfl)
      · unfold f_X5_takeAck_43
        rw [nI_1]
        exact ih (j + 1) w (by omega) (by omega) hx hn (by rw [ackM_n c2, ackB_n c2]; exact h)
theorem m_ackL {l s c op : Nat} {t : Ltr} (h5 : t.1.1 = 5) (hs : s < S) (h4 : S ≤ 4) (hu : up s = true) (hc : c < 6) (hto : t.1.2.1 = nI s) (hfr : t.1.2.2 = nI c) (hok : ∀ b, b < 8 → ∀ r, r ∈ (mem s b).2.2.2.2.1 → RecOk cl op r) (y : Int32) : ∀ (n j : Nat) (w : Wd), 8 < n + j → j ≤ 8 → RMF w m S le sc cl (ackM mem s c t.2.1.1 t.2.1.2.1 j) kept up (drt (ackB mem s c t.2.1.1 t.2.1.2.1 j) true dy s) row held ((l, t) :: fl) → ok (f_X6_deliver_135 n m (nI l) y (nI j) w) (fun v w' => v = y ∧ RMF w' m S le sc cl (ackM mem s c t.2.1.1 t.2.1.2.1 8) kept up (drt (ackB mem s c t.2.1.1 t.2.1.2.1 8) true dy s) row held fl ∧ Mf m w w') := by
  intro n
  induction n with
  | zero => intro j w h1 h2; omega
  | succ n ih =>
    intro j w h1 h2 h
    have hM := h.1.1
    have ht := h.inh (l := l) (t := t) (by simp)
    have hl4 := ht.1.1
    rw [f_X6_deliver_135.eq_2]
    refine ok_if (fun c1 => ?_) (fun c1 => ?_)
    · rw [show (8 : Int32) = nI 8 from rfl, nI_leI (by omega) (by omega)] at c1
      have hj : j = 8 := by omega
      subst hj
      obtain ⟨h9, f9⟩ := h.free
      exact ok_mR hM 24 <| ok_mTZ hM rfl hl4 (Or.inl rfl) (fun _ => ok_ret ⟨rfl, h9, f9⟩)
    · rw [show (8 : Int32) = nI 8 from rfl, nI_leI (by omega) (by omega)] at c1
      have hj : j < 8 := by omega
      have hat : 16 * s + j < 64 := by omega
      have hB := (h.2.2.2.1 s j hs hj).1 hu
      rw [ackM_at] at hB
      refine ok_mR hM 11 <| ok_mR hM 26 <| ok_mA hM rfl hl4 (ht.1.2.2.2.1.trans hto) <| ok_mA hM (i16 s j) hat hB.1 <| ok_if (fun c2 => ?_) (fun c2 => ?_)
      · refine ok_mR hM 26 <| ok_mA hM rfl hl4 (ht.1.2.2.2.1.trans hto) <| ok_mR hM 26 <| ok_mA hM rfl hl4 (ht.1.2.2.2.1.trans hto) <| ok_mR hM 27 <| ok_mA hM rfl hl4 (ht.1.2.2.2.2.1.trans hfr) <| ok_mR hM 28 <| ok_mA hM rfl hl4 ht.1.2.2.2.2.2.1 <| ok_mR hM 29 <| ok_mA hM rfl hl4 ht.1.2.2.2.2.2.2 <| ok_chk hM.1 ?_
        rw [i16]
        refine ok_call (m_know h h4 hs hj hc hu (by rw [ackM_at]; exact hok j hj) t.2.1.1 t.2.1.2.1) (fun _ w1 z => ?_)
        obtain ⟨z1, z2⟩ := z
        rw [ackM_at, ackM_s c2] at z1
        unfold f_X6_deliver_203
        rw [nI_1]
        refine ok_mono (ih (j + 1) w1 (by omega) (by omega) ?_) (fun v w2 u => ⟨u.1, u.2.1, z2.tr u.2.2⟩)
        rw [ackB_s c2, ← drt_drt]
        exact z1
      · unfold f_X6_deliver_203
        rw [nI_1]
        exact ih (j + 1) w (by omega) (by omega) (by rw [ackM_n c2, ackB_n c2]; exact h)
end TK
