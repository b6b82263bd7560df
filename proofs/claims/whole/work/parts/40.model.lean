/-! THE REFERENCE: an object at m, its 44 arrays at m + 1 .. m + 44 -/
def kdM : Nat → Nat := fun j => match j with
  | 1 => 100
  | 2 => 100
  | 3 => 100
  | 4 => 100
  | 5 => 100
  | 6 => 101
  | 7 => 100
  | 8 => 100
  | 9 => 101
  | 10 => 101
  | 11 => 100
  | 12 => 100
  | 13 => 100
  | 14 => 101
  | 15 => 100
  | 16 => 100
  | 17 => 100
  | 18 => 100
  | 19 => 101
  | 20 => 100
  | 21 => 100
  | 22 => 102
  | 23 => 102
  | 24 => 102
  | 25 => 100
  | 26 => 100
  | 27 => 100
  | 28 => 100
  | 29 => 100
  | 30 => 100
  | 31 => 100
  | 32 => 100
  | 33 => 101
  | 34 => 101
  | 35 => 101
  | 36 => 100
  | 37 => 100
  | 38 => 100
  | 39 => 101
  | 40 => 100
  | 41 => 100
  | 42 => 100
  | 43 => 100
  | 44 => 100
  | _ => 0
def lnM : Nat → Nat := fun j => match j with
  | 1 => 6
  | 2 => 6
  | 3 => 6
  | 4 => 48
  | 5 => 360
  | 6 => 360
  | 7 => 360
  | 8 => 360
  | 9 => 360
  | 10 => 360
  | 11 => 64
  | 12 => 64
  | 13 => 64
  | 14 => 256
  | 15 => 64
  | 16 => 768
  | 17 => 768
  | 18 => 768
  | 19 => 768
  | 20 => 384
  | 21 => 384
  | 22 => 4
  | 23 => 4
  | 24 => 4700
  | 25 => 4700
  | 26 => 4700
  | 27 => 4700
  | 28 => 4700
  | 29 => 4700
  | 30 => 4700
  | 31 => 4700
  | 32 => 4700
  | 33 => 4700
  | 34 => 4700
  | 35 => 18800
  | 36 => 56400
  | 37 => 56400
  | 38 => 56400
  | 39 => 56400
  | 40 => 28200
  | 41 => 28200
  | 42 => 400
  | 43 => 16800
  | 44 => 4
  | _ => 0
def fdM : Nat → Nat := fun j => match j with
  | 1 => 7
  | 2 => 8
  | 3 => 9
  | 4 => 10
  | 5 => 11
  | 6 => 12
  | 7 => 13
  | 8 => 14
  | 9 => 15
  | 10 => 16
  | 11 => 17
  | 12 => 18
  | 13 => 19
  | 14 => 20
  | 15 => 21
  | 16 => 22
  | 17 => 23
  | 18 => 24
  | 19 => 25
  | 20 => 26
  | 21 => 27
  | 22 => 28
  | 23 => 29
  | 24 => 30
  | 25 => 31
  | 26 => 32
  | 27 => 33
  | 28 => 34
  | 29 => 35
  | 30 => 36
  | 31 => 37
  | 32 => 38
  | 33 => 39
  | 34 => 40
  | 35 => 41
  | 36 => 42
  | 37 => 43
  | 38 => 44
  | 39 => 45
  | 40 => 46
  | 41 => 47
  | 42 => 49
  | 43 => 51
  | 44 => 52
  | _ => 0
def isM (w : Wd) (m : Nat) : Prop := wK w m = 7 ∧ ∀ j, 1 ≤ j → j ≤ 44 → wR w m (fdM j) = some (m + j) ∧ wK w (m + j) = kdM j ∧ wN w (m + j) = lnM j
theorem M_incarnation {w : Wd} {m : Nat} (h : isM w m) : wR w m 7 = some (m + 1) ∧ wK w (m + 1) = 100 ∧ wN w (m + 1) = 6 := h.2 1 (by decide) (by decide)
theorem M_ends {w : Wd} {m : Nat} (h : isM w m) : wR w m 8 = some (m + 2) ∧ wK w (m + 2) = 100 ∧ wN w (m + 2) = 6 := h.2 2 (by decide) (by decide)
theorem M_calls {w : Wd} {m : Nat} (h : isM w m) : wR w m 9 = some (m + 3) ∧ wK w (m + 3) = 100 ∧ wN w (m + 3) = 6 := h.2 3 (by decide) (by decide)
theorem M_guess {w : Wd} {m : Nat} (h : isM w m) : wR w m 10 = some (m + 4) ∧ wK w (m + 4) = 100 ∧ wN w (m + 4) = 48 := h.2 4 (by decide) (by decide)
theorem M_state {w : Wd} {m : Nat} (h : isM w m) : wR w m 11 = some (m + 5) ∧ wK w (m + 5) = 100 ∧ wN w (m + 5) = 360 := h.2 5 (by decide) (by decide)
theorem M_result {w : Wd} {m : Nat} (h : isM w m) : wR w m 12 = some (m + 6) ∧ wK w (m + 6) = 101 ∧ wN w (m + 6) = 360 := h.2 6 (by decide) (by decide)
theorem M_keys {w : Wd} {m : Nat} (h : isM w m) : wR w m 13 = some (m + 7) ∧ wK w (m + 7) = 100 ∧ wN w (m + 7) = 360 := h.2 7 (by decide) (by decide)
theorem M_acts {w : Wd} {m : Nat} (h : isM w m) : wR w m 14 = some (m + 8) ∧ wK w (m + 8) = 100 ∧ wN w (m + 8) = 360 := h.2 8 (by decide) (by decide)
theorem M_firstOf {w : Wd} {m : Nat} (h : isM w m) : wR w m 15 = some (m + 9) ∧ wK w (m + 9) = 101 ∧ wN w (m + 9) = 360 := h.2 9 (by decide) (by decide)
theorem M_secondOf {w : Wd} {m : Nat} (h : isM w m) : wR w m 16 = some (m + 10) ∧ wK w (m + 10) = 101 ∧ wN w (m + 10) = 360 := h.2 10 (by decide) (by decide)
theorem M_status {w : Wd} {m : Nat} (h : isM w m) : wR w m 17 = some (m + 11) ∧ wK w (m + 11) = 100 ∧ wN w (m + 11) = 64 := h.2 11 (by decide) (by decide)
theorem M_version {w : Wd} {m : Nat} (h : isM w m) : wR w m 18 = some (m + 12) ∧ wK w (m + 12) = 100 ∧ wN w (m + 12) = 64 := h.2 12 (by decide) (by decide)
theorem M_hint {w : Wd} {m : Nat} (h : isM w m) : wR w m 19 = some (m + 13) ∧ wK w (m + 13) = 100 ∧ wN w (m + 13) = 64 := h.2 13 (by decide) (by decide)
theorem M_values {w : Wd} {m : Nat} (h : isM w m) : wR w m 20 = some (m + 14) ∧ wK w (m + 14) = 101 ∧ wN w (m + 14) = 256 := h.2 14 (by decide) (by decide)
theorem M_size {w : Wd} {m : Nat} (h : isM w m) : wR w m 21 = some (m + 15) ∧ wK w (m + 15) = 100 ∧ wN w (m + 15) = 64 := h.2 15 (by decide) (by decide)
theorem M_recordClient {w : Wd} {m : Nat} (h : isM w m) : wR w m 22 = some (m + 16) ∧ wK w (m + 16) = 100 ∧ wN w (m + 16) = 768 := h.2 16 (by decide) (by decide)
theorem M_recordIncarnation {w : Wd} {m : Nat} (h : isM w m) : wR w m 23 = some (m + 17) ∧ wK w (m + 17) = 100 ∧ wN w (m + 17) = 768 := h.2 17 (by decide) (by decide)
theorem M_recordNumber {w : Wd} {m : Nat} (h : isM w m) : wR w m 24 = some (m + 18) ∧ wK w (m + 18) = 100 ∧ wN w (m + 18) = 768 := h.2 18 (by decide) (by decide)
theorem M_recordResult {w : Wd} {m : Nat} (h : isM w m) : wR w m 25 = some (m + 19) ∧ wK w (m + 19) = 101 ∧ wN w (m + 19) = 768 := h.2 19 (by decide) (by decide)
theorem M_known {w : Wd} {m : Nat} (h : isM w m) : wR w m 26 = some (m + 20) ∧ wK w (m + 20) = 100 ∧ wN w (m + 20) = 384 := h.2 20 (by decide) (by decide)
theorem M_knownFirst {w : Wd} {m : Nat} (h : isM w m) : wR w m 27 = some (m + 21) ∧ wK w (m + 21) = 100 ∧ wN w (m + 21) = 384 := h.2 21 (by decide) (by decide)
theorem M_up {w : Wd} {m : Nat} (h : isM w m) : wR w m 28 = some (m + 22) ∧ wK w (m + 22) = 102 ∧ wN w (m + 22) = 4 := h.2 22 (by decide) (by decide)
theorem M_dirty {w : Wd} {m : Nat} (h : isM w m) : wR w m 29 = some (m + 23) ∧ wK w (m + 23) = 102 ∧ wN w (m + 23) = 4 := h.2 23 (by decide) (by decide)
theorem M_used {w : Wd} {m : Nat} (h : isM w m) : wR w m 30 = some (m + 24) ∧ wK w (m + 24) = 102 ∧ wN w (m + 24) = 4700 := h.2 24 (by decide) (by decide)
theorem M_kind {w : Wd} {m : Nat} (h : isM w m) : wR w m 31 = some (m + 25) ∧ wK w (m + 25) = 100 ∧ wN w (m + 25) = 4700 := h.2 25 (by decide) (by decide)
theorem M_to {w : Wd} {m : Nat} (h : isM w m) : wR w m 32 = some (m + 26) ∧ wK w (m + 26) = 100 ∧ wN w (m + 26) = 4700 := h.2 26 (by decide) (by decide)
theorem M_from {w : Wd} {m : Nat} (h : isM w m) : wR w m 33 = some (m + 27) ∧ wK w (m + 27) = 100 ∧ wN w (m + 27) = 4700 := h.2 27 (by decide) (by decide)
theorem M_nr {w : Wd} {m : Nat} (h : isM w m) : wR w m 34 = some (m + 28) ∧ wK w (m + 28) = 100 ∧ wN w (m + 28) = 4700 := h.2 28 (by decide) (by decide)
theorem M_number {w : Wd} {m : Nat} (h : isM w m) : wR w m 35 = some (m + 29) ∧ wK w (m + 29) = 100 ∧ wN w (m + 29) = 4700 := h.2 29 (by decide) (by decide)
theorem M_info {w : Wd} {m : Nat} (h : isM w m) : wR w m 36 = some (m + 30) ∧ wK w (m + 30) = 100 ∧ wN w (m + 30) = 4700 := h.2 30 (by decide) (by decide)
theorem M_key {w : Wd} {m : Nat} (h : isM w m) : wR w m 37 = some (m + 31) ∧ wK w (m + 31) = 100 ∧ wN w (m + 31) = 4700 := h.2 31 (by decide) (by decide)
theorem M_act {w : Wd} {m : Nat} (h : isM w m) : wR w m 38 = some (m + 32) ∧ wK w (m + 32) = 100 ∧ wN w (m + 32) = 4700 := h.2 32 (by decide) (by decide)
theorem M_a {w : Wd} {m : Nat} (h : isM w m) : wR w m 39 = some (m + 33) ∧ wK w (m + 33) = 101 ∧ wN w (m + 33) = 4700 := h.2 33 (by decide) (by decide)
theorem M_b {w : Wd} {m : Nat} (h : isM w m) : wR w m 40 = some (m + 34) ∧ wK w (m + 34) = 101 ∧ wN w (m + 34) = 4700 := h.2 34 (by decide) (by decide)
theorem M_movedValues {w : Wd} {m : Nat} (h : isM w m) : wR w m 41 = some (m + 35) ∧ wK w (m + 35) = 101 ∧ wN w (m + 35) = 18800 := h.2 35 (by decide) (by decide)
theorem M_movedClient {w : Wd} {m : Nat} (h : isM w m) : wR w m 42 = some (m + 36) ∧ wK w (m + 36) = 100 ∧ wN w (m + 36) = 56400 := h.2 36 (by decide) (by decide)
theorem M_movedIncarnation {w : Wd} {m : Nat} (h : isM w m) : wR w m 43 = some (m + 37) ∧ wK w (m + 37) = 100 ∧ wN w (m + 37) = 56400 := h.2 37 (by decide) (by decide)
theorem M_movedNumber {w : Wd} {m : Nat} (h : isM w m) : wR w m 44 = some (m + 38) ∧ wK w (m + 38) = 100 ∧ wN w (m + 38) = 56400 := h.2 38 (by decide) (by decide)
theorem M_movedResult {w : Wd} {m : Nat} (h : isM w m) : wR w m 45 = some (m + 39) ∧ wK w (m + 39) = 101 ∧ wN w (m + 39) = 56400 := h.2 39 (by decide) (by decide)
theorem M_movedKnown {w : Wd} {m : Nat} (h : isM w m) : wR w m 46 = some (m + 40) ∧ wK w (m + 40) = 100 ∧ wN w (m + 40) = 28200 := h.2 40 (by decide) (by decide)
theorem M_movedFirst {w : Wd} {m : Nat} (h : isM w m) : wR w m 47 = some (m + 41) ∧ wK w (m + 41) = 100 ∧ wN w (m + 41) = 28200 := h.2 41 (by decide) (by decide)
theorem M_row {w : Wd} {m : Nat} (h : isM w m) : wR w m 49 = some (m + 42) ∧ wK w (m + 42) = 100 ∧ wN w (m + 42) = 400 := h.2 42 (by decide) (by decide)
theorem M_held {w : Wd} {m : Nat} (h : isM w m) : wR w m 51 = some (m + 43) ∧ wK w (m + 43) = 100 ∧ wN w (m + 43) = 16800 := h.2 43 (by decide) (by decide)
theorem M_heldMany {w : Wd} {m : Nat} (h : isM w m) : wR w m 52 = some (m + 44) ∧ wK w (m + 44) = 100 ∧ wN w (m + 44) = 4 := h.2 44 (by decide) (by decide)
/-- only the reference was written -/
def Mf (m : Nat) (w w' : Wd) : Prop := wn w' = wn w ∧ wK w' = wK w ∧ wN w' = wN w ∧ wR w' = wR w ∧ (∀ q, q < m ∨ m + 44 < q → wI w' q = wI w q ∧ wL w' q = wL w q)
theorem Mf.rf {m : Nat} {w : Wd} : Mf m w w := ⟨rfl, rfl, rfl, rfl, fun _ _ => ⟨rfl, rfl⟩⟩
theorem Mf.tr {m : Nat} {w w1 w2 : Wd} (h1 : Mf m w w1) (h2 : Mf m w1 w2) : Mf m w w2 := ⟨h2.1.trans h1.1, h2.2.1.trans h1.2.1, h2.2.2.1.trans h1.2.2.1, h2.2.2.2.1.trans h1.2.2.2.1, fun q hq => ⟨(h2.2.2.2.2 q hq).1.trans (h1.2.2.2.2 q hq).1, (h2.2.2.2.2 q hq).2.trans (h1.2.2.2.2 q hq).2⟩⟩
theorem Mf.sI {m b k : Nat} {v : Int32} {w : Wd} (h : m ≤ b) (h2 : b ≤ m + 44) : Mf m w (sI w b k v) := ⟨rfl, rfl, rfl, rfl, fun q hq => ⟨up2_n _ _ _ (by omega), rfl⟩⟩
theorem Mf.sL {m b k : Nat} {v : Int64} {w : Wd} (h : m ≤ b) (h2 : b ≤ m + 44) : Mf m w (sL w b k v) := ⟨rfl, rfl, rfl, rfl, fun q hq => ⟨rfl, up2_n _ _ _ (by omega)⟩⟩
theorem isM.f {m b : Nat} {w w' : Wd} (h : isM w m) (hb : Mf b w w') : isM w' m := by
  unfold isM at h ⊢
  rw [hb.2.1, hb.2.2.1, hb.2.2.2.1]
  exact h

section MD
variable {w : Wd} {m c : Nat} {inc en : Int32} {cs : List Cal} {gu : Nat → Int32}
theorem m_in {x l h : Int32} : f_X6_in x l h w = some (if l ≤ x ∧ x ≤ h then 1 else 0, w) := by
  suffices ok (f_X6_in x l h w) (fun v w' => v = (if l ≤ x ∧ x ≤ h then 1 else 0) ∧ w' = w) by
    obtain ⟨v, w', e, rfl, rfl⟩ := this
    exact e
  unfold f_X6_in
  refine ok_if (fun c1 => ok_z (Or.inl rfl) ⟨?_, rfl⟩) (fun c1 => ok_if (fun c2 => ok_z (Or.inl rfl) ⟨?_, rfl⟩) (fun c2 => ok_z (Or.inr rfl) ⟨?_, rfl⟩))
  · rw [if_neg (fun z => Int32.not_le.mpr c1 z.1)]
  · rw [if_neg (fun z => Int32.not_le.mpr c2 z.2)]
  · rw [if_pos ⟨Int32.not_lt.mp c1, Int32.not_lt.mp c2⟩]
theorem m_isClient {x : Int32} : f_X6_isClient x w = some (if 0 ≤ x ∧ x ≤ 5 then 1 else 0, w) := by
  unfold f_X6_isClient
  rw [m_in]
  show retZ _ w = _
  unfold retZ
  by_cases h : 0 ≤ x ∧ x ≤ 5 <;> simp [h]
theorem m_isServer {x : Int32} {S : Nat} (hM : isM w m) (hS : wI w m 0 = nI S) (h1 : 1 ≤ S) (h2 : S ≤ 4) : f_X6_isServer m x w = some (if 0 ≤ x ∧ x ≤ nI (S - 1) then 1 else 0, w) := by
  suffices ok (f_X6_isServer m x w) (fun v w' => v = (if 0 ≤ x ∧ x ≤ nI (S - 1) then 1 else 0) ∧ w' = w) by
    obtain ⟨v, w', e, rfl, rfl⟩ := this
    exact e
  have e1 : nI S - 1 = nI (S - 1) := by
    obtain ⟨q, rfl⟩ : ∃ q, S = q + 1 := ⟨S - 1, by omega⟩
    rw [nI_pred]; rfl
  unfold f_X6_isServer
  refine ok_gI hM.1 hS ?_
  rw [e1, m_in]
  show ok (retZ _ w) _
  by_cases h : 0 ≤ x ∧ x ≤ nI (S - 1)
  · rw [if_pos h]; exact ok_z (Or.inr rfl) ⟨rfl, rfl⟩
  · rw [if_neg h]; exact ok_z (Or.inl rfl) ⟨rfl, rfl⟩
/-- client c in the reference -/
def calM (w : Wd) (m c n : Nat) : Cal := (wI w (m + 5) (60 * c + n), wL w (m + 6) (60 * c + n), wI w (m + 7) (60 * c + n), wI w (m + 8) (60 * c + n), wL w (m + 9) (60 * c + n), wL w (m + 10) (60 * c + n))
def CLM (w : Wd) (m c : Nat) (inc en : Int32) (cs : List Cal) (gu : Nat → Int32) : Prop := wI w (m + 1) c = inc ∧ wI w (m + 2) c = en ∧ wI w (m + 3) c = nI cs.length ∧ cs.length ≤ 60 ∧ (∀ i r, cs[i]? = some r → calM w m c i = r) ∧ (∀ b, b < 8 → wI w (m + 4) (8 * c + b) = gu b)
theorem CLM.st (h : CLM w m c inc en cs gu) {i : Nat} (hi : i < cs.length) : wI w (m + 5) (60 * c + i) = cs[i].1 := by
  have := h.2.2.2.2.1 i _ (List.getElem?_eq_getElem hi)
  rw [← this]; rfl
theorem m60 (c j : Nat) : (60 : Int32) * nI c + nI j = nI (60 * c + j) := by
  rw [show (60 : Int32) = nI 60 from rfl, pk_mul, nI_add]
theorem m60p (c j : Nat) : (60 : Int32) * nI c + nI (j + 1) - 1 = nI (60 * c + j) := by
  rw [m60, show 60 * c + (j + 1) = (60 * c + j) + 1 by omega, nI_pred]
theorem m_first (hM : isM w m) (hc : c < 6) (h : CLM w m c inc en cs gu) : f_X6_first m (nI c) w = some (nI (fst1 cs), w) := by
  obtain ⟨r9, k9, n9⟩ := M_calls hM
  obtain ⟨r11, k11, n11⟩ := M_state hM
  have h3 := h.2.2.1
  have hl := h.2.2.2.1
  suffices H : ∀ (n j : Nat), cs.length < n + j → j ≤ cs.length → (∀ i r, i < j → cs[i]? = some r → isW r = false) → ok (f_X6_first_2 n m (nI c) (nI (j + 1)) w) (fun v w' => v = nI (fst1 cs) ∧ w' = w) by
    obtain ⟨v, w', e, rfl, rfl⟩ := H FU 0 (by unfold FU; omega) (by omega) (fun i r hi => by omega)
    exact e
  intro n
  induction n with
  | zero => intro j h1 h2; omega
  | succ n ih =>
    intro j h1 h2 hw
    rw [f_X6_first_2.eq_2]
    refine ok_gR hM.1 r9 (ok_aI rfl k9 (by omega) (by omega) h3 (ok_if (fun c1 => ?_) (fun c1 => ?_)))
    · rw [nI_ltI (by omega) (by omega)] at c1
      refine ok_ret ⟨?_, rfl⟩
      congr 1
      unfold fst1
      have : cs.findIdx isW = cs.length := List.findIdx_eq_length.mpr (fun r hr => by
        obtain ⟨i, hi⟩ := List.getElem?_of_mem hr
        have := (List.getElem?_eq_some_iff.mp hi).1
        exact hw i r (by omega) hi)
      omega
    · rw [nI_ltI (by omega) (by omega)] at c1
      have hj : j < cs.length := by omega
      refine ok_gR hM.1 r11 (ok_aI (m60p c j) k11 (by omega) (by omega) (h.st hj) (ok_if (fun c2 => ok_ret ⟨?_, rfl⟩) (fun c2 => ?_)))
      · congr 1
        unfold fst1
        have : cs.findIdx isW = j := (List.findIdx_eq hj).mpr ⟨by simp [isW, c2], fun i hi => hw i _ hi (List.getElem?_eq_getElem (by omega))⟩
        rw [this]
      · rw [nI_1]
        refine ih (j + 1) (by omega) (by omega) (fun i r hi hr => ?_)
        by_cases e : i = j
        · subst e
          rw [List.getElem?_eq_getElem hj] at hr
          cases hr
          simp [isW, c2]
        · exact hw i r (by omega) hr
theorem m_wait (hM : isM w m) (hc : c < 6) (h : CLM w m c inc en cs gu) : f_X6_waiting m (nI c) w = some (nI (cs.countP isW), w) := by
  obtain ⟨r9, k9, n9⟩ := M_calls hM
  obtain ⟨r11, k11, n11⟩ := M_state hM
  have h3 := h.2.2.1
  have hl := h.2.2.2.1
  suffices H : ∀ (n j : Nat), cs.length < n + j → j ≤ cs.length → ok (f_X6_waiting_4 n m (nI c) (nI ((cs.take j).countP isW)) (nI j) w) (fun v w' => v = nI (cs.countP isW) ∧ w' = w) by
    obtain ⟨v, w', e, rfl, rfl⟩ := H FU 0 (by unfold FU; omega) (by omega)
    exact e
  intro n
  induction n with
  | zero => intro j h1 h2; omega
  | succ n ih =>
    intro j h1 h2
    rw [f_X6_waiting_4.eq_2]
    refine ok_gR hM.1 r9 (ok_aI rfl k9 (by omega) (by omega) h3 (ok_if (fun c1 => ?_) (fun c1 => ?_)))
    · rw [nI_leI (by omega) (by omega)] at c1
      refine ok_ret ⟨?_, rfl⟩
      rw [List.take_of_length_le (by omega)]
    · rw [nI_leI (by omega) (by omega)] at c1
      have hj : j < cs.length := by omega
      have e1 : cs.take (j + 1) = cs.take j ++ [cs[j]] := by rw [List.take_succ_eq_append_getElem hj]
      have := ih (j + 1) (by omega) (by omega)
      rw [e1, List.countP_append] at this
      refine ok_gR hM.1 r11 (ok_aI (m60 c j) k11 (by omega) (by omega) (h.st hj) (ok_if (fun c2 => ?_) (fun c2 => ?_)))
      · unfold f_X6_waiting_34
        rw [nI_1, nI_1]
        simpa [List.countP_cons, isW, c2] using this
      · unfold f_X6_waiting_34
        rw [nI_1]
        simpa [List.countP_cons, isW, c2] using this
end MD
