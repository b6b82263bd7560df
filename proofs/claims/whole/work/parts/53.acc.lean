/-! THE CLASS: how it finds clients, servers, buckets; whether an incarnation is live; the plain questions -/
section ACC
variable {w : Wd} {o S : Nat} {le : Int32} {sc : Nat → Int32} {cl : Nat → ClD} {mem kept : Nat → Nat → BkD} {up cn : Nat → Bool} {row : List Ltr} {held : Nat → List Ltr}
theorem ok_eq {α : Type} {x : Option (α × Wd)} {v : α} {w' : Wd} (h : ok x (fun a b => a = v ∧ b = w')) : x = some (v, w') := by
  obtain ⟨a, b, e, rfl, rfl⟩ := h; exact e
theorem ok_of {α : Type} {x : Option (α × Wd)} {v : α} {w' : Wd} {P : α → Wd → Prop} (h : x = some (v, w')) (hP : P v w') : ok x P := ⟨v, w', h, hP⟩
theorem ok_use {α β : Type} {x : Option (β × Wd)} {f : β → Wd → Option (α × Wd)} {P : α → Wd → Prop} {v : β} {w' : Wd} (h : x = some (v, w')) (hP : ok (f v w') P) : ok (bnd x f) P := by rw [h]; exact hP
theorem c_cl_out (h : RC w o S le sc cl mem kept up cn row held) {x : Int32} (hx : x < 0 ∨ nI 6 ≤ x) : f_X5_clientAt o x w = some (none, w) := by
  obtain ⟨⟨k0, -, r1, -⟩, -, -, ⟨k2, n2, -⟩⟩ := h.2.1
  refine ok_eq ?_
  unfold f_X5_clientAt
  refine ok_if (fun _ => ok_ret ⟨rfl, rfl⟩) (fun c => ok_gR k0 r1 (ok_gN k2 (v := nI 6) (by rw [n2]) (ok_t ?_ (ok_ret ⟨rfl, rfl⟩))))
  rcases hx with hx | hx
  · exact absurd hx c
  · exact hx
theorem c_cl_in (h : RC w o S le sc cl mem kept up cn row held) {c : Nat} (hc : c < 6) : f_X5_clientAt o (nI c) w = some (some (aCl o S c), w) := by
  obtain ⟨⟨k0, -, r1, -⟩, -, -, ⟨k2, n2, e2⟩⟩ := h.2.1
  refine ok_eq ?_
  unfold f_X5_clientAt
  refine ok_f (nI_pos (by omega)) (ok_gR k0 r1 (ok_gN k2 (v := nI 6) (by rw [n2]) (ok_f ?_ (ok_gR k0 r1 (ok_aR rfl k2 (by omega) (by omega) (e2 c hc) (ok_ret ⟨rfl, rfl⟩))))))
  rw [nI_leI (by omega) (by omega)]; omega
theorem c_sv_out (h : RC w o S le sc cl mem kept up cn row held) {x : Int32} (hx : x < 0 ∨ nI S ≤ x) : f_X5_serverAt o x w = some (none, w) := by
  obtain ⟨⟨k0, r0, -, -⟩, -, ⟨k2, n2, -⟩, -⟩ := h.2.1
  refine ok_eq ?_
  unfold f_X5_serverAt
  refine ok_if (fun _ => ok_ret ⟨rfl, rfl⟩) (fun c => ok_gR k0 r0 (ok_gN k2 (v := nI S) (by rw [n2]) (ok_t ?_ (ok_ret ⟨rfl, rfl⟩))))
  rcases hx with hx | hx
  · exact absurd hx c
  · exact hx
theorem c_sv_in (h : RC w o S le sc cl mem kept up cn row held) {s : Nat} (hs : s < S) : f_X5_serverAt o (nI s) w = some (some (aSv o s), w) := by
  have hS := h.1.2.1
  obtain ⟨⟨k0, r0, -, -⟩, -, ⟨k2, n2, e2⟩, -⟩ := h.2.1
  refine ok_eq ?_
  unfold f_X5_serverAt
  refine ok_f (nI_pos (by omega)) (ok_gR k0 r0 (ok_gN k2 (v := nI S) (by rw [n2]) (ok_f ?_ (ok_gR k0 r0 (ok_aR rfl k2 (by omega) (by omega) (e2 s hs) (ok_ret ⟨rfl, rfl⟩))))))
  rw [nI_leI (by omega) (by omega)]; omega
theorem c_bk_in (h : RC w o S le sc cl mem kept up cn row held) {s b : Nat} (hs : s < S) (hb : b < 8) : f_X4_bucketAt (aSv o s) (nI b) w = some (some (aMb o s b), w) := by
  obtain ⟨⟨k0, -, -, r2, -⟩, ⟨k3, n3, e3⟩, -⟩ := h.2.2.1 s hs
  refine ok_eq ?_
  unfold f_X4_bucketAt
  refine ok_f (nI_pos (by omega)) (ok_f ?_ (ok_gR k0 r2 (ok_aR rfl k3 (by omega) (by omega) (e3 b hb) (ok_ret ⟨rfl, rfl⟩))))
  rw [show (8 : Int32) = nI 8 from rfl, nI_leI (by omega) (by omega)]; omega
theorem c_bk_out {a : Nat} {x : Int32} (hx : x < 0 ∨ nI 8 ≤ x) : f_X4_bucketAt a x w = some (none, w) := by
  refine ok_eq ?_
  unfold f_X4_bucketAt
  refine ok_if (fun _ => ok_ret ⟨rfl, rfl⟩) (fun c => ok_t ?_ (ok_ret ⟨rfl, rfl⟩))
  rcases hx with hx | hx
  · exact absurd hx c
  · exact hx
/-- live: of client data d, at time t, the incarnation i -/
def liv (d : ClD) (t i : Int32) : Prop := ¬ d.1 = 0 ∧ d.1 = i ∧ ¬ d.2.1 < t
theorem c_live (h : RC w o S le sc cl mem kept up cn row held) {c : Nat} (hc : c < 6) (i : Int32) [Decidable (liv (cl c) (sc 0) i)] : f_X5_isLive o (nI c) i w = some (if liv (cl c) (sc 0) i then 1 else 0, w) := by
  have k0 := h.2.1.1.1
  have ht := h.2.1.2.1.2.1
  obtain ⟨⟨⟨kc, -⟩, -⟩, -, h1, h2, -⟩ := h.2.2.2.1 c hc
  refine ok_eq ?_
  unfold f_X5_isLive
  refine ok_chk k0 (ok_use (c_cl_in h hc) (ok_f (by simp) (ok_gI kc h1 (ok_if (fun c1 => ok_z (Or.inl rfl) ⟨?_, rfl⟩) (fun c1 => ok_gI kc h1 (ok_if (fun c2 => ok_gI k0 ht (ok_gI kc h2 (ok_if (fun c3 => ok_z (Or.inl rfl) ⟨?_, rfl⟩) (fun c3 => ok_z (Or.inr rfl) ⟨?_, rfl⟩)))) (fun c2 => ok_z (Or.inl rfl) ⟨?_, rfl⟩)))))))
  · rw [if_neg (fun z => z.1 c1)]
  · rw [if_neg (fun z => z.2.2 c3)]
  · rw [if_pos ⟨c1, c2, c3⟩]
  · rw [if_neg (fun z => c2 z.2.1)]
-- the plain questions, of numbers
theorem c_count (h : RC w o S le sc cl mem kept up cn row held) (x : Int32) : f_X5_count o x w = some (if x = 0 then nI row.length else if x = 1 then sc 1 else if x = 2 then sc 2 else if x = 3 then sc 3 else if x = 4 then sc 0 else -1, w) := by
  obtain ⟨⟨k0, -, -, r2⟩, ⟨-, i4, i5, i6, i7, i8⟩, -, -⟩ := h.2.1
  obtain ⟨La, hr, hl⟩ := h.2.2.2.2.2.1
  refine ok_eq ?_
  unfold f_X5_count
  refine ok_if (fun c0 => ok_gR k0 r2 (ok_gI hr.1 hr.2.2.2.2.1 (ok_ret ⟨?_, rfl⟩))) (fun c0 => ok_if (fun c1 => ok_gI k0 i6 (ok_ret ⟨?_, rfl⟩)) (fun c1 => ok_if (fun c2 => ok_gI k0 i7 (ok_ret ⟨?_, rfl⟩)) (fun c2 => ok_if (fun c3 => ok_gI k0 i8 (ok_ret ⟨?_, rfl⟩)) (fun c3 => ok_if (fun c4 => ok_gI k0 i4 (ok_ret ⟨?_, rfl⟩)) (fun c4 => ok_ret ⟨?_, rfl⟩)))))
  · rw [if_pos c0, hl.1]
  · rw [if_neg c0, if_pos c1]
  · rw [if_neg c0, if_neg c1, if_pos c2]
  · rw [if_neg c0, if_neg c1, if_neg c2, if_pos c3]
  · rw [if_neg c0, if_neg c1, if_neg c2, if_neg c3, if_pos c4]
  · rw [if_neg c0, if_neg c1, if_neg c2, if_neg c3, if_neg c4]
theorem c_ticks (h : RC w o S le sc cl mem kept up cn row held) (x : Int32) : ok (f_X5_ticks o x w) (fun v w' => (0 ≤ x ∧ x ≤ 1000 → v = sc 0 + x ∧ RC w' o S le (va_up sc 0 (sc 0 + x)) cl mem kept up cn row held ∧ Cf o S w w') ∧ (¬ (0 ≤ x ∧ x ≤ 1000) → v = -1 ∧ w' = w)) := by
  have k0 := h.2.1.1.1
  have i4 := h.2.1.2.1.2.1
  unfold f_X5_ticks
  refine ok_if (fun c => ok_ret ⟨fun z => absurd c (Int32.not_lt.mpr z.1), fun _ => ⟨rfl, rfl⟩⟩) (fun c => ok_if (fun c1 => ok_gI k0 i4 (ok_pI k0 (ok_gI k0 (v := sc 0 + x) (by rw [wI_s, if_pos ⟨rfl, rfl⟩]) (ok_ret ⟨fun _ => ⟨rfl, h.num (Or.inl ⟨rfl, rfl⟩)⟩, fun z => absurd ⟨Int32.not_lt.mp c, c1⟩ z⟩)))) (fun c1 => ok_ret ⟨fun z => absurd z.2 c1, fun _ => ⟨rfl, rfl⟩⟩))
theorem c_open_out (h : RC w o S le sc cl mem kept up cn row held) {x : Int32} (hx : x < 0 ∨ nI 6 ≤ x) : f_X5_open o x w = some (-1, w) := by
  refine ok_eq ?_
  unfold f_X5_open
  exact ok_chk h.2.1.1.1 (ok_use (c_cl_out h hx) (ok_t rfl (ok_ret ⟨rfl, rfl⟩)))
theorem bfcl {c k : Nat} {v : Int32} : Bf (aCl o S c) w (sI w (aCl o S c) k v) := Bf.sI (Nat.le_refl _) (by omega)
theorem c_open_in (h : RC w o S le sc cl mem kept up cn row held) {c : Nat} (hc : c < 6) : ok (f_X5_open o (nI c) w) (fun v w' => v = sc 4 + 1 ∧ RC w' o S le (va_up sc 4 (sc 4 + 1)) (va_up cl c (sc 4 + 1, sc 0 + le, [], (cl c).2.2.2)) mem kept up cn row held ∧ Cf o S w w') := by
  have k0 := h.2.1.1.1
  obtain ⟨i3, i4, i5, -⟩ := h.2.1.2.1
  have hne : ∀ (k j : Nat), ¬ (aCl o S c = o ∧ k = j) := fun k j z => by unfold aCl at z; omega
  have hno : ∀ (k j : Nat), ¬ (o = aCl o S c ∧ k = j) := fun k j z => by unfold aCl at z; omega
  obtain ⟨r1, f1⟩ := h.num (k := 5) (j := 4) (v := sc 4 + 1) (Or.inr (Or.inl ⟨rfl, rfl⟩))
  have hcl := r1.2.2.2.1 c hc
  have kc := hcl.1.1.1
  unfold f_X5_open
  refine ok_chk k0 (ok_use (c_cl_in h hc) (ok_f (by simp) (ok_gI k0 i5 (ok_pI k0 (ok_gI k0 (v := sc 4 + 1) (by rw [wI_s, if_pos ⟨rfl, rfl⟩]) (ok_pI kc (ok_pI kc (ok_gI k0 (v := sc 0) (by rw [wI_s, if_neg (hno _ _), wI_s, if_neg (hno _ _), wI_s, if_neg (by omega)]; exact i4) (ok_gI k0 (v := le) (by rw [wI_s, if_neg (hno _ _), wI_s, if_neg (hno _ _), wI_s, if_neg (by omega)]; exact i3) (ok_pI kc (ok_gI kc (v := sc 4 + 1) (by simp [wI_s]) (ok_ret ⟨rfl, ?_⟩))))))))))))
  have hf : Bf (aCl o S c) (sI w o 5 (sc 4 + 1)) (sI (sI (sI (sI w o 5 (sc 4 + 1)) (aCl o S c) 1 (sc 4 + 1)) (aCl o S c) 3 0) (aCl o S c) 2 (sc 0 + le)) := (bfcl.tr bfcl).tr bfcl
  obtain ⟨hC, g0, g1, g2, h3, hl, hr, hg⟩ := hcl
  obtain ⟨r2, f2⟩ := r1.cli hc (d := (sc 4 + 1, sc 0 + le, [], (cl c).2.2.2)) hf ⟨hC.f hf, by simp [wI_s]; simpa [wI_s] using g0, by simp [wI_s], by simp [wI_s], by simp [wI_s]; exact nI_0.symm, by simp, fun i r hi => by simp at hi, fun b hb => by simp [wI_s]; simpa [wI_s] using hg b hb⟩
  exact ⟨r2, f1.tr f2⟩
theorem c_renew_out (h : RC w o S le sc cl mem kept up cn row held) {x : Int32} (hx : x < 0 ∨ nI 6 ≤ x) : f_X5_renew o x w = some (-1, w) := by
  refine ok_eq ?_
  unfold f_X5_renew
  exact ok_chk h.2.1.1.1 (ok_use (c_cl_out h hx) (ok_t rfl (ok_ret ⟨rfl, rfl⟩)))
theorem c_renew_dead (h : RC w o S le sc cl mem kept up cn row held) {c : Nat} (hc : c < 6) (hd : ¬ liv (cl c) (sc 0) (cl c).1) : f_X5_renew o (nI c) w = some (-3, w) := by
  have k0 := h.2.1.1.1
  obtain ⟨⟨⟨kc, -⟩, -⟩, -, h1, -⟩ := h.2.2.2.1 c hc
  haveI : Decidable (liv (cl c) (sc 0) (cl c).1) := Classical.propDecidable _
  have e := c_live h hc (cl c).1
  rw [if_neg hd] at e
  refine ok_eq ?_
  unfold f_X5_renew
  exact ok_chk k0 (ok_use (c_cl_in h hc) (ok_f (by simp) (ok_gI kc h1 (ok_chk k0 (ok_use e (ok_t rfl (ok_ret ⟨rfl, rfl⟩)))))))
theorem c_renew_in (h : RC w o S le sc cl mem kept up cn row held) {c : Nat} (hc : c < 6) (hd : liv (cl c) (sc 0) (cl c).1) : ok (f_X5_renew o (nI c) w) (fun v w' => v = sc 0 + le ∧ RC w' o S le sc (va_up cl c ((cl c).1, sc 0 + le, (cl c).2.2)) mem kept up cn row held ∧ Cf o S w w') := by
  have k0 := h.2.1.1.1
  obtain ⟨i3, i4, i5, -⟩ := h.2.1.2.1
  have hcl := h.2.2.2.1 c hc
  have kc := hcl.1.1.1
  have h1 := hcl.2.2.1
  haveI : Decidable (liv (cl c) (sc 0) (cl c).1) := Classical.propDecidable _
  have e := c_live h hc (cl c).1
  rw [if_pos hd] at e
  unfold f_X5_renew
  refine ok_chk k0 (ok_use (c_cl_in h hc) (ok_f (by simp) (ok_gI kc h1 (ok_chk k0 (ok_use e (ok_f (by decide) (ok_gI k0 i4 (ok_gI k0 i3 (ok_pI kc (ok_gI kc (v := sc 0 + le) (by simp [wI_s]) (ok_ret ⟨rfl, ?_⟩)))))))))))
  obtain ⟨hC, g0, g1, g2, h3, hl, hr, hg⟩ := hcl
  exact h.cli hc (d := ((cl c).1, sc 0 + le, (cl c).2.2)) bfcl ⟨hC.f bfcl, by simp [wI_s]; exact g0, by simp [wI_s]; exact g1, by simp [wI_s], by simp [wI_s]; exact h3, hl, fun i r hi => by rw [← hr i r hi]; simp [calAt, wI_s, (wsI _ _ _ _).2.2.2.1], fun b hb => by simp [wI_s]; exact hg b hb⟩
end ACC
