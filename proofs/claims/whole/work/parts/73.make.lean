/-! NEW OBJECTS WITH ARRAYS; MOVE -/
section MK
variable {w w' : Wd} {o m S : Nat} {le : Int32} {sc : Nat → Int32} {cl : Nat → ClD} {mem kept : Nat → Nat → BkD} {up cn dy : Nat → Bool} {row : List Ltr} {held : Nat → List Ltr} {fl : List (Nat × Ltr)}
/-- from w0 on, arrays were made from b on, one after another, and put into o's fields: field, kind, length -/
def Mks (o b : Nat) (L : List (Nat × Nat × Nat)) (w0 w : Wd) : Prop := wn w0 = b ∧ wn w = b + L.length ∧ (Wf w0 → Wf w) ∧ (∀ q, q < b → wK w q = wK w0 q ∧ wN w q = wN w0 q ∧ wI w q = wI w0 q ∧ wL w q = wL w0 q ∧ (q ≠ o → wR w q = wR w0 q)) ∧ (∀ k, (∀ e, e ∈ L → e.1 ≠ k) → wR w o k = wR w0 o k) ∧ (∀ (i : Nat) (e : Nat × Nat × Nat), L[i]? = some e → wR w o e.1 = some (b + i) ∧ wK w (b + i) = e.2.1 ∧ wN w (b + i) = e.2.2 ∧ wI w (b + i) = (fun _ => 0) ∧ wL w (b + i) = fun _ => 0)
theorem Mks.z {b : Nat} (h : wn w = b) : Mks o b [] w w := ⟨h, by rw [h]; rfl, id, fun q _ => ⟨rfl, rfl, rfl, rfl, fun _ => rfl⟩, fun _ _ => rfl, fun i e h => by simp at h⟩
theorem wR_o {a k b : Nat} {v : Option Nat} (h : b ≠ a) : wR (sR w a k v) b = wR w b := up2_n _ _ _ h
theorem ok_mk {α : Type} {P : α → Wd → Prop} {b kd fld ka N bd : Nat} {i : Int32} {L : List (Nat × Nat × Nat)} {w0 : Wd} {f : Wd → Option (α × Wd)} (M : Mks o b L w0 w) (ho : o < b) (hko : wK w0 o = kd) (hi : i = nI N) (hN : N ≤ bd) (hb : N < 2 ^ 31) (hf : ∀ e, e ∈ L → e.1 ≠ fld) (h : ∀ w', Mks o b (L ++ [(fld, ka, N)]) w0 w' → ok (f w') P) : ok (nwA w ka i bd (fun w1 => pR w1 (some o) kd fld (some (wn w)) f)) P := by
  obtain ⟨a1, a2, a3, a4, a5, a6⟩ := M
  have hne : o ≠ wn w := by omega
  refine ok_nwA hi hN hb (ok_pR ?_ (h _ ?_))
  · rw [(wnew w ka N o).2.1, if_neg hne, (a4 o ho).1]; exact hko
  have e1 : wn (sR (newC w ka N) o fld (some (wn w))) = wn w + 1 := rfl
  have e2 : wK (sR (newC w ka N) o fld (some (wn w))) = wK (newC w ka N) := rfl
  have e3 : wN (sR (newC w ka N) o fld (some (wn w))) = wN (newC w ka N) := rfl
  have e4 : wI (sR (newC w ka N) o fld (some (wn w))) = wI (newC w ka N) := rfl
  have e5 : wL (sR (newC w ka N) o fld (some (wn w))) = wL (newC w ka N) := rfl
  have e6 : ∀ q, q ≠ o → wR (sR (newC w ka N) o fld (some (wn w))) q = wR (newC w ka N) q := fun q hq => wR_o hq
  have e7 : ∀ k, wR (sR (newC w ka N) o fld (some (wn w))) o k = if k = fld then some (wn w) else wR w o k := fun k => by
    rw [wR_s, (wnew w ka N o).2.2.2.2.2, if_neg hne]; simp
  have e8 : Wf w → Wf (sR (newC w ka N) o fld (some (wn w))) := fun z => (NewF.new (kd := ka) (n := N) z).2.1
  generalize sR (newC w ka N) o fld (some (wn w)) = w9 at e1 e2 e3 e4 e5 e6 e7 e8 ⊢
  refine ⟨a1, by rw [e1, a2, List.length_append]; rfl, fun z => e8 (a3 z), fun q hq => ?_, fun k hk => ?_, fun j e he => ?_⟩
  · obtain ⟨n1, n2, n3, n4, n5, n6⟩ := wnew w ka N q
    have hq' : q ≠ wn w := by omega
    obtain ⟨c1, c2, c3, c4, c5⟩ := a4 q hq
    rw [e2, e3, e4, e5, n2, n3, n4, n5, if_neg hq', if_neg hq', if_neg hq', if_neg hq']
    refine ⟨c1, c2, c3, c4, fun z => ?_⟩
    rw [e6 q z, n6, if_neg hq']
    exact c5 z
  · rw [e7, if_neg (fun z => hk (fld, ka, N) (List.mem_append.mpr (Or.inr (List.mem_singleton.mpr rfl))) z.symm)]
    exact a5 k (fun e he => hk e (List.mem_append.mpr (Or.inl he)))
  · by_cases hj : j < L.length
    · rw [List.getElem?_append_left hj] at he
      obtain ⟨c1, c2, c3, c4, c5⟩ := a6 j e he
      obtain ⟨n1, n2, n3, n4, n5, n6⟩ := wnew w ka N (b + j)
      have hq' : b + j ≠ wn w := by omega
      rw [e2, e3, e4, e5, n2, n3, n4, n5, if_neg hq', if_neg hq', if_neg hq', if_neg hq', e7, if_neg (hf e (List.mem_of_getElem? he))]
      exact ⟨c1, c2, c3, c4, c5⟩
    · have hj2 : j = L.length := by
        have := (List.getElem?_eq_some_iff.mp he).1
        simp at this; omega
      subst hj2
      rw [List.getElem?_append_right (Nat.le_refl _), Nat.sub_self] at he
      cases he
      obtain ⟨n1, n2, n3, n4, n5, n6⟩ := wnew w ka N (b + L.length)
      rw [e2, e3, e4, e5, n2, n3, n4, n5, if_pos a2.symm, if_pos a2.symm, if_pos a2.symm, if_pos a2.symm, e7, if_pos rfl, a2]
      exact ⟨rfl, rfl, rfl, rfl, rfl⟩
theorem bk_make (hw : Wf w) : ok (f_X0_init (wn w) (newC w 1 0)) (fun _ w' => wn w' = wn w + 8 ∧ NewF w w' ∧ BK w' (wn w) 0 0 0 (fun _ => 0) [] (fun _ => 0) (fun _ => 0)) := by
  obtain ⟨n1, n2, n3, n4, n5, n6⟩ := wnew w 1 0 (wn w)
  rw [if_pos rfl] at n2 n3 n4 n5 n6
  have hg := NewF.new (w := w) (kd := 1) (n := 0) hw
  generalize newC w 1 0 = w1 at *
  have M0 : Mks (wn w) (wn w + 1) [] w1 w1 := Mks.z n1
  have ho : wn w < wn w + 1 := by omega
  unfold f_X0_init
  refine ok_mk M0 ho n2 (N := 4) rfl (by omega) (by omega) (by decide) (fun _ M1 => ?_)
  refine ok_mk M1 ho n2 (N := 12) rfl (by omega) (by omega) (by decide) (fun _ M2 => ?_)
  refine ok_mk M2 ho n2 (N := 12) rfl (by omega) (by omega) (by decide) (fun _ M3 => ?_)
  refine ok_mk M3 ho n2 (N := 12) rfl (by omega) (by omega) (by decide) (fun _ M4 => ?_)
  refine ok_mk M4 ho n2 (N := 12) rfl (by omega) (by omega) (by decide) (fun _ M5 => ?_)
  refine ok_mk M5 ho n2 (N := 6) rfl (by omega) (by omega) (by decide) (fun _ M6 => ?_)
  refine ok_mk M6 ho n2 (N := 6) rfl (by omega) (by omega) (by decide) (fun w2 M7 => ok_ret ?_)
  obtain ⟨a1, a2, a3, a4, a5, a6⟩ := M7
  obtain ⟨b1, b2, b3, b4, -⟩ := a4 (wn w) (by omega)
  obtain ⟨r0, k0, l0, i0, j0⟩ := a6 0 _ rfl
  obtain ⟨r1, k1, l1, i1, j1⟩ := a6 1 _ rfl
  obtain ⟨r2, k2, l2, i2, j2⟩ := a6 2 _ rfl
  obtain ⟨r3, k3, l3, i3, j3⟩ := a6 3 _ rfl
  obtain ⟨r4, k4, l4, i4, j4⟩ := a6 4 _ rfl
  obtain ⟨r5, k5, l5, i5, j5⟩ := a6 5 _ rfl
  obtain ⟨r6, k6, l6, i6, j6⟩ := a6 6 _ rfl
  refine ⟨by rw [a2]; rfl, ⟨by rw [a2]; omega, a3 hg.2.1, fun q hq => ?_⟩, ⟨⟨b1.trans n2, r0, r1, r2, r3, r4, r5, r6⟩, ⟨k0, l0⟩, ⟨k1, l1⟩, ⟨k2, l2⟩, ⟨k3, l3⟩, ⟨k4, l4⟩, ⟨k5, l5⟩, ⟨k6, l6⟩⟩, by rw [b3, n4], by rw [b3, n4], by rw [b3, n4], by rw [b3, n4]; exact nI_0.symm, by simp, fun k _ => by rw [show wn w + 1 = wn w + 1 + 0 from rfl, j0], fun i r h => by simp at h, fun c _ => by rw [show wn w + 6 = wn w + 1 + 5 from rfl, i5], fun c _ => by rw [show wn w + 7 = wn w + 1 + 6 from rfl, i6]⟩
  have hq' : q < wn w := hq
  obtain ⟨c1, c2, c3, c4, c5⟩ := a4 q (by omega)
  obtain ⟨d1, d2, d3, d4, d5⟩ := hg.2.2 q hq
  exact ⟨c1.trans d1, c2.trans d2, c3.trans d3, c4.trans d4, (c5 (by omega)).trans d5⟩
theorem NewF.bf {a : Nat} {w1 : Wd} (h : NewF w w1) (g : Bf a w1 w') (ha : wn w ≤ a) : NewF w w' := ⟨by rw [g.1]; exact h.1, g.wf h.2.1, fun q hq => by
  obtain ⟨a1, a2, a3, a4, a5⟩ := h.2.2 q hq
  have hq' : q < wn w := hq
  obtain ⟨b1, b2⟩ := g.2.2.2.2 q (by omega)
  exact ⟨by rw [g.2.1]; exact a1, by rw [g.2.2.1]; exact a2, b1.trans a3, b2.trans a4, by rw [g.2.2.2.1]; exact a5⟩⟩
end MK
