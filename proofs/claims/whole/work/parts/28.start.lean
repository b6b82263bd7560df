/-! THE LAW'S START: the tables, the empty world; the claim out of 'the law's function answers' -/
def w0 (b0 : Nat) : Wd := (b0, fun _ => 0, fun _ => 0, fun _ _ => 0, fun _ _ => 0, fun _ _ => none)
theorem pa_at {s : State} {C : FieldType} {A : Array Value} (h : (Cond.arrayClass C).before A s = true) (hp : C = .int ∨ C = .long ∨ C = .boolean) : ∃ cA : ClassId, ArrOfT s cA C ∧ va_RA s cA C := by
  obtain ⟨cA, kA, comp, h1, h2, h3⟩ := Cond.arrayClass_spec h
  refine ⟨cA, fun n z => ⟨(fun k h => by cases h), kA, h2, comp, h3⟩, ?_⟩
  rcases hp with rfl | rfl | rfl <;> exact h1
theorem ra_at {s : State} {C : String} {A : Array Value} (h : (Cond.arrayOver (.object C)).before A s = true) : ∃ cA : ClassId, ArrOfT s cA (.object C) ∧ va_RA s cA (.object C) := by
  obtain ⟨comp, cA, kA, f4, -, f2, f3, f1⟩ := Cond.arrayOver_spec h
  exact ⟨cA, fun n z => ⟨(fun k h => by cases h), kA, f2, comp, f3⟩, kA, comp, f2, f3, f4, f1⟩
set_option maxHeartbeats 4000000 in
set_option maxRecDepth 100000 in
theorem KX_start {s : State} {b : Nat} (hts : ∀ w ∈ lw_tbl, w.before #[Value.ref b] s = true) : ∃ (D : va_G) (aC : Nat → ClassId), KX D aC s := by
  have htg : ∀ w ∈ Gw, w.before #[Value.ref b] s = true := fun w h => hts w (Gw_in w h)
  obtain ⟨c0, i0, k0⟩ := u_known (C := RX0) (T := TX0) (N := 11) (n := 11) htg inlX0 (htg (.instantiable RX0 11) (sub_r2 _ (List.mem_of_getElem? (i := 22) rfl)))
  obtain ⟨c1, i1, k1⟩ := u_known (C := RX1) (T := TX1) (N := 11) (n := 11) htg inlX1 (htg (.instantiable RX1 11) (sub_r2 _ (List.mem_of_getElem? (i := 0) rfl)))
  obtain ⟨c2, i2, k2⟩ := u_known (C := RX2) (T := TX2) (N := 15) (n := 15) htg inlX2 (htg (.instantiable RX2 15) (sub_r9 _ (List.mem_of_getElem? (i := 15) rfl)))
  obtain ⟨c3, i3, k3⟩ := u_known (C := RX3) (T := TX3) (N := 2) (n := 2) htg inlX3 (htg (.instantiable RX3 2) (sub_r2 _ (List.mem_of_getElem? (i := 3) rfl)))
  obtain ⟨c4, i4, k4⟩ := u_known (C := RX4) (T := TX4) (N := 6) (n := 6) htg inlX4 (htg (.instantiable RX4 6) (sub_r1 _ (List.mem_of_getElem? (i := 20) rfl)))
  obtain ⟨c5, i5, k5⟩ := u_known (C := RX5) (T := TX5) (N := 9) (n := 9) htg inlX5 (htg (.instantiable RX5 9) (sub_r1 _ (List.mem_of_getElem? (i := 1) rfl)))
  obtain ⟨c6, i6, k6⟩ := u_known (C := RX6) (T := TX6) (N := 53) (n := 53) htg inlX6 (htg (.instantiable RX6 53) (sub_r1 _ (List.mem_of_getElem? (i := 4) rfl)))
  obtain ⟨a0, p0, q0⟩ := pa_at (C := .int) (htg (.arrayClass .int) (sub_r3 _ (List.mem_of_getElem? (i := 15) rfl))) (Or.inl rfl)
  obtain ⟨a1, p1, q1⟩ := pa_at (C := .long) (htg (.arrayClass .long) (sub_r3 _ (List.mem_of_getElem? (i := 13) rfl))) (Or.inr (Or.inl rfl))
  obtain ⟨a2, p2, q2⟩ := pa_at (C := .boolean) (htg (.arrayClass .boolean) (sub_r6 _ (List.mem_of_getElem? (i := 1) rfl))) (Or.inr (Or.inr rfl))
  have o0 := hts (.arrayOver (.object RX0)) (tb_1 _ (List.mem_of_getElem? (i := 46) rfl))
  have o1 := hts (.arrayOver (.object RX1)) (tb_1 _ (List.mem_of_getElem? (i := 136) rfl))
  have o2 := hts (.arrayOver (.object RX2)) (tb_1 _ (List.mem_of_getElem? (i := 36) rfl))
  have o4 := hts (.arrayOver (.object RX4)) (tb_1 _ (List.mem_of_getElem? (i := 20) rfl))
  have n1 := hts nst1 (tb_1 _ (List.mem_of_getElem? (i := 49) rfl))
  have n2 := hts nst2 (tb_2 _ (List.mem_of_getElem? (i := 177) rfl))
  have n3 := hts nst3 (tb_3 _ (List.mem_of_getElem? (i := 8) rfl))
  obtain ⟨a3, p3, q3⟩ := ra_at o0
  obtain ⟨a4, p4, q4⟩ := ra_at o1
  obtain ⟨a5, p5, q5⟩ := ra_at o2
  obtain ⟨a6, p6, q6⟩ := ra_at o4
  refine ⟨(fun k => if k = 0 then c0 else if k = 1 then c1 else if k = 2 then c2 else if k = 3 then c3 else if k = 4 then c4 else if k = 5 then c5 else c6, fun k => if k = 0 then i0 else if k = 1 then i1 else if k = 2 then i2 else if k = 3 then i3 else if k = 4 then i4 else if k = 5 then i5 else i6), fun k => if k = 0 then a0 else if k = 1 then a1 else if k = 2 then a2 else if k = 3 then a3 else if k = 4 then a4 else if k = 5 then a5 else a6, ⟨?_, ?_⟩, va_Nw.of rfl n1, va_Nw.of rfl n2, va_Nw.of rfl n3, va_AO.of o0, va_AO.of o1, va_AO.of o2, va_AO.of o4⟩
  · intro k q hq
    match k, hq with
    | 0, hq => cases hq; exact k0
    | 1, hq => cases hq; exact k1
    | 2, hq => cases hq; exact k2
    | 3, hq => cases hq; exact k3
    | 4, hq => cases hq; exact k4
    | 5, hq => cases hq; exact k5
    | 6, hq => cases hq; exact k6
    | k + 7, hq => simp [vwCl] at hq
  · intro k q hq
    match k, hq with
    | 0, hq => cases hq; exact ⟨p0, q0⟩
    | 1, hq => cases hq; exact ⟨p1, q1⟩
    | 2, hq => cases hq; exact ⟨p2, q2⟩
    | 3, hq => cases hq; exact ⟨p3, q3⟩
    | 4, hq => cases hq; exact ⟨p4, q4⟩
    | 5, hq => cases hq; exact ⟨p5, q5⟩
    | 6, hq => cases hq; exact ⟨p6, q6⟩
    | k + 7, hq => simp [tyL] at hq
theorem Mm_0 {D : va_G} {aC : Nat → ClassId} {H : Heap} : Mm D aC H.size (w0 H.size) H := by
  refine ⟨rfl, Nat.le_refl _, fun a h => absurd rfl h, fun k q h => ?_⟩
  have := (wl_any h).2.1
  exact absurd this (by show ¬ k < H.size - H.size; omega)
set_option maxHeartbeats 4000000 in
set_option maxRecDepth 100000 in
/-- the claim's walk, out of: the law's function answers -/
theorem start_of {p : Program} {e : Env} {s : State} {m : MethodId} {below : List Frame} {meth : Method} {c : Code} (l : Launch) {b L : Nat} {xs : Nat → Int32} {res : Unit × Wd} (hf : f_L_law xs L (w0 s.heap.size) = some res) (C0 : lw_At p s m meth c b L xs) : W p l e room_1 s m #[Value.ref b] below meth c s.heap [] 0 0 (lw_Z below #[Value.ref b] s) (entryFrame m ([Value.ref b] : List Value).toArray 4) := by
  obtain ⟨hx, hb, hr, hml, hown, hts, hX, hbl, hlocks, hgv⟩ := C0
  obtain ⟨D, aC, hK⟩ := KX_start hts
  have hl := lv_entry ([.ref b]) (n := 4) (Nat.le_of_ble_eq_true rfl)
  rw [lg_entry_eq]
  exact e_L_law hX hbl (Nat.not_le.mpr hbl) (D := D) (aC := aC) ⟨hx, hb, hml, hown, hlocks, rfl, hr, fun w h => hts w (Gw_in w h), hK⟩ (w0 s.heap.size) s.heap [] 0 0 _ hf Mm_0 va_S.rf (by decide) (by decide) hl
