/-! THE REFERENCE'S POOL OF LETTERS -/
section PL
variable {w w' : Wd} {m S : Nat} {le : Int32} {sc : Nat → Int32} {cl : Nat → ClD} {mem kept : Nat → Nat → BkD} {up dy : Nat → Bool} {row : List Ltr} {held : Nat → List Ltr} {fl : List (Nat × Ltr)}
theorem sumTo_add (n : Nat) (f g : Nat → Nat) : sumTo n (fun i => f i + g i) = sumTo n f + sumTo n g := by
  induction n with
  | zero => rfl
  | succ n ih => simp only [sumTo]; rw [ih]; omega
theorem sumTo_le (n : Nat) (f g : Nat → Nat) (h : ∀ i, i < n → f i ≤ g i) : sumTo n f ≤ sumTo n g := by
  induction n with
  | zero => exact Nat.le_refl _
  | succ n ih =>
    simp only [sumTo]
    have h1 := ih (fun i hi => h i (by omega))
    have h2 := h n (by omega)
    omega
theorem sumTo_eq (n : Nat) (f g : Nat → Nat) (h : ∀ i, i < n → f i = g i) : sumTo n f = sumTo n g := Nat.le_antisymm (sumTo_le n f g fun i hi => Nat.le_of_eq (h i hi)) (sumTo_le n g f fun i hi => Nat.le_of_eq (h i hi).symm)
theorem sumTo_one (n a : Nat) : sumTo n (fun i => if a = i then 1 else 0) ≤ 1 ∧ (n ≤ a → sumTo n (fun i => if a = i then 1 else 0) = 0) := by
  induction n with
  | zero => exact ⟨by simp [sumTo], fun _ => rfl⟩
  | succ n ih =>
    simp only [sumTo]
    by_cases h : a = n
    · rw [if_pos h, ih.2 (by omega)]
      exact ⟨by omega, fun z => by omega⟩
    · rw [if_neg h]
      exact ⟨by have := ih.1; omega, fun z => by rw [ih.2 (by omega)]⟩
theorem sumTo_count (n : Nat) (L : List Nat) : sumTo n (fun i => L.count i) ≤ L.length := by
  induction L with
  | nil =>
    have : sumTo n (fun i => ([] : List Nat).count i) ≤ sumTo n (fun _ => 0) := sumTo_le _ _ _ (fun i _ => by simp)
    have h0 : ∀ n, sumTo n (fun _ => 0) = 0 := fun n => by
      induction n with
      | zero => rfl
      | succ n ih => simp only [sumTo]; rw [ih]
    rw [h0] at this
    exact this
  | cons a L ih =>
    have e : sumTo n (fun i => (a :: L).count i) = sumTo n (fun i => L.count i) + sumTo n (fun i => if a = i then 1 else 0) := by
      rw [← sumTo_add]
      refine sumTo_eq _ _ _ (fun i _ => ?_)
      rw [List.count_cons]
      by_cases h : a = i <;> simp [h]
    rw [e, List.length_cons]
    have := (sumTo_one n a).1
    omega
theorem sumTo_const (n c : Nat) : sumTo n (fun _ => c) = n * c := by
  induction n with
  | zero => simp [sumTo]
  | succ n ih => simp only [sumTo]; rw [ih, Nat.succ_mul]
theorem sumTo_swap (n S : Nat) (Lh : Nat → List Nat) : sumTo n (fun i => sumTo S (fun s => (Lh s).count i)) ≤ sumTo S (fun s => (Lh s).length) := by
  induction S with
  | zero =>
    simp only [sumTo]
    rw [sumTo_const]
    omega
  | succ S ih =>
    simp only [sumTo]
    rw [sumTo_add]
    have := sumTo_count n (Lh S)
    omega
theorem sumTo_up {S s : Nat} (hs : s < S) (Lh : Nat → List Nat) (L : List Nat) (x : Nat) : sumTo S (fun p => (va_up Lh s L p).count x) + (Lh s).count x = sumTo S (fun p => (Lh p).count x) + L.count x := by
  induction S with
  | zero => omega
  | succ S ih =>
    simp only [sumTo]
    by_cases h : s = S
    · subst h
      rw [va_up_self]
      have : sumTo s (fun p => (va_up Lh s L p).count x) = sumTo s (fun p => (Lh p).count x) := sumTo_eq _ _ _ (fun i hi => by rw [va_up_ne _ _ (by omega)])
      omega
    · have := ih (by omega)
      rw [va_up_ne _ _ (by omega : S ≠ s)]
      omega
theorem pig (N S : Nat) (Lr Lf : List Nat) (Lh : Nat → List Nat) (h : ∀ l, l < N → Lr.count l + sumTo S (fun s => (Lh s).count l) + Lf.count l = 1) (hh : ∀ s, s < S → (Lh s).length ≤ 600) : N ≤ Lr.length + S * 600 + Lf.length := by
  have e1 : sumTo N (fun l => (Lr.count l + sumTo S (fun s => (Lh s).count l)) + Lf.count l) = sumTo N (fun _ => 1) := sumTo_eq _ _ _ (fun l hl => h l hl)
  have e2 := sumTo_add N (fun l => Lr.count l + sumTo S (fun s => (Lh s).count l)) (fun l => Lf.count l)
  have e3 := sumTo_add N (fun l => Lr.count l) (fun l => sumTo S (fun s => (Lh s).count l))
  have e4 := sumTo_const N 1
  have a1 := sumTo_count N Lr
  have a2 := sumTo_swap N S Lh
  have a3 := sumTo_count N Lf
  have a4 : sumTo S (fun s => (Lh s).length) ≤ sumTo S (fun _ => 600) := sumTo_le _ _ _ hh
  have a5 := sumTo_const S 600
  omega
/-- some letter of the pool is free -/
theorem RMF.slot (h : RMF w m S le sc cl mem kept up dy row held fl) (h4 : S ≤ 4) (hfl : fl.length ≤ 600) : ∃ l, l < 4700 ∧ wI w (m + 24) l = 0 := by
  obtain ⟨-, -, -, -, Lr, Lh, h5, h6, h7, -⟩ := h
  apply Classical.byContradiction
  intro hn
  have hall : ∀ l, l < 4700 → ¬ wI w (m + 24) l = 0 := fun l hl z => hn ⟨l, hl, z⟩
  have := pig 4700 S Lr (fl.map Prod.fst) Lh (fun l hl => by rw [h7 l hl, if_neg (hall l hl)]) (fun s hs => (h6 s hs).1.2.1)
  rw [List.length_map] at this
  have := h5.1.2.1
  omega
/-- only letter l's cells were written (and the place where a free one is looked for) -/
def SlotF (m l : Nat) (w w' : Wd) : Prop := Mx m (fun q => q = m ∨ (m + 24 ≤ q ∧ q ≤ m + 41)) w w' ∧ (∀ k, k ≠ 48 → wI w' m k = wI w m k) ∧ (∃ fr, fr < 4700 ∧ wI w' m 48 = nI fr) ∧ (∀ j i, 24 ≤ j → j ≤ 34 → i ≠ l → wI w' (m + j) i = wI w (m + j) i ∧ wL w' (m + j) i = wL w (m + j) i) ∧ (∀ i, (i < 4 * l ∨ 4 * l + 4 ≤ i) → wL w' (m + 35) i = wL w (m + 35) i) ∧ (∀ j i, 36 ≤ j → j ≤ 39 → (i < 12 * l ∨ 12 * l + 12 ≤ i) → wI w' (m + j) i = wI w (m + j) i ∧ wL w' (m + j) i = wL w (m + j) i) ∧ (∀ j i, 40 ≤ j → j ≤ 41 → (i < 6 * l ∨ 6 * l + 6 ≤ i) → wI w' (m + j) i = wI w (m + j) i)
theorem SlotF.rf {l : Nat} (h : ∃ fr, fr < 4700 ∧ wI w m 48 = nI fr) : SlotF m l w w := ⟨Mx.rf (fun q hq => by omega), fun _ _ => rfl, h, fun _ _ _ _ _ => ⟨rfl, rfl⟩, fun _ _ => rfl, fun _ _ _ _ _ => ⟨rfl, rfl⟩, fun _ _ _ _ _ => rfl⟩
theorem SlotF.tr {l : Nat} {w1 w2 : Wd} (h1 : SlotF m l w w1) (h2 : SlotF m l w1 w2) : SlotF m l w w2 := by
  obtain ⟨a1, a2, a3, a4, a5, a6, a7⟩ := h1
  obtain ⟨b1, b2, b3, b4, b5, b6, b7⟩ := h2
  exact ⟨a1.tr b1, fun k hk => (b2 k hk).trans (a2 k hk), b3, fun j i x y z => ⟨(b4 j i x y z).1.trans (a4 j i x y z).1, (b4 j i x y z).2.trans (a4 j i x y z).2⟩, fun i x => (b5 i x).trans (a5 i x), fun j i x y z => ⟨(b6 j i x y z).1.trans (a6 j i x y z).1, (b6 j i x y z).2.trans (a6 j i x y z).2⟩, fun j i x y z => (b7 j i x y z).trans (a7 j i x y z)⟩
theorem wI_so {a k b : Nat} {v : Int32} (h : b ≠ a) : wI (sI w a k v) b = wI w b := up2_n _ _ _ h
theorem wL_so {a k b : Nat} {v : Int64} (h : b ≠ a) : wL (sL w a k v) b = wL w b := up2_n _ _ _ h
theorem SlotF.sI {l j : Nat} {v : Int32} {w1 : Wd} (h : SlotF m l w w1) (h1 : 24 ≤ j) (h2 : j ≤ 34) : SlotF m l w (sI w1 (m + j) l v) := by
  obtain ⟨a1, a2, a3, a4, a5, a6, a7⟩ := h
  have e0 := wI_so (w := w1) (a := m + j) (k := l) (v := v) (b := m) (by omega)
  refine ⟨a1.sI (Or.inr ⟨by omega, by omega⟩), fun k hk => by rw [e0]; exact a2 k hk, by rw [e0]; exact a3, fun p i x y z => ⟨?_, (a4 p i x y z).2⟩, a5, fun p i x y z => ⟨?_, (a6 p i x y z).2⟩, fun p i x y z => ?_⟩
  · rw [wI_s, if_neg (fun q => z q.2)]; exact (a4 p i x y z).1
  · rw [wI_s, if_neg (by omega)]; exact (a6 p i x y z).1
  · rw [wI_s, if_neg (by omega)]; exact a7 p i x y z
theorem SlotF.sL {l j : Nat} {v : Int64} {w1 : Wd} (h : SlotF m l w w1) (h1 : 24 ≤ j) (h2 : j ≤ 34) : SlotF m l w (sL w1 (m + j) l v) := by
  obtain ⟨a1, a2, a3, a4, a5, a6, a7⟩ := h
  refine ⟨a1.sL (Or.inr ⟨by omega, by omega⟩), a2, a3, fun p i x y z => ⟨(a4 p i x y z).1, ?_⟩, fun i x => ?_, fun p i x y z => ⟨(a6 p i x y z).1, ?_⟩, a7⟩
  · rw [wL_s, if_neg (fun q => z q.2)]; exact (a4 p i x y z).2
  · rw [wL_s, if_neg (by omega)]; exact a5 i x
  · rw [wL_s, if_neg (by omega)]; exact (a6 p i x y z).2
theorem LTM.slot {l l' : Nat} {t : Ltr} (h : LTM w m l' t) (g : SlotF m l w w') (hne : l' ≠ l) : LTM w' m l' t := by
  obtain ⟨a1, a2, a3, a4, a5, a6, a7⟩ := g
  have I : ∀ j, 24 ≤ j → j ≤ 34 → wI w' (m + j) l' = wI w (m + j) l' := fun j x y => (a4 j l' x y hne).1
  have L : ∀ j, 24 ≤ j → j ≤ 34 → wL w' (m + j) l' = wL w (m + j) l' := fun j x y => (a4 j l' x y hne).2
  obtain ⟨h0, h1, h2, h3, h4⟩ := h
  unfold LTM
  rw [I 24 (by omega) (by omega), I 25 (by omega) (by omega), I 26 (by omega) (by omega), I 27 (by omega) (by omega), I 28 (by omega) (by omega), I 29 (by omega) (by omega), I 30 (by omega) (by omega), I 31 (by omega) (by omega), I 32 (by omega) (by omega), L 33 (by omega) (by omega), L 34 (by omega) (by omega)]
  refine ⟨h0, h1, h2, fun e => ?_, h4⟩
  obtain ⟨b1, b2, b3, b4, b5, b6, b7, b8⟩ := h3 e
  refine ⟨b1, b2, b3, b4, fun k hk => ?_, fun i r hi => ?_, fun c hc => ?_, fun c hc => ?_⟩
  · rw [a5 _ (by omega)]; exact b5 k hk
  · have hil : i < 12 := by have := (List.getElem?_eq_some_iff.mp hi).1; omega
    rw [← b6 i r hi]
    have n : 12 * l' + i < 12 * l ∨ 12 * l + 12 ≤ 12 * l' + i := by omega
    unfold mrecM
    rw [(a6 36 _ (by omega) (by omega) n).1, (a6 37 _ (by omega) (by omega) n).1, (a6 38 _ (by omega) (by omega) n).1, (a6 39 _ (by omega) (by omega) n).2]
  · rw [a7 40 _ (by omega) (by omega) (by omega)]; exact b7 c hc
  · rw [a7 41 _ (by omega) (by omega) (by omega)]; exact b8 c hc
theorem SlotF.mf {l : Nat} (h : SlotF m l w w') : Mf m w w' := h.1.mf
/-- of the pool: the cells of letter l were written, and now it is in hand, or no longer -/
theorem RMF.relet (h : RMF w m S le sc cl mem kept up dy row held fl) {l : Nat} (g : SlotF m l w w') {fl' : List (Nat × Ltr)} (hne : ∀ (Lr : List Nat) (Lh : Nat → List Nat), Pool w m S Lr Lh fl → l ∉ Lr ∧ ∀ s, s < S → l ∉ Lh s) (hp : ∀ x, x < 4700 → (fl'.map Prod.fst).count x + (if wI w (m + 24) x = 0 then 0 else 1) = (fl.map Prod.fst).count x + if wI w' (m + 24) x = 0 then 0 else 1) (hl : ∀ (x : Nat) (t : Ltr), (x, t) ∈ fl' → LTM w' m x t) : RMF w' m S le sc cl mem kept up dy row held fl' ∧ Mf m w w' := by
  obtain ⟨p0, p1, p2, p3, p4, p5⟩ := h.pieces g.1
  obtain ⟨h1, -, -, -, Lr, Lh, h5, h6, h7, h8⟩ := h
  obtain ⟨n1, n2⟩ := hne Lr Lh h7
  refine ⟨⟨?_, p2 (fun j a b => by omega), p3 (by omega) (by omega), p4 (fun j a b => by omega), Lr, Lh, ⟨?_, h5.2.1, fun i x t hx ht => (h5.2.2 i x t hx ht).slot g (fun e => n1 (e ▸ List.mem_of_getElem? hx))⟩, fun s hs => ⟨?_, (h6 s hs).2.1, fun i x t hx ht => ((h6 s hs).2.2 i x t hx ht).slot g (fun e => n2 s hs (e ▸ List.mem_of_getElem? hx))⟩, fun x hx => ?_, hl⟩, g.mf⟩
  · obtain ⟨-, b1, b2, b3, b4, b5, b6, b7, b8⟩ := h1
    exact ⟨p0, by rw [g.2.1 0 (by omega)]; exact b1, by rw [g.2.1 1 (by omega)]; exact b2, by rw [g.2.1 2 (by omega)]; exact b3, by rw [g.2.1 3 (by omega)]; exact b4, by rw [g.2.1 4 (by omega)]; exact b5, by rw [g.2.1 5 (by omega)]; exact b6, by rw [g.2.1 6 (by omega)]; exact b7, g.2.2.1⟩
  · have := h5.1
    unfold RMr at this ⊢
    rw [g.2.1 50 (by omega), g.1.I (by omega)]; exact this
  · have := (h6 s hs).1
    unfold RMh at this ⊢
    rw [g.1.I (by omega), g.1.I (by omega)]; exact this
  · have a1 := h7 x hx
    have a2 := hp x hx
    omega
theorem RMF.alloc (h : RMF w m S le sc cl mem kept up dy row held fl) {l : Nat} {t : Ltr} (hl : l < 4700) (h0 : wI w (m + 24) l = 0) (g : SlotF m l w w') (ht : LTM w' m l t) : RMF w' m S le sc cl mem kept up dy row held ((l, t) :: fl) ∧ Mf m w w' := by
  have hf : ∀ (x : Nat) (u : Ltr), (x, u) ∈ fl → x ≠ l := by
    intro x u hx e
    obtain ⟨-, -, -, -, Lr, Lh, -, -, -, h8⟩ := h
    have := (h8 x u hx).1.2.1
    rw [e, h0] at this
    exact absurd this (by decide)
  refine h.relet g (fun Lr Lh hp => ?_) (fun x hx => ?_) (fun x u hx => ?_)
  · have := hp l hl
    rw [if_pos h0] at this
    refine ⟨fun z => ?_, fun s hs z => ?_⟩
    · have := List.count_pos_iff.mpr z; omega
    · have h1 := List.count_pos_iff.mpr z
      have h2 := sumTo_up hs Lh [] l
      simp at h2
      omega
  · rw [List.map_cons, List.count_cons]
    by_cases e : l = x
    · subst e
      rw [h0, ht.1.2.1]
      simp
    · rw [(g.2.2.2.1 24 x (by omega) (by omega) (Ne.symm e)).1]
      simp [e]
  · rcases List.mem_cons.mp hx with e | hx'
    · cases e; exact ht
    · obtain ⟨-, -, -, -, Lr, Lh, -, -, -, h8⟩ := h
      exact (h8 x u hx').slot g (hf x u hx')
theorem RMF.hd_ne {l : Nat} {t : Ltr} (h : RMF w m S le sc cl mem kept up dy row held ((l, t) :: fl)) : l < 4700 ∧ (∀ (x : Nat) (u : Ltr), (x, u) ∈ fl → x ≠ l) ∧ LTM w m l t := by
  obtain ⟨-, -, -, -, Lr, Lh, -, -, h7, h8⟩ := h
  have ht := h8 l t (List.mem_cons_self ..)
  refine ⟨ht.1.1, fun x u hx e => ?_, ht⟩
  have := h7 l ht.1.1
  have h2 : (if wI w (m + 24) l = 0 then 0 else 1) = 1 := by rw [ht.1.2.1]; rfl
  have h1 : 0 < (fl.map Prod.fst).count l := List.count_pos_iff.mpr (e ▸ List.mem_map_of_mem hx)
  have h3 : (List.map Prod.fst ((l, t) :: fl)).count l = (fl.map Prod.fst).count l + 1 := by rw [List.map_cons]; exact List.count_cons_self
  omega
theorem RMF.free {l : Nat} {t : Ltr} (h : RMF w m S le sc cl mem kept up dy row held ((l, t) :: fl)) : RMF (sI w (m + 24) l 0) m S le sc cl mem kept up dy row held fl ∧ Mf m w (sI w (m + 24) l 0) := by
  obtain ⟨hl, hne, ht⟩ := h.hd_ne
  have g : SlotF m l w (sI w (m + 24) l 0) := (SlotF.rf h.1.2.2.2.2.2.2.2.2).sI (by omega) (by omega)
  refine h.relet g (fun Lr Lh hp => ?_) (fun x hx => ?_) (fun x u hx => ?_)
  · have := hp l hl
    rw [List.map_cons, List.count_cons] at this
    simp only [beq_self_eq_true, if_true] at this
    have h9 : (if wI w (m + 24) l = 0 then 0 else 1) ≤ 1 := by
      by_cases z : wI w (m + 24) l = 0
      · rw [if_pos z]; omega
      · rw [if_neg z]; omega
    refine ⟨fun z => ?_, fun s hs z => ?_⟩
    · have := List.count_pos_iff.mpr z; omega
    · have h1 := List.count_pos_iff.mpr z
      have h2 := sumTo_up hs Lh [] l
      simp at h2
      omega
  · rw [List.map_cons, List.count_cons]
    by_cases e : l = x
    · subst e
      have e9 : wI (sI w (m + 24) l 0) (m + 24) l = 0 := by rw [wI_s]; simp
      rw [ht.1.2.1, e9]
      simp
    · rw [(g.2.2.2.1 24 x (by omega) (by omega) (Ne.symm e)).1]
      simp [e]
  · obtain ⟨-, -, -, -, Lr, Lh, -, -, -, h8⟩ := h
    exact (h8 x u (List.mem_cons_of_mem _ hx)).slot g (hne x u hx)
end PL
