/-! RULES for the reference's arrays, over worlds of any depth -/
section MR
variable {α : Type} {P : α → Wd → Prop} {w : Wd} {m n : Nat} {i : Int32}
theorem isM.sI {a k : Nat} {v : Int32} (h : isM w m) : isM (sI w a k v) m := h
theorem isM.sL {a k : Nat} {v : Int64} (h : isM w m) : isM (sL w a k v) m := h
theorem ok_mR (hM : isM w m) (j : Nat) {f : Option Nat → Option (α × Wd)} (h : ok (f (some (m + j))) P) (hj : 1 ≤ j ∧ j ≤ 44 := by decide) : ok (gR w (some m) 7 (fdM j) f) P := ok_gR hM.1 (hM.2 j hj.1 hj.2).1 h
theorem lnM_b (j : Nat) (hj : 1 ≤ j ∧ j ≤ 44) : lnM j ≤ 60000 := by
  have : ∀ j : Fin 45, lnM j.1 ≤ 60000 := by decide
  exact this ⟨j, by omega⟩
theorem ok_mA {j kd : Nat} {f : Int32 → Option (α × Wd)} {v : Int32} (hM : isM w m) (hi : i = nI n) (hn : n < lnM j) (hv : wI w (m + j) n = v) (h : ok (f v) P) (hj : 1 ≤ j ∧ j ≤ 44 := by decide) (hk : kdM j = kd := by rfl) : ok (aI w (some (m + j)) kd i f) P := ok_aI hi ((hM.2 j hj.1 hj.2).2.1.trans hk) (by rw [(hM.2 j hj.1 hj.2).2.2]; exact hn) (by have := lnM_b j hj; omega) hv h
theorem ok_mAL {j kd : Nat} {f : Int64 → Option (α × Wd)} {v : Int64} (hM : isM w m) (hi : i = nI n) (hn : n < lnM j) (hv : wL w (m + j) n = v) (h : ok (f v) P) (hj : 1 ≤ j ∧ j ≤ 44 := by decide) (hk : kdM j = kd := by rfl) : ok (aL w (some (m + j)) kd i f) P := ok_aL hi ((hM.2 j hj.1 hj.2).2.1.trans hk) (by rw [(hM.2 j hj.1 hj.2).2.2]; exact hn) (by have := lnM_b j hj; omega) hv h
theorem ok_mT {j kd : Nat} {f : Wd → Option (α × Wd)} {v : Int32} (hM : isM w m) (hi : i = nI n) (hn : n < lnM j) (h : isM (sI w (m + j) n v) m → ok (f (sI w (m + j) n v)) P) (hj : 1 ≤ j ∧ j ≤ 44 := by decide) (hk : kdM j = kd := by rfl) : ok (tI w (some (m + j)) kd i v f) P := ok_tI hi ((hM.2 j hj.1 hj.2).2.1.trans hk) (by rw [(hM.2 j hj.1 hj.2).2.2]; exact hn) (by have := lnM_b j hj; omega) (h hM)
theorem ok_mTL {j kd : Nat} {f : Wd → Option (α × Wd)} {v : Int64} (hM : isM w m) (hi : i = nI n) (hn : n < lnM j) (h : isM (sL w (m + j) n v) m → ok (f (sL w (m + j) n v)) P) (hj : 1 ≤ j ∧ j ≤ 44 := by decide) (hk : kdM j = kd := by rfl) : ok (tL w (some (m + j)) kd i v f) P := ok_tL hi ((hM.2 j hj.1 hj.2).2.1.trans hk) (by rw [(hM.2 j hj.1 hj.2).2.2]; exact hn) (by have := lnM_b j hj; omega) (h hM)
theorem ok_mTZ {j kd : Nat} {f : Wd → Option (α × Wd)} {v : Int32} (hM : isM w m) (hi : i = nI n) (hn : n < lnM j) (hz : v = 0 ∨ v = 1) (h : isM (sI w (m + j) n v) m → ok (f (sI w (m + j) n v)) P) (hj : 1 ≤ j ∧ j ≤ 44 := by decide) (hk : kdM j = kd := by rfl) : ok (tZ w (some (m + j)) kd i v f) P := ok_tZ hi ((hM.2 j hj.1 hj.2).2.1.trans hk) (by rw [(hM.2 j hj.1 hj.2).2.2]; exact hn) (by have := lnM_b j hj; omega) hz (h hM)
end MR
