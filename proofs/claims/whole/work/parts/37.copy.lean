section SK
theorem cp_all {α : Type} {w : Wd} {k0 k1 n : Nat} {K : Wd → Option α} (hn : n ≤ 1000) {z : Int32} (hz : z = nI n) {r : Option α} (k : ∀ w', (∀ i, i < n → w' k1 i = w k0 i) → (∀ k i, k ≠ k1 → w' k i = w k i) → K w' = r) : cpy w k0 n (0:Int32) k1 n (0:Int32) z K = r := by
  subst hz
  have e := cpy_nI (w := w) (k0 := k0) (n0 := n) (a := 0) (k1 := k1) (n1 := n) (c := 0) (m := n) (K := K) (by omega) (by omega) hn hn
  refine e.trans (k _ (fun i hi => ?_) (fun k' i hk => ?_))
  · rw [setA_self]
    unfold va_cpy
    rw [if_pos (by omega)]
    congr 1
    omega
  · rw [setA_cell hk]
theorem x_copyTr {x : Wd} {d s : Nat} (hd : d + 9 ≤ s ∨ s + 9 ≤ d) : ∃ x', f_X6_copyFrom d s x = some x' ∧ (∀ p, p = 0 ∨ p = 5 ∨ p = 10 ∨ p = 11 ∨ p = 12 → x' d p = x s p) ∧ (∀ j, 1 ≤ j → j ≤ 4 → ∀ i, i < 5 → x' (d + j) i = x (s + j) i) ∧ (∀ j, 5 ≤ j → j ≤ 8 → ∀ i, i < 6 → x' (d + j) i = x (s + j) i) ∧ ∀ k, ¬ (d ≤ k ∧ k ≤ d + 8) → x' k = x k := by
  obtain ⟨w1, h1⟩ : ∃ w, w = updW x d 0 (x s 0) := ⟨_, rfl⟩
  obtain ⟨w2, h2⟩ : ∃ w, w = setA w1 (d + 1) (va_cpy (w1 (s + 1)) (w1 (d + 1)) 0 0 5) := ⟨_, rfl⟩
  obtain ⟨w3, h3⟩ : ∃ w, w = setA w2 (d + 2) (va_cpy (w2 (s + 2)) (w2 (d + 2)) 0 0 5) := ⟨_, rfl⟩
  obtain ⟨w4, h4⟩ : ∃ w, w = setA w3 (d + 3) (va_cpy (w3 (s + 3)) (w3 (d + 3)) 0 0 5) := ⟨_, rfl⟩
  obtain ⟨w5, h5⟩ : ∃ w, w = setA w4 (d + 4) (va_cpy (w4 (s + 4)) (w4 (d + 4)) 0 0 5) := ⟨_, rfl⟩
  obtain ⟨w6, h6⟩ : ∃ w, w = updW w5 d 5 (w5 s 5) := ⟨_, rfl⟩
  obtain ⟨w7, h7⟩ : ∃ w, w = setA w6 (d + 5) (va_cpy (w6 (s + 5)) (w6 (d + 5)) 0 0 6) := ⟨_, rfl⟩
  obtain ⟨w8, h8⟩ : ∃ w, w = setA w7 (d + 6) (va_cpy (w7 (s + 6)) (w7 (d + 6)) 0 0 6) := ⟨_, rfl⟩
  obtain ⟨w9, h9⟩ : ∃ w, w = setA w8 (d + 7) (va_cpy (w8 (s + 7)) (w8 (d + 7)) 0 0 6) := ⟨_, rfl⟩
  obtain ⟨w10, h10⟩ : ∃ w, w = setA w9 (d + 8) (va_cpy (w9 (s + 8)) (w9 (d + 8)) 0 0 6) := ⟨_, rfl⟩
  obtain ⟨w11, h11⟩ : ∃ w, w = updW w10 d 10 (w10 s 10) := ⟨_, rfl⟩
  obtain ⟨w12, h12⟩ : ∃ w, w = updW w11 d 11 (w11 s 11) := ⟨_, rfl⟩
  obtain ⟨w13, h13⟩ : ∃ w, w = updW w12 d 12 (w12 s 12) := ⟨_, rfl⟩
  have a1 : w1 d 0 = x s 0 := by rw [h1]; exact updW_self _ _ _ _
  have b1 : ∀ k i, ¬ (k = d ∧ i = 0) → w1 k i = x k i := fun k i hk => by rw [h1, updW_get, if_neg hk]
  have a2 : ∀ i, i < 5 → w2 (d + 1) i = w1 (s + 1) i := fun i hi => by
    rw [h2, setA_self]
    unfold va_cpy
    rw [if_pos (by omega)]
    congr 1
    omega
  have b2 : ∀ k i, ¬ (k = d + 1) → w2 k i = w1 k i := fun k i hk => by rw [h2, setA_cell hk]
  have a3 : ∀ i, i < 5 → w3 (d + 2) i = w2 (s + 2) i := fun i hi => by
    rw [h3, setA_self]
    unfold va_cpy
    rw [if_pos (by omega)]
    congr 1
    omega
  have b3 : ∀ k i, ¬ (k = d + 2) → w3 k i = w2 k i := fun k i hk => by rw [h3, setA_cell hk]
  have a4 : ∀ i, i < 5 → w4 (d + 3) i = w3 (s + 3) i := fun i hi => by
    rw [h4, setA_self]
    unfold va_cpy
    rw [if_pos (by omega)]
    congr 1
    omega
  have b4 : ∀ k i, ¬ (k = d + 3) → w4 k i = w3 k i := fun k i hk => by rw [h4, setA_cell hk]
  have a5 : ∀ i, i < 5 → w5 (d + 4) i = w4 (s + 4) i := fun i hi => by
    rw [h5, setA_self]
    unfold va_cpy
    rw [if_pos (by omega)]
    congr 1
    omega
  have b5 : ∀ k i, ¬ (k = d + 4) → w5 k i = w4 k i := fun k i hk => by rw [h5, setA_cell hk]
  have a6 : w6 d 5 = w5 s 5 := by rw [h6]; exact updW_self _ _ _ _
  have b6 : ∀ k i, ¬ (k = d ∧ i = 5) → w6 k i = w5 k i := fun k i hk => by rw [h6, updW_get, if_neg hk]
  have a7 : ∀ i, i < 6 → w7 (d + 5) i = w6 (s + 5) i := fun i hi => by
    rw [h7, setA_self]
    unfold va_cpy
    rw [if_pos (by omega)]
    congr 1
    omega
  have b7 : ∀ k i, ¬ (k = d + 5) → w7 k i = w6 k i := fun k i hk => by rw [h7, setA_cell hk]
  have a8 : ∀ i, i < 6 → w8 (d + 6) i = w7 (s + 6) i := fun i hi => by
    rw [h8, setA_self]
    unfold va_cpy
    rw [if_pos (by omega)]
    congr 1
    omega
  have b8 : ∀ k i, ¬ (k = d + 6) → w8 k i = w7 k i := fun k i hk => by rw [h8, setA_cell hk]
  have a9 : ∀ i, i < 6 → w9 (d + 7) i = w8 (s + 7) i := fun i hi => by
    rw [h9, setA_self]
    unfold va_cpy
    rw [if_pos (by omega)]
    congr 1
    omega
  have b9 : ∀ k i, ¬ (k = d + 7) → w9 k i = w8 k i := fun k i hk => by rw [h9, setA_cell hk]
  have a10 : ∀ i, i < 6 → w10 (d + 8) i = w9 (s + 8) i := fun i hi => by
    rw [h10, setA_self]
    unfold va_cpy
    rw [if_pos (by omega)]
    congr 1
    omega
  have b10 : ∀ k i, ¬ (k = d + 8) → w10 k i = w9 k i := fun k i hk => by rw [h10, setA_cell hk]
  have a11 : w11 d 10 = w10 s 10 := by rw [h11]; exact updW_self _ _ _ _
  have b11 : ∀ k i, ¬ (k = d ∧ i = 10) → w11 k i = w10 k i := fun k i hk => by rw [h11, updW_get, if_neg hk]
  have a12 : w12 d 11 = w11 s 11 := by rw [h12]; exact updW_self _ _ _ _
  have b12 : ∀ k i, ¬ (k = d ∧ i = 11) → w12 k i = w11 k i := fun k i hk => by rw [h12, updW_get, if_neg hk]
  have a13 : w13 d 12 = w12 s 12 := by rw [h13]; exact updW_self _ _ _ _
  have b13 : ∀ k i, ¬ (k = d ∧ i = 12) → w13 k i = w12 k i := fun k i hk => by rw [h13, updW_get, if_neg hk]
  refine ⟨w13, ?_, ?_, ?_, ?_, ?_⟩
  · unfold f_X6_copyFrom
    rw [wl_s, ← h1, show ∀ K : Wd → Option Wd, cpy w1 (s + 1) 5 (0:Int32) (d + 1) 5 (0:Int32) (5:Int32) K = K w2 from fun K => by rw [h2]; exact cpy_nI (a := 0) (c := 0) (m := 5) (by omega) (by omega) (by omega) (by omega), show ∀ K : Wd → Option Wd, cpy w2 (s + 2) 5 (0:Int32) (d + 2) 5 (0:Int32) (5:Int32) K = K w3 from fun K => by rw [h3]; exact cpy_nI (a := 0) (c := 0) (m := 5) (by omega) (by omega) (by omega) (by omega), show ∀ K : Wd → Option Wd, cpy w3 (s + 3) 5 (0:Int32) (d + 3) 5 (0:Int32) (5:Int32) K = K w4 from fun K => by rw [h4]; exact cpy_nI (a := 0) (c := 0) (m := 5) (by omega) (by omega) (by omega) (by omega), show ∀ K : Wd → Option Wd, cpy w4 (s + 4) 5 (0:Int32) (d + 4) 5 (0:Int32) (5:Int32) K = K w5 from fun K => by rw [h5]; exact cpy_nI (a := 0) (c := 0) (m := 5) (by omega) (by omega) (by omega) (by omega), wl_s, ← h6, show ∀ K : Wd → Option Wd, cpy w6 (s + 5) 6 (0:Int32) (d + 5) 6 (0:Int32) (6:Int32) K = K w7 from fun K => by rw [h7]; exact cpy_nI (a := 0) (c := 0) (m := 6) (by omega) (by omega) (by omega) (by omega), show ∀ K : Wd → Option Wd, cpy w7 (s + 6) 6 (0:Int32) (d + 6) 6 (0:Int32) (6:Int32) K = K w8 from fun K => by rw [h8]; exact cpy_nI (a := 0) (c := 0) (m := 6) (by omega) (by omega) (by omega) (by omega), show ∀ K : Wd → Option Wd, cpy w8 (s + 7) 6 (0:Int32) (d + 7) 6 (0:Int32) (6:Int32) K = K w9 from fun K => by rw [h9]; exact cpy_nI (a := 0) (c := 0) (m := 6) (by omega) (by omega) (by omega) (by omega), show ∀ K : Wd → Option Wd, cpy w9 (s + 8) 6 (0:Int32) (d + 8) 6 (0:Int32) (6:Int32) K = K w10 from fun K => by rw [h10]; exact cpy_nI (a := 0) (c := 0) (m := 6) (by omega) (by omega) (by omega) (by omega), wl_s, ← h11, wl_s, ← h12, wl_s, ← h13]
  · rintro p (rfl | rfl | rfl | rfl | rfl)
    · rw [b13 _ _ (by omega), b12 _ _ (by omega), b11 _ _ (by omega), b10 _ _ (by omega), b9 _ _ (by omega), b8 _ _ (by omega), b7 _ _ (by omega), b6 _ _ (by omega), b5 _ _ (by omega), b4 _ _ (by omega), b3 _ _ (by omega), b2 _ _ (by omega), a1]
    · rw [b13 _ _ (by omega), b12 _ _ (by omega), b11 _ _ (by omega), b10 _ _ (by omega), b9 _ _ (by omega), b8 _ _ (by omega), b7 _ _ (by omega), a6, b5 _ _ (by omega), b4 _ _ (by omega), b3 _ _ (by omega), b2 _ _ (by omega), b1 _ _ (by omega)]
    · rw [b13 _ _ (by omega), b12 _ _ (by omega), a11, b10 _ _ (by omega), b9 _ _ (by omega), b8 _ _ (by omega), b7 _ _ (by omega), b6 _ _ (by omega), b5 _ _ (by omega), b4 _ _ (by omega), b3 _ _ (by omega), b2 _ _ (by omega), b1 _ _ (by omega)]
    · rw [b13 _ _ (by omega), a12, b11 _ _ (by omega), b10 _ _ (by omega), b9 _ _ (by omega), b8 _ _ (by omega), b7 _ _ (by omega), b6 _ _ (by omega), b5 _ _ (by omega), b4 _ _ (by omega), b3 _ _ (by omega), b2 _ _ (by omega), b1 _ _ (by omega)]
    · rw [a13, b12 _ _ (by omega), b11 _ _ (by omega), b10 _ _ (by omega), b9 _ _ (by omega), b8 _ _ (by omega), b7 _ _ (by omega), b6 _ _ (by omega), b5 _ _ (by omega), b4 _ _ (by omega), b3 _ _ (by omega), b2 _ _ (by omega), b1 _ _ (by omega)]
  · intro j j1 j2 i hi
    rcases (by omega : j = 1 ∨ j = 2 ∨ j = 3 ∨ j = 4) with rfl | rfl | rfl | rfl
    · rw [b13 _ _ (by omega), b12 _ _ (by omega), b11 _ _ (by omega), b10 _ _ (by omega), b9 _ _ (by omega), b8 _ _ (by omega), b7 _ _ (by omega), b6 _ _ (by omega), b5 _ _ (by omega), b4 _ _ (by omega), b3 _ _ (by omega), a2 _ hi, b1 _ _ (by omega)]
    · rw [b13 _ _ (by omega), b12 _ _ (by omega), b11 _ _ (by omega), b10 _ _ (by omega), b9 _ _ (by omega), b8 _ _ (by omega), b7 _ _ (by omega), b6 _ _ (by omega), b5 _ _ (by omega), b4 _ _ (by omega), a3 _ hi, b2 _ _ (by omega), b1 _ _ (by omega)]
    · rw [b13 _ _ (by omega), b12 _ _ (by omega), b11 _ _ (by omega), b10 _ _ (by omega), b9 _ _ (by omega), b8 _ _ (by omega), b7 _ _ (by omega), b6 _ _ (by omega), b5 _ _ (by omega), a4 _ hi, b3 _ _ (by omega), b2 _ _ (by omega), b1 _ _ (by omega)]
    · rw [b13 _ _ (by omega), b12 _ _ (by omega), b11 _ _ (by omega), b10 _ _ (by omega), b9 _ _ (by omega), b8 _ _ (by omega), b7 _ _ (by omega), b6 _ _ (by omega), a5 _ hi, b4 _ _ (by omega), b3 _ _ (by omega), b2 _ _ (by omega), b1 _ _ (by omega)]
  · intro j j1 j2 i hi
    rcases (by omega : j = 5 ∨ j = 6 ∨ j = 7 ∨ j = 8) with rfl | rfl | rfl | rfl
    · rw [b13 _ _ (by omega), b12 _ _ (by omega), b11 _ _ (by omega), b10 _ _ (by omega), b9 _ _ (by omega), b8 _ _ (by omega), a7 _ hi, b6 _ _ (by omega), b5 _ _ (by omega), b4 _ _ (by omega), b3 _ _ (by omega), b2 _ _ (by omega), b1 _ _ (by omega)]
    · rw [b13 _ _ (by omega), b12 _ _ (by omega), b11 _ _ (by omega), b10 _ _ (by omega), b9 _ _ (by omega), a8 _ hi, b7 _ _ (by omega), b6 _ _ (by omega), b5 _ _ (by omega), b4 _ _ (by omega), b3 _ _ (by omega), b2 _ _ (by omega), b1 _ _ (by omega)]
    · rw [b13 _ _ (by omega), b12 _ _ (by omega), b11 _ _ (by omega), b10 _ _ (by omega), a9 _ hi, b8 _ _ (by omega), b7 _ _ (by omega), b6 _ _ (by omega), b5 _ _ (by omega), b4 _ _ (by omega), b3 _ _ (by omega), b2 _ _ (by omega), b1 _ _ (by omega)]
    · rw [b13 _ _ (by omega), b12 _ _ (by omega), b11 _ _ (by omega), a10 _ hi, b9 _ _ (by omega), b8 _ _ (by omega), b7 _ _ (by omega), b6 _ _ (by omega), b5 _ _ (by omega), b4 _ _ (by omega), b3 _ _ (by omega), b2 _ _ (by omega), b1 _ _ (by omega)]
  · intro k hk
    funext i
    rw [b13 _ _ (by omega), b12 _ _ (by omega), b11 _ _ (by omega), b10 _ _ (by omega), b9 _ _ (by omega), b8 _ _ (by omega), b7 _ _ (by omega), b6 _ _ (by omega), b5 _ _ (by omega), b4 _ _ (by omega), b3 _ _ (by omega), b2 _ _ (by omega), b1 _ _ (by omega)]
theorem x_copyRow {x : Wd} {d s c : Nat} (hd : d + 2 ≤ s ∨ s + 2 ≤ d) (h : x s 1 = nI c) (hc : c ≤ rlen d) (hr : rlen s = rlen d) (hr2 : rlen d ≤ 1000) : ∃ x', f_X4_copyFrom d s x = some x' ∧ x' d 1 = nI c ∧ (∀ i, i < c → x' (d + 1) i = x (s + 1) i) ∧ ∀ k, k ≠ d → k ≠ d + 1 → x' k = x k := by
  unfold f_X4_copyFrom
  rw [h, min_nI (by omega) (by omega), show min c (rlen d) = c by omega, wl_s, updW_self, hr]
  refine ⟨_, cpy_nI (a := 0) (c := 0) (by omega) (by omega) (by omega) (by omega), ?_, fun i hi => ?_, fun k k1 k2 => ?_⟩
  · rw [setA_cell (by omega), updW_self]
  · rw [setA_self]
    unfold va_cpy
    rw [if_pos (by omega), updW_cell (by omega)]
    congr 1
    omega
  · rw [setA_cell k2, updW_cell k1]
end SK
