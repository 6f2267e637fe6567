section BA
def bt (x : Int32) (i : Nat) : Bool := x.toBitVec.getLsbD i
theorem b_ext {x y : Int32} (h : ∀ i, i < 32 → bt x i = bt y i) : x = y := Int32.toBitVec_inj.mp (BitVec.eq_of_getLsbD_eq (fun i hi => h i hi))
theorem b_or (x y : Int32) (i : Nat) : bt (x ||| y) i = (bt x i || bt y i) := by unfold bt; rw [Int32.toBitVec_or, BitVec.getLsbD_or]
theorem b_and (x y : Int32) (i : Nat) : bt (x &&& y) i = (bt x i && bt y i) := by unfold bt; rw [Int32.toBitVec_and, BitVec.getLsbD_and]
theorem b_xor (x y : Int32) (i : Nat) : bt (x ^^^ y) i = (bt x i ^^ bt y i) := by unfold bt; rw [Int32.toBitVec_xor, BitVec.getLsbD_xor]
theorem b_big {x : Int32} {i : Nat} (h : 32 ≤ i) : bt x i = false := BitVec.getLsbD_of_ge _ _ h
theorem b_255 (i : Nat) : bt 255 i = decide (i < 8) := by
  rcases Nat.lt_or_ge i 32 with h | h
  · exact (by decide +kernel : ∀ i, i < 32 → bt 255 i = decide (i < 8)) i h
  · rw [b_big h, decide_eq_false (by omega)]
theorem b_65535 (i : Nat) : bt 65535 i = decide (i < 16) := by
  rcases Nat.lt_or_ge i 32 with h | h
  · exact (by decide +kernel : ∀ i, i < 32 → bt 65535 i = decide (i < 16)) i h
  · rw [b_big h, decide_eq_false (by omega)]
theorem b_m1 : ∀ i, i < 32 → bt (-1) i = true := by decide +kernel
theorem b_0 (i : Nat) : bt 0 i = false := BitVec.getLsbD_zero
theorem s_l : ∀ n, n < 32 → ((nI n &&& 31).toBitVec.smod 32).toNat = n := by decide +kernel
theorem s_u : ∀ n, n < 32 → (((nI n).toUInt32 &&& Int32.toUInt32 31).toBitVec % 32).toNat = n := by decide +kernel
theorem b_shl (n : Nat) (hn : n < 32) (x : Int32) {i : Nat} (hi : i < 32) : bt (x <<< (nI n &&& 31)) i = (decide (n ≤ i) && bt x (i - n)) := by
  unfold bt
  rw [Int32.toBitVec_shiftLeft]
  show (x.toBitVec <<< ((nI n &&& 31).toBitVec.smod 32).toNat).getLsbD i = _
  rw [s_l n hn, BitVec.getLsbD_shiftLeft]
  rcases Nat.lt_or_ge i n with h | h
  · simp [h, Nat.not_le.mpr h]
  · simp [hi, h, Nat.not_lt.mpr h]
theorem b_ushr (n : Nat) (hn : n < 32) (x : Int32) (i : Nat) : bt ((x.toUInt32 >>> ((nI n).toUInt32 &&& Int32.toUInt32 31)).toInt32) i = bt x (n + i) := by
  show (x.toUInt32 >>> ((nI n).toUInt32 &&& Int32.toUInt32 31)).toBitVec.getLsbD i = x.toUInt32.toBitVec.getLsbD (n + i)
  rw [UInt32.toBitVec_shiftRight]
  show (x.toUInt32.toBitVec >>> (((nI n).toUInt32 &&& Int32.toUInt32 31).toBitVec % 32).toNat).getLsbD i = _
  rw [s_u n hn, BitVec.getLsbD_ushiftRight]
theorem b_sshr (n : Nat) (hn : n < 32) (x : Int32) {i : Nat} (hi : i < 32) : bt (x >>> (nI n &&& 31)) i = if n + i < 32 then bt x (n + i) else bt x 31 := by
  unfold bt
  rw [Int32.toBitVec_shiftRight]
  show (x.toBitVec.sshiftRight ((nI n &&& 31).toBitVec.smod 32).toNat).getLsbD i = _
  rw [s_l n hn, BitVec.getLsbD_sshiftRight, BitVec.msb_eq_getLsbD_last]
  simp [hi]
theorem b_shl8 (x : Int32) {i : Nat} (hi : i < 32) : bt (x <<< ((8 : Int32) &&& 31)) i = (decide (8 ≤ i) && bt x (i - 8)) := b_shl 8 (by omega) x hi
theorem b_shl16 (x : Int32) {i : Nat} (hi : i < 32) : bt (x <<< ((16 : Int32) &&& 31)) i = (decide (16 ≤ i) && bt x (i - 16)) := b_shl 16 (by omega) x hi
theorem b_shl24 (x : Int32) {i : Nat} (hi : i < 32) : bt (x <<< ((24 : Int32) &&& 31)) i = (decide (24 ≤ i) && bt x (i - 24)) := b_shl 24 (by omega) x hi
theorem b_sshr8 (x : Int32) {i : Nat} (hi : i < 32) : bt (x >>> ((8 : Int32) &&& 31)) i = if 8 + i < 32 then bt x (8 + i) else bt x 31 := b_sshr 8 (by omega) x hi
/-! numbers -/
theorem nm_le {a b : Nat} (hb : b < 2 ^ 31) (ha : a < 2 ^ 31) : (nI a ≤ nI b) = (a ≤ b) := propext (nI_leI ha hb)
theorem nm_lt {a b : Nat} (hb : b < 2 ^ 31) (ha : a < 2 ^ 31) : (nI a < nI b) = (a < b) := propext (nI_ltI ha hb)
theorem nm_eq {a b : Nat} (hb : b < 2 ^ 31) (ha : a < 2 ^ 31) : (nI a = nI b) = (a = b) := propext (nI_eq ha hb)
theorem nI_mul (a b : Nat) : nI a * nI b = nI (a * b) := by
  unfold nI
  exact (Int32.ofNat_mul a b).symm
theorem nI_m1 {a : Nat} (h : 0 < a) : nI a - 1 = nI (a - 1) := by
  obtain ⟨b, rfl⟩ : ∃ b, a = b + 1 := ⟨a - 1, by omega⟩
  exact nI_pred b
theorem bad_nI {i n : Nat} (h : i < n) (hn : n ≤ 1000000) : bad (nI i) n = false := by
  have h1 := nI_in h (by omega)
  unfold bad
  rw [Bool.or_eq_false_iff]
  exact ⟨decide_eq_false (fun q => h1 (Or.inl q)), decide_eq_false (fun q => h1 (Or.inr q))⟩
theorem nI_ix {i : Nat} (h : i ≤ 1000000) : (nI i).toNatClampNeg = i := nI_clamp (by omega)
theorem ald_nI {α : Type} {w : Wd} {k n i : Nat} {K : Int32 → Option α} (h : i < n) (hn : n ≤ 1000000) : ald w k n (nI i) K = K (w k i) := by
  unfold ald
  rw [bad_nI h hn, nI_ix (by omega)]
  rfl
theorem ast_nI {α : Type} {w : Wd} {k n i : Nat} {v : Int32} {K : Wd → Option α} (h : i < n) (hn : n ≤ 1000000) : ast w k n (nI i) v K = K (updW w k i v) := by
  unfold ast
  rw [bad_nI h hn, nI_ix (by omega)]
  rfl
theorem zst_nI {α : Type} {w : Wd} {k n i : Nat} {v : Int32} {K : Wd → Option α} (h : i < n) (hn : n ≤ 1000000) : zst w k n (nI i) v K = K (updW w k i (vp_nar .boolean v)) := by
  unfold zst
  rw [bad_nI h hn, nI_ix (by omega)]
  rfl
theorem tld_nI {α : Type} {f : Nat → Int32} {n i : Nat} {K : Int32 → Option α} (h : i < n) (hn : n ≤ 1000000) : tld f n (nI i) K = K (f i) := by
  unfold tld
  rw [bad_nI h hn, nI_ix (by omega)]
  rfl
theorem qld_nI {α : Type} {ts : List Nat} {i : Nat} {K : Nat → Option α} (h : i < ts.length) (hn : ts.length ≤ 1000000) : qld ts (nI i) K = K (ts.getD i 0) := by
  unfold qld
  rw [bad_nI h hn, nI_ix (by omega)]
  rfl
theorem bd_s {β α : Type} {x : β} {K : β → Option α} : bd (some x) K = K x := rfl
theorem lv_s {α : Type} {x : Int32} {K : Int32 → Option α} : lv x K = K x := rfl
theorem wl_s {α : Type} {w : Wd} {K : Wd → Option α} : wl w K = K w := rfl
theorem gd_s {α : Type} {K : Option α} : gd true K = K := rfl
theorem nz_s {α : Type} {y : Int32} {K : Option α} (h : ¬ y = 0) : nz y K = K := if_neg h
theorem zk_0 {α : Type} {K : Option α} : zk 0 K = K := rfl
theorem zk_1 {α : Type} {K : Option α} : zk 1 K = K := rfl
theorem zb_0 {α : Type} {K : Option α} : zb 0 K = K := rfl
theorem zb_1 {α : Type} {K : Option α} : zb 1 K = K := rfl
def bI (b : Bool) : Int32 := if b then 1 else 0
theorem zk_b {α : Type} {b : Bool} {K : Option α} : zk (bI b) K = K := by cases b <;> rfl
theorem zb_b {α : Type} {b : Bool} {K : Option α} : zb (bI b) K = K := by cases b <;> rfl
theorem bI_0 (b : Bool) : (bI b = 0) = (b = false) := by cases b <;> simp [bI]
theorem bI_1 (b : Bool) : (bI b = 1) = (b = true) := by cases b <;> simp [bI]
theorem bI_t : bI true = 1 := rfl
theorem bI_f : bI false = 0 := rfl
theorem bI_ite (c : Prop) [Decidable c] : (if c then (1:Int32) else 0) = bI (decide c) := by
  unfold bI
  by_cases h : c <;> simp [h]
/-! writes -/
theorem updW_get (w : Wd) (k i : Nat) (v : Int32) (k' i' : Nat) : updW w k i v k' i' = if k' = k ∧ i' = i then v else w k' i' := by
  unfold updW setA upd
  by_cases h1 : k' = k
  · subst h1
    by_cases h2 : i' = i <;> simp [h2]
  · simp [h1]
theorem updW_self (w : Wd) (k i : Nat) (v : Int32) : updW w k i v k i = v := by rw [updW_get]; simp
theorem updW_cell {w : Wd} {k i : Nat} {v : Int32} {k' : Nat} (h : ¬ k' = k) : updW w k i v k' = w k' := by
  unfold updW setA
  rw [if_neg h]
theorem updW_place {w : Wd} {k i : Nat} {v : Int32} {k' i' : Nat} (h : ¬ i' = i) : updW w k i v k' i' = w k' i' := by
  rw [updW_get, if_neg (fun q => h q.2)]
theorem setA_self (w : Wd) (k : Nat) (f : Nat → Int32) : setA w k f k = f := by simp [setA]
theorem setA_cell {w : Wd} {k : Nat} {f : Nat → Int32} {k' : Nat} (h : ¬ k' = k) : setA w k f k' = w k' := by simp [setA, h]
/-! loops -/
theorem lp_s {α : Type} (z : α) (F : α → α) (k : Nat) : lp z F (k + 1) = F (lp z F k) := rfl
theorem lp_inv {α σ R : Type} {z : α} {F : α → α} (ev : α → σ → Nat → Option R) (N : Nat) (fin : σ → Option R) (Inv : Nat → σ → Prop)
    (hstep : ∀ g i s, i < N → Inv i s → ∃ s', Inv (i + 1) s' ∧ ev (F g) s i = ev g s' (i + 1))
    (hend : ∀ g s, Inv N s → ev (F g) s N = fin s) : ∀ (d i : Nat) (s : σ) (fuel : Nat), i + d = N → d < fuel → Inv i s → ∃ s', Inv N s' ∧ ev (lp z F fuel) s i = fin s' := by
  intro d
  induction d with
  | zero =>
    intro i s fuel h1 h2 h3
    obtain ⟨f, rfl⟩ : ∃ f, fuel = f + 1 := ⟨fuel - 1, by omega⟩
    have hi : i = N := by omega
    subst hi
    exact ⟨s, h3, hend _ s h3⟩
  | succ d ih =>
    intro i s fuel h1 h2 h3
    obtain ⟨f, rfl⟩ : ∃ f, fuel = f + 1 := ⟨fuel - 1, by omega⟩
    obtain ⟨s', h4, h5⟩ := hstep (lp z F f) i s (by omega) h3
    obtain ⟨s'', h6, h7⟩ := ih (i + 1) s' f (by omega) (by omega) h4
    exact ⟨s'', h6, by rw [lp_s, h5, h7]⟩
theorem FU_lt {d : Nat} (h : d ≤ 1000000) : d < FU := by unfold FU; omega
theorem lp_run {α σ R : Type} {z : α} {F : α → α} (ev : α → σ → Nat → Option R) (N : Nat) (fin : σ → Option R) (Inv : Nat → σ → Prop)
    (hstep : ∀ g i s, i < N → Inv i s → ∃ s', Inv (i + 1) s' ∧ ev (F g) s i = ev g s' (i + 1))
    (hend : ∀ g s, Inv N s → ev (F g) s N = fin s) (hN : N ≤ 1000000) (s : σ) (h0 : Inv 0 s) : ∃ s', Inv N s' ∧ ev (lp z F FU) s 0 = fin s' :=
  lp_inv ev N fin Inv hstep hend N 0 s FU (by omega) (FU_lt hN) h0
/-! bits of small sets -/
theorem b_one {i : Nat} (hi : i < 32) : bt 1 i = decide (i = 0) := (by decide +kernel : ∀ i, i < 32 → bt 1 i = decide (i = 0)) i hi
theorem b_sh1 {n i : Nat} (hn : n < 32) (hi : i < 32) : bt ((1:Int32) <<< (nI n &&& 31)) i = decide (i = n) := by
  rw [b_shl n hn 1 hi]
  rcases Nat.lt_or_ge i n with h | h
  · rw [decide_eq_false (by omega : ¬ n ≤ i), decide_eq_false (by omega)]; rfl
  · rw [decide_eq_true h, b_one (by omega)]
    by_cases e : i = n
    · subst e; simp
    · rw [decide_eq_false (by omega), decide_eq_false e]; rfl
theorem b_and1 {x : Int32} {n i : Nat} (hn : n < 32) (hi : i < 32) : bt ((x >>> (nI n &&& 31)) &&& 1) i = (decide (i = 0) && bt x n) := by
  rw [b_and, b_one hi, b_sshr n hn x hi]
  by_cases e : i = 0
  · subst e; simp [hn]
  · simp [e]
theorem and1_bI {x : Int32} {n : Nat} (hn : n < 32) : (x >>> (nI n &&& 31)) &&& 1 = bI (bt x n) := by
  apply b_ext
  intro i hi
  rw [b_and1 hn hi]
  cases h : bt x n
  · rw [bI_f, b_0]; simp
  · rw [bI_t, b_one hi]; simp
theorem b_bIsh {b : Bool} {n i : Nat} (hn : n < 32) (hi : i < 32) : bt (bI b <<< (nI n &&& 31)) i = (decide (i = n) && b) := by
  cases b
  · rw [bI_f, b_shl n hn 0 hi, b_0]; simp
  · rw [bI_t, b_sh1 hn hi]; simp
theorem b_not (x : Int32) {i : Nat} (hi : i < 32) : bt (x ^^^ (-1)) i = !bt x i := by rw [b_xor, b_m1 i hi]; simp
theorem b_full : ∀ n, n ≤ 6 → ∀ i, i < 32 → bt (((1:Int32) <<< (nI n &&& 31)) - 1) i = decide (i < n) := by decide +kernel
end BA
