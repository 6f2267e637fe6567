section RE
/-! texts: what a reader by levels does on bytes B, e of them: whether it goes, where it stands then, the code that it lays -/
def sgB (B : Nat → Int32) (e pos : Nat) : Int32 := if pos < e then B pos else -1
def opL (s : Int32) : Nat := if s = 124 then 0 else if s = 38 then 1 else if s = 60 ∨ s = 61 ∨ s = 62 then 2 else if s = 43 ∨ s = 45 then 3 else if s = 42 ∨ s = 47 ∨ s = 37 then 4 else 9
def digB (s : Int32) : Bool := decide (48 ≤ s ∧ s ≤ 57)
abbrev Pr : Type := Bool × Nat × List Int32
/-- at most n more pairs of a sign of the level and what the next level reads -/
def loopS (B : Nat → Int32) (e lvl : Nat) (sub : Nat → Pr) : Nat → Nat → List Int32 → Pr
  | 0, pos, cl => (true, pos, cl)
  | n + 1, pos, cl => if opL (sgB B e pos) = lvl then (if (sub (pos + 1)).1 = true then loopS B e lvl sub n (sub (pos + 1)).2.1 (cl ++ (sub (pos + 1)).2.2 ++ [-(sgB B e pos)]) else (false, (sub (pos + 1)).2.1, cl)) else (true, pos, cl)
/-- a number: at most n more digits -/
def numS (B : Nat → Int32) (e : Nat) : Nat → Nat → Int32 → Nat × Int32
  | 0, pos, v => (pos, v)
  | n + 1, pos, v => if digB (sgB B e pos) = true then numS B e n (pos + 1) (v * 10 + sgB B e pos - 48) else (pos, v)
def nm1 (u : Nat) : Int32 := 108
def nm2 (u : Nat) : Int32 := if u = 0 then 109 else 112
def nm3 (u : Nat) : Int32 := if u = 0 then 107 else 110
def pS (u : Nat) (B : Nat → Int32) (e : Nat) : Nat → Nat → Nat → Nat → Pr
  | 0, _, pos, _ => (false, pos, [])
  | f + 1, kind, pos, opn =>
    if kind < 5 then
      (if (pS u B e f (kind + 1) pos opn).1 = true then loopS B e kind (fun p => pS u B e f (kind + 1) p opn) (if kind = 2 then 1 else 50) (pS u B e f (kind + 1) pos opn).2.1 (pS u B e f (kind + 1) pos opn).2.2 else (false, (pS u B e f (kind + 1) pos opn).2.1, []))
    else if digB (sgB B e pos) = true then (true, (numS B e 4 pos 0).1, [(numS B e 4 pos 0).2])
    else if sgB B e pos = 33 then (if opn < 5 then ((pS u B e f 5 (pos + 1) (opn + 1)).1, (pS u B e f 5 (pos + 1) (opn + 1)).2.1, (pS u B e f 5 (pos + 1) (opn + 1)).2.2 ++ [-33]) else (false, pos, []))
    else if sgB B e pos = 40 then (if opn < 5 then (if (pS u B e f 0 (pos + 1) (opn + 1)).1 = true then (if sgB B e (pS u B e f 0 (pos + 1) (opn + 1)).2.1 = 41 then (true, (pS u B e f 0 (pos + 1) (opn + 1)).2.1 + 1, (pS u B e f 0 (pos + 1) (opn + 1)).2.2) else (false, (pS u B e f 0 (pos + 1) (opn + 1)).2.1, [])) else (false, (pS u B e f 0 (pos + 1) (opn + 1)).2.1, [])) else (false, pos, []))
    else if sgB B e pos = nm1 u then (true, pos + 1, [-1])
    else if sgB B e pos = nm2 u then (true, pos + 1, [-2])
    else if sgB B e pos = nm3 u then (true, pos + 1, [-3])
    else (false, pos, [])
/-- the text of a use, read whole: its code -/
def TXT (r : Rw) (u e : Nat) (cl : List Int32) : Prop := pS u (fun i => r (129 + 50 * u + i)) e 60 0 0 0 = (true, e, cl)
def RLw (x : Wd) (L : Nat) (r : Rw) (u : Nat) : Prop :=
  x L 0 = nI u ∧ ((r (6 + u) = -1 ∧ x (L + 1) 1 = 0) ∨ ∃ e cl, 1 ≤ e ∧ e ≤ 50 ∧ r (6 + u) = nI e ∧ TXT r u e cl ∧ 1 ≤ cl.length ∧ cl.length ≤ 50 ∧ x (L + 1) 1 = nI cl.length ∧ ∀ i, i < cl.length → x (L + 2) i = cl.getD i 0)
/-- a byte -/
def byB (v : Int32) : Prop := ∀ i, i < 32 → 8 ≤ i → bt v i = false
def RB (x : Wd) (b : Nat) (r : Rw) : Prop :=
  (∃ P Q, WF r P Q ∧ RT x (b + 1) r P Q) ∧ (∃ n, n ≤ 9999 ∧ r 0 = nI n) ∧ RLw x (b + 10) r 0 ∧ RLw x (b + 15) r 1 ∧ x b 5 = r 2 ∧
  (∃ t, t ≤ 50 ∧ r 4 = nI t ∧ x (b + 20) 1 = nI t ∧ ∀ i, i < t → x (b + 21) i = r (59 + i) ∧ byB (r (59 + i))) ∧
  (∃ t, t ≤ 20 ∧ r 5 = nI t ∧ x (b + 22) 1 = nI t ∧ ∀ i, i < t → x (b + 23) i = r (109 + i))
def RS (x y : Wd) : Prop := ∀ s, s < 4 → ((x (71 + 2 * s) 0 = y 110 s ∧ (y 110 s = 0 ∨ y 110 s = 8 ∨ y 110 s = 16 ∨ y 110 s = 32)) ∧ (∃ l, l ≤ 40 ∧ y 111 s = nI l ∧ x (71 + 2 * s) 1 = nI l) ∧ ∀ i, i < 40 → x (72 + 2 * s) i = y 112 (40 * s + i))
/-- after n calls -/
def Rel (n : Nat) (x y : Wd) : Prop :=
  RB x 1 (y 101) ∧ (∃ k, k ≤ n ∧ x 0 9 = nI k ∧ y 100 5 = nI k ∧ y 100 4 = (if k = 0 then 0 else 1) ∧ (k ≠ 0 → RB x 25 (y 102)) ∧ x 35 0 = nI 0 ∧ x 40 0 = nI 1) ∧ (∀ k, k < 6 → x 80 k = y 105 k) ∧ RS x y ∧
  (∃ t, t ≤ 40 ∧ x 68 1 = nI t ∧ y 100 24 = nI t ∧ ∀ i, i < t → x 69 i = y 114 i)
theorem Rel_mono : ∀ n x y, Rel n x y → Rel (n + 1) x y := by
  rintro n x y ⟨h1, ⟨k, hk, h2⟩, h3⟩
  exact ⟨h1, ⟨k, by omega, h2⟩, h3⟩
theorem Rel_0 : Rel 0 wX0 wM0 := by
  have hb : ∀ i, i < 32 → bt (0:Int32) i = false := fun i _ => b_0 i
  refine ⟨⟨⟨0, 0, ⟨by omega, by omega, rfl, rfl, ⟨0, by omega, rfl⟩, Or.inl rfl, fun p hp => by omega, fun q hq => by omega⟩, ⟨⟨rfl, rfl, rfl, rfl⟩, fun p hp => by omega, fun q hq => by omega, fun i hi => by
    have : bt (wX0 (1 + 1) 10) i = false := hb i hi
    rw [this]; simp, fun p _ hp => rfl, fun q _ hq => ⟨rfl, rfl⟩⟩⟩, ⟨0, by omega, rfl⟩, ⟨rfl, Or.inl ⟨rfl, rfl⟩⟩, ⟨rfl, Or.inl ⟨rfl, rfl⟩⟩, rfl, ⟨0, by omega, rfl, rfl, fun i hi => by omega⟩, ⟨0, by omega, rfl, rfl, fun i hi => by omega⟩⟩, ⟨0, by omega, rfl, rfl, rfl, fun h => absurd rfl h, rfl, rfl⟩, fun k hk => rfl, fun s hs => ⟨⟨?_, Or.inl rfl⟩, ⟨0, by omega, rfl, ?_⟩, fun i hi => ?_⟩, ⟨0, by omega, rfl, rfl, fun i hi => by omega⟩⟩
  · rcases (by omega : s = 0 ∨ s = 1 ∨ s = 2 ∨ s = 3) with rfl | rfl | rfl | rfl <;> rfl
  · rcases (by omega : s = 0 ∨ s = 1 ∨ s = 2 ∨ s = 3) with rfl | rfl | rfl | rfl <;> rfl
  · rcases (by omega : s = 0 ∨ s = 1 ∨ s = 2 ∨ s = 3) with rfl | rfl | rfl | rfl <;> rfl
end RE
