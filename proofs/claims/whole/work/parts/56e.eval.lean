section EV
theorem op_iff (s : Int32) : (opL s = 0 ↔ s = 124) ∧ (opL s = 1 ↔ s = 38) ∧ (opL s = 2 ↔ (s = 60 ∨ s = 61 ∨ s = 62)) ∧ (opL s = 3 ↔ (s = 43 ∨ s = 45)) ∧ (opL s = 4 ↔ (s = 42 ∨ s = 47 ∨ s = 37)) := by
  unfold opL
  by_cases h1 : s = 124
  · subst h1; decide
  by_cases h2 : s = 38
  · subst h2; decide
  by_cases h3 : s = 60
  · subst h3; decide
  by_cases h4 : s = 61
  · subst h4; decide
  by_cases h5 : s = 62
  · subst h5; decide
  by_cases h6 : s = 43
  · subst h6; decide
  by_cases h7 : s = 45
  · subst h7; decide
  by_cases h8 : s = 42
  · subst h8; decide
  by_cases h9 : s = 47
  · subst h9; decide
  by_cases h10 : s = 37
  · subst h10; decide
  simp [h1, h2, h3, h4, h5, h6, h7, h8, h9, h10]
theorem op_cases {s : Int32} {l : Nat} (hl : l < 9) (h : opL s = l) : s = 124 ∨ s = 38 ∨ s = 60 ∨ s = 61 ∨ s = 62 ∨ s = 43 ∨ s = 45 ∨ s = 42 ∨ s = 47 ∨ s = 37 := by
  unfold opL at h
  by_cases h1 : s = 124
  · exact Or.inl h1
  rw [if_neg h1] at h
  by_cases h2 : s = 38
  · exact Or.inr (Or.inl h2)
  rw [if_neg h2] at h
  by_cases h3 : s = 60 ∨ s = 61 ∨ s = 62
  · rcases h3 with h3 | h3 | h3 <;> simp [h3]
  rw [if_neg h3] at h
  by_cases h4 : s = 43 ∨ s = 45
  · rcases h4 with h4 | h4 <;> simp [h4]
  rw [if_neg h4] at h
  by_cases h5 : s = 42 ∨ s = 47 ∨ s = 37
  · rcases h5 with h5 | h5 | h5 <;> simp [h5]
  rw [if_neg h5] at h
  omega
theorem ev_op {a b c s v1 v2 : Int32} {st : List Int32} {l : Nat} (hl : l < 9) (h : opL s = l) : evI a b c (-s) (v2 :: v1 :: st) = joinV s v1 v2 :: st := by
  unfold evI
  rcases op_cases hl h with e | e | e | e | e | e | e | e | e | e <;> subst e <;> rw [if_neg (by decide), if_neg (by decide), if_neg (by decide), if_neg (by decide), if_neg (by decide)] <;> rfl
theorem evL_app {a b c : Int32} : ∀ (c1 c2 st : List Int32), evL a b c (c1 ++ c2) st = evL a b c c2 (evL a b c c1 st)
  | [], c2, st => rfl
  | x :: c1, c2, st => evL_app c1 c2 (evI a b c x st)
theorem ev_join {a b c s v1 v2 : Int32} {l : Nat} {c1 c2 : List Int32} (hl : l < 9) (h : opL s = l) (h1 : ∀ st, evL a b c c1 st = v1 :: st) (h2 : ∀ st, evL a b c c2 st = v2 :: st) : ∀ st, evL a b c (c1 ++ c2 ++ [-s]) st = joinV s v1 v2 :: st := fun st => by
  rw [evL_app, evL_app, h1, h2]
  show evI a b c (-s) (v2 :: v1 :: st) = _
  exact ev_op hl h
/-! the reference works a text out -/
abbrev BR (R : Rw) (u : Nat) : Nat → Int32 := fun i => R (129 + 50 * u + i)
def EC (y : Wd) (R : Rw) (u e : Nat) (a b c : Int32) : Prop := y 101 = R ∧ y 100 7 = nI u ∧ y 100 9 = nI e ∧ y 100 11 = a ∧ y 100 12 = b ∧ y 100 13 = c
def FE (y y' : Wd) : Prop := (∀ k, k ≠ 100 → y' k = y k) ∧ ∀ i, i ≠ 8 → i ≠ 10 → i ≠ 14 → y' 100 i = y 100 i
theorem FE_refl (y : Wd) : FE y y := ⟨fun _ _ => rfl, fun _ _ _ _ => rfl⟩
theorem FE_trans {x y z : Wd} (h1 : FE x y) (h2 : FE y z) : FE x z := ⟨fun k hk => by rw [h2.1 k hk, h1.1 k hk], fun i a b c => by rw [h2.2 i a b c, h1.2 i a b c]⟩
theorem FE_upd {y : Wd} {i : Nat} {v : Int32} (h : i = 8 ∨ i = 10 ∨ i = 14) : FE y (updW y 100 i v) := ⟨fun k hk => updW_cell hk, fun j a b c => updW_place (by omega)⟩
theorem EC_fe {y y' : Wd} {R : Rw} {u e : Nat} {a b c : Int32} (hF : FE y y') (h : EC y R u e a b c) : EC y' R u e a b c := by
  obtain ⟨h1, h2, h3, h4, h5, h6⟩ := h
  exact ⟨by rw [hF.1 101 (by omega)]; exact h1, by rw [hF.2 7 (by omega) (by omega) (by omega)]; exact h2, by rw [hF.2 9 (by omega) (by omega) (by omega)]; exact h3, by rw [hF.2 11 (by omega) (by omega) (by omega)]; exact h4, by rw [hF.2 12 (by omega) (by omega) (by omega)]; exact h5, by rw [hF.2 13 (by omega) (by omega) (by omega)]; exact h6⟩
theorem m_byte {y : Wd} {R : Rw} {u e pos : Nat} {a b c : Int32} (hu : u ≤ 1) (he : e ≤ 50) (hp : pos ≤ e) (h : EC y R u e a b c) : f_X9_byteAt y (nI pos) = some (sgB (BR R u) e pos) := by
  obtain ⟨h1, h2, h3, -⟩ := h
  unfold f_X9_byteAt sgB
  rw [h3, h2]
  by_cases z : pos < e
  · rw [if_neg (nI_ge z (by omega)), if_pos z, show (50:Int32) = nI 50 from rfl, nI_mul, show (129:Int32) = nI 129 from rfl, nI_add, nI_add, ald_nI (by omega) (by omega), h1]
  · rw [if_pos (nI_le (by omega) (by omega)), if_neg z]
theorem m_isDigit (s : Int32) : f_X9_isDigit s = some (bI (digB s)) := by
  unfold f_X9_isDigit digB
  rw [m_in, bd_s, zk_b]
def Sm (F : Wd → Option (Int32 × Wd)) (R : Rw) (u e : Nat) (a b c : Int32) (sub : Nat → Pr) (o : Nat) : Prop := ∀ (y : Wd) (pos : Nat), EC y R u e a b c → pos ≤ e → y 100 8 = nI pos → y 100 10 = nI o → y 100 14 = 1 → ∃ v y', F y = some (v, y') ∧ FE y y' ∧ y' 100 10 = nI o ∧ y' 100 8 = nI (sub pos).2.1 ∧ y' 100 14 = bI (sub pos).1 ∧ ((sub pos).1 = true → ∀ st, evL a b c (sub pos).2.2 st = v :: st)
theorem lp_ev {L : Nat → Int32 → Wd → Option (Int32 × Wd)} {G : Wd → Option (Int32 × Wd)} {R : Rw} {u e o l : Nat} {a b c : Int32} {sub : Nat → Pr} (he : e ≤ 50) (hl : l < 9) (hS : Sm G R u e a b c sub o) (hok : okS e sub)
    (hstop : ∀ f x1 y, y 100 14 = 0 → L (f + 1) x1 y = some (x1, y))
    (hno : ∀ f x1 y pos, EC y R u e a b c → pos ≤ e → y 100 8 = nI pos → y 100 14 = 1 → ¬ opL (sgB (BR R u) e pos) = l → L (f + 1) x1 y = some (x1, y))
    (hgo : ∀ f x1 y pos, EC y R u e a b c → pos ≤ e → y 100 8 = nI pos → y 100 14 = 1 → opL (sgB (BR R u) e pos) = l → L (f + 1) x1 y = bd (G (updW y 100 8 (nI (pos + 1)))) (fun q => L f (joinV (sgB (BR R u) e pos) x1 q.1) q.2)) :
    ∀ (n pos : Nat) (cl : List Int32) (x1 : Int32) (y : Wd) (f : Nat), 50 ≤ n + pos → n + 2 ≤ f → EC y R u e a b c → pos ≤ e → y 100 8 = nI pos → y 100 10 = nI o → y 100 14 = 1 → (∀ st, evL a b c cl st = x1 :: st) → ∃ v y', L f x1 y = some (v, y') ∧ FE y y' ∧ y' 100 10 = nI o ∧ y' 100 8 = nI (loopS (BR R u) e l sub n pos cl).2.1 ∧ y' 100 14 = bI (loopS (BR R u) e l sub n pos cl).1 ∧ ((loopS (BR R u) e l sub n pos cl).1 = true → ∀ st, evL a b c (loopS (BR R u) e l sub n pos cl).2.2 st = v :: st) := by
  intro n
  induction n with
  | zero =>
    intro pos cl x1 y f h1 h2 hC hp h8 h10 h14 hev
    obtain ⟨f, rfl⟩ : ∃ g, f = g + 1 := ⟨f - 1, by omega⟩
    have hno' := hno f x1 y pos hC hp h8 h14 (fun z => by have := op_lt hl z; omega)
    exact ⟨x1, y, hno', FE_refl _, h10, h8, h14, fun _ => hev⟩
  | succ n ih =>
    intro pos cl x1 y f h1 h2 hC hp h8 h10 h14 hev
    obtain ⟨f, rfl⟩ : ∃ g, f = g + 1 := ⟨f - 1, by omega⟩
    unfold loopS
    by_cases hop : opL (sgB (BR R u) e pos) = l
    · rw [if_pos hop]
      have hpe := op_lt hl hop
      have hF0 : FE y (updW y 100 8 (nI (pos + 1))) := FE_upd (Or.inl rfl)
      obtain ⟨v, y1, g1, g2, g3, g4, g5, g6⟩ := hS (updW y 100 8 (nI (pos + 1))) (pos + 1) (EC_fe hF0 hC) (by omega) (updW_self _ _ _ _) (by rw [updW_place (by omega)]; exact h10) (by rw [updW_place (by omega)]; exact h14)
      obtain ⟨s1, s2, s3⟩ := hok (pos + 1) (by omega)
      rw [hgo f x1 y pos hC hp h8 h14 hop, g1, bd_s]
      dsimp only
      by_cases hsub : (sub (pos + 1)).1 = true
      · rw [if_pos hsub]
        rw [hsub] at g5
        obtain ⟨v', y', j1, j2, j3, j4, j5, j6⟩ := ih (sub (pos + 1)).2.1 (cl ++ (sub (pos + 1)).2.2 ++ [-(sgB (BR R u) e pos)]) (joinV (sgB (BR R u) e pos) x1 v) y1 f (by omega) (by omega) (EC_fe (FE_trans hF0 g2) hC) s2 g4 g3 g5 (ev_join hl hop hev (g6 hsub))
        exact ⟨v', y', j1, FE_trans (FE_trans hF0 g2) j2, j3, j4, j5, j6⟩
      · rw [if_neg hsub]
        have hf : (sub (pos + 1)).1 = false := by
          cases hh : (sub (pos + 1)).1 with
          | true => exact absurd hh hsub
          | false => rfl
        rw [hf] at g5
        obtain ⟨f, rfl⟩ : ∃ g, f = g + 1 := ⟨f - 1, by omega⟩
        exact ⟨_, y1, hstop f _ y1 g5, FE_trans hF0 g2, g3, g4, g5, fun z => absurd z Bool.false_ne_true⟩
    · rw [if_neg hop]
      exact ⟨x1, y, hno f x1 y pos hC hp h8 h14 hop, FE_refl _, h10, h8, h14, fun _ => hev⟩
theorem m_number {R : Rw} {u e : Nat} {a b c : Int32} (hu : u ≤ 1) (he : e ≤ 50) : ∀ (n i pos : Nat) (v : Int32) (y : Wd) (f : Nat), i + n = 4 → n < f → EC y R u e a b c → pos ≤ e → y 100 8 = nI pos → ∃ y', lp (fun _ _ _ => none) (fun rec => fb_X9_number_4 rec) f v (nI i) y = some ((numS (BR R u) e n pos v).2, y') ∧ FE y y' ∧ y' 100 8 = nI (numS (BR R u) e n pos v).1 ∧ y' 100 10 = y 100 10 ∧ y' 100 14 = y 100 14 := by
  intro n
  induction n with
  | zero =>
    intro i pos v y f h1 h2 hC hp h8
    obtain ⟨f, rfl⟩ : ∃ g, f = g + 1 := ⟨f - 1, by omega⟩
    have hi : i = 4 := by omega
    subst hi
    have e1 : ∀ w, fb_X9_number_4 w v (nI 4) y = some (v, y) := fun w => by
      unfold fb_X9_number_4
      rw [if_pos (by decide)]
    rw [lp_s]
    exact ⟨y, e1 _, FE_refl _, h8, rfl, rfl⟩
  | succ n ih =>
    intro i pos v y f h1 h2 hC hp h8
    obtain ⟨f, rfl⟩ : ∃ g, f = g + 1 := ⟨f - 1, by omega⟩
    rw [lp_s]
    unfold numS
    have hb := m_byte hu he hp hC
    by_cases hd : digB (sgB (BR R u) e pos) = true
    · rw [if_pos hd]
      have hpe := dig_lt hd
      have e1 : ∀ w, fb_X9_number_4 w v (nI i) y = w (v * 10 + sgB (BR R u) e pos - 48) (nI (i + 1)) (updW y 100 8 (nI (pos + 1))) := fun w => by
        unfold fb_X9_number_4
        rw [if_neg (show ¬ (4:Int32) ≤ nI i from nI_ge (b := 4) (by omega) (by omega)), h8, hb, bd_s, m_isDigit, hd, bd_s, if_neg (show ¬ bI true = 0 by decide), bd_s, lv_s, wl_s, nI_1, nI_1, Int32.mul_comm (10:Int32) v]
      obtain ⟨y', j1, j2, j3, j4, j5⟩ := ih (i + 1) (pos + 1) (v * 10 + sgB (BR R u) e pos - 48) (updW y 100 8 (nI (pos + 1))) f (by omega) (by omega) (EC_fe (FE_upd (Or.inl rfl)) hC) hpe (updW_self _ _ _ _)
      refine ⟨y', (e1 _).trans j1, FE_trans (FE_upd (Or.inl rfl)) j2, j3, ?_, ?_⟩
      · rw [j4, updW_place (by omega)]
      · rw [j5, updW_place (by omega)]
    · rw [if_neg hd]
      have hd' : digB (sgB (BR R u) e pos) = false := by
        cases hh : digB (sgB (BR R u) e pos) with
        | true => exact absurd hh hd
        | false => rfl
      have e1 : ∀ w, fb_X9_number_4 w v (nI i) y = some (v, y) := fun w => by
        unfold fb_X9_number_4
        rw [if_neg (show ¬ (4:Int32) ≤ nI i from nI_ge (b := 4) (by omega) (by omega)), h8, hb, bd_s, m_isDigit, hd', bd_s, if_pos bI_f]
      exact ⟨y, e1 _, FE_refl _, h8, rfl, rfl⟩
theorem m_named {y : Wd} {R : Rw} {u e pos : Nat} {a b c s : Int32} (hu : u ≤ 1) (hC : EC y R u e a b c) (h8 : y 100 8 = nI pos) : f_X9_named s y = if s = nm1 u then some (a, updW y 100 8 (nI (pos + 1))) else if s = nm2 u then some (b, updW y 100 8 (nI (pos + 1))) else if s = nm3 u then some (c, updW y 100 8 (nI (pos + 1))) else some (0, updW y 100 14 0) := by
  obtain ⟨h1, h2, h3, h4, h5, h6⟩ := hC
  have key : ∀ x2 x3 t0 : Bool, f_X9_named_59 (bI x2) (bI x3) (bI t0) y = if x2 = true then some (a, updW y 100 8 (nI (pos + 1))) else if x3 = true then some (b, updW y 100 8 (nI (pos + 1))) else if t0 = true then some (c, updW y 100 8 (nI (pos + 1))) else some (0, updW y 100 14 0) := fun x2 x3 t0 => by
    unfold f_X9_named_59 f_X9_named_79 f_X9_fails
    rw [wl_s, wl_s, h8, nI_1, bd_s, updW_place (by omega), updW_place (by omega), updW_place (by omega), h4, h5, h6]
    cases x2 <;> cases x3 <;> cases t0 <;> rfl
  have k2 : ∀ (x2 x3 : Bool) (p q : Int32), f_X9_named_51 (bI x2) (bI x3) p q y = if x2 = true then some (a, updW y 100 8 (nI (pos + 1))) else if x3 = true then some (b, updW y 100 8 (nI (pos + 1))) else if q = p then some (c, updW y 100 8 (nI (pos + 1))) else some (0, updW y 100 14 0) := fun x2 x3 p q => by
    unfold f_X9_named_51
    by_cases z : q = p
    · rw [if_neg (fun w => w z), show (1:Int32) = bI true from rfl, key, if_pos z, if_pos rfl]
    · rw [if_pos z, show (0:Int32) = bI false from rfl, key, if_neg z, if_neg Bool.false_ne_true]; rfl
  have k3 : ∀ (x2 x3 : Bool), f_X9_named_35 s (bI x2) (bI x3) y = if x2 = true then some (a, updW y 100 8 (nI (pos + 1))) else if x3 = true then some (b, updW y 100 8 (nI (pos + 1))) else if s = nm3 u then some (c, updW y 100 8 (nI (pos + 1))) else some (0, updW y 100 14 0) := fun x2 x3 => by
    unfold f_X9_named_35 nm3
    rw [h2]
    rcases (by omega : u = 0 ∨ u = 1) with rfl | rfl
    · rw [if_neg (fun z => z rfl), k2, if_pos rfl]
    · rw [if_pos (by decide), k2, if_neg (show ¬ (1:Nat) = 0 by decide)]
  have k4 : ∀ (x2 : Bool) (p : Int32), f_X9_named_27 s (bI x2) p s y = if x2 = true then some (a, updW y 100 8 (nI (pos + 1))) else if s = p then some (b, updW y 100 8 (nI (pos + 1))) else if s = nm3 u then some (c, updW y 100 8 (nI (pos + 1))) else some (0, updW y 100 14 0) := fun x2 p => by
    unfold f_X9_named_27
    by_cases z : s = p
    · rw [if_neg (fun w => w z), show (1:Int32) = bI true from rfl, k3, if_pos z, if_pos rfl]
    · rw [if_pos z, show (0:Int32) = bI false from rfl, k3, if_neg z, if_neg Bool.false_ne_true]; rfl
  have k5 : ∀ (x2 : Bool), f_X9_named_11 s (bI x2) y = if x2 = true then some (a, updW y 100 8 (nI (pos + 1))) else if s = nm2 u then some (b, updW y 100 8 (nI (pos + 1))) else if s = nm3 u then some (c, updW y 100 8 (nI (pos + 1))) else some (0, updW y 100 14 0) := fun x2 => by
    unfold f_X9_named_11 nm2
    rw [h2]
    rcases (by omega : u = 0 ∨ u = 1) with rfl | rfl
    · rw [if_neg (fun z => z rfl), k4, if_pos rfl]
    · rw [if_pos (by decide), k4, if_neg (show ¬ (1:Nat) = 0 by decide)]
  unfold f_X9_named nm1
  by_cases z : s = 108
  · rw [if_neg (fun w => w z), show (1:Int32) = bI true from rfl, k5, if_pos z, if_pos rfl]
  · rw [if_pos z, show (0:Int32) = bI false from rfl, k5, if_neg z, if_neg Bool.false_ne_true]; rfl
end EV
