section CG
def unN (f g : Nat → Int32) : Nat → Nat
  | 0 => 0
  | i + 1 => unN f g i + if f i = g i then 0 else 1
def ulR (g : Nat → Int32) : Rp → Nat
  | [] => 0
  | k :: rest => ulR g rest + if nI k - 1 = g rest.length then 0 else 1
theorem ulR_un {f g : Nat → Int32} : ∀ {r : Rp}, RW f r → unN f g r.length = ulR g r
  | [], _ => rfl
  | k :: rest, ⟨h1, h2, h3⟩ => by
    show unN f g rest.length + (if f rest.length = g rest.length then 0 else 1) = ulR g rest + _
    rw [ulR_un h3, h1]
theorem un_le (f g : Nat → Int32) : ∀ i, unN f g i ≤ i
  | 0 => Nat.le_refl _
  | i + 1 => by
    have := un_le f g i
    rw [unN]
    split <;> omega
def mnL (g : Nat → Int32) : Nat → List Rp → Nat
  | m, [] => m
  | m, r :: L => mnL g (min m (ulR g r)) L
theorem mnL_0 (g : Nat → Int32) : ∀ L, mnL g 0 L = 0
  | [] => rfl
  | r :: L => by rw [mnL, Nat.zero_min]; exact mnL_0 g L
theorem mnL_le (g : Nat → Int32) : ∀ m L, mnL g m L ≤ m
  | m, [] => Nat.le_refl _
  | m, r :: L => Nat.le_trans (mnL_le g _ L) (Nat.min_le_left _ _)
theorem x_unlike {x : Wd} {P b1 : Nat} {g : Nat → Int32} (h5 : x 58 5 = nI P) (hP : P ≤ 5) (hl : 5 ≤ lenX b1 ∧ lenX b1 ≤ 1000) (hg : ∀ j, j < P → x b1 j = g j) : f_X1_unlike b1 x = some (nI (unN (x 59) g P)) := by
  unfold f_X1_unlike f_X1_unlike_4
  obtain ⟨v, h1, h2⟩ := lp_run (z := fun _ _ => none) (F := fun rec => fb_X1_unlike_4 b1 x rec) (fun k (v : Int32) i => k v (nI i)) P some (fun i v => v = nI (unN (x 59) g i)) (fun k i v hi hI => by
    unfold fb_X1_unlike_4 f_X1_unlike_27
    rw [h5, if_neg (nI_ge hi (by omega)), ald_nI (by omega) (by omega), ald_nI (by omega) (by omega), nI_1, hg i hi, hI, nI_1]
    refine ⟨_, rfl, ?_⟩
    rw [unN]
    by_cases e : x 59 i = g i
    · rw [if_pos e, if_pos e]; rfl
    · rw [if_neg e, if_neg e]) (fun k v hI => by
    unfold fb_X1_unlike_4
    rw [h5, if_pos (nI_le (Nat.le_refl _) (by omega))]) (by omega) 0 rfl
  rw [← h1]
  exact h2
theorem cx_changes {P Q s : Nat} {r : Rw} {w : Int32} {al : Nat → Bool} {g : Nat → Int32} (hP : P ≤ 5) (hQ : Q ≤ 6) (hs : s < 4) : ∀ (L : List Rp) (x : Wd) (c m fuel : Nat), m ≤ 6 → (∀ j, j < 40 → x (72 + 2 * s) j = g j) → XF x P (mbE r Q w) al L → c + L.length < 1000000 → L.length < fuel → ∃ x', lp (fun _ _ _ => none) (fun rec => fb_X8_changes_84 (71 + 2 * s) rec) fuel (nI m) (nI c) x = f_X8_changes_130 (nI (mnL g m L)) x' ∧ FC x x' := by
  intro L
  induction L with
  | nil =>
    intro x c m fuel hm hg h h1 h2
    obtain ⟨f, rfl⟩ : ∃ f, fuel = f + 1 := ⟨fuel - 1, by omega⟩
    obtain ⟨x', g1, g2, -⟩ := x_goesOn hP (mbE_7 hQ) h
    have e0 : bI (!([] : List Rp).isEmpty) = 0 := rfl
    rw [e0] at g1
    rw [List.length_nil] at h1
    rw [lp_s]
    by_cases hv : m = 0
    · have e : ∀ u, fb_X8_changes_84 (71 + 2 * s) u (nI m) (nI c) x = f_X8_changes_130 (nI m) x := fun u => by
        unfold fb_X8_changes_84
        rw [show (1000000:Int32) = nI 1000000 from rfl, if_neg (nI_ge (by omega) (by omega)), hv, if_pos (by decide)]
      exact ⟨x, e _, fun _ _ _ _ _ _ _ => rfl⟩
    · have e : ∀ u, fb_X8_changes_84 (71 + 2 * s) u (nI m) (nI c) x = f_X8_changes_130 (nI m) x' := fun u => by
        unfold fb_X8_changes_84
        rw [show (1000000:Int32) = nI 1000000 from rfl, if_neg (nI_ge (by omega) (by omega)), if_neg (nI_nle (by omega) (by omega)), g1, bd_s, if_pos rfl]
      exact ⟨x', e _, g2⟩
  | cons rp L ih =>
    intro x c m fuel hm hg h h1 h2
    obtain ⟨f, rfl⟩ : ∃ f, fuel = f + 1 := ⟨fuel - 1, by omega⟩
    rw [List.length_cons] at h1 h2
    rw [lp_s]
    by_cases hv : m = 0
    · subst hv
      have e : ∀ u, fb_X8_changes_84 (71 + 2 * s) u (nI 0) (nI c) x = f_X8_changes_130 (nI 0) x := fun u => by
        unfold fb_X8_changes_84
        rw [show (1000000:Int32) = nI 1000000 from rfl, if_neg (nI_ge (by omega) (by omega)), if_pos (by decide)]
      rw [mnL_0]
      exact ⟨x, e _, fun _ _ _ _ _ _ _ => rfl⟩
    · obtain ⟨x1, g1, g2, g3⟩ := x_goesOn hP (mbE_7 hQ) h
      rcases g3 with z | ⟨r', L', e, g4, g5⟩
      · exact absurd z (by simp)
      · obtain ⟨rfl, rfl⟩ := List.cons.inj e
        have hg1 : ∀ j, j < 40 → x1 (72 + 2 * s) j = g j := fun j hj => by rw [g2 _ (by omega) (by omega) (by omega) (by omega) (by omega) (by omega)]; exact hg j hj
        have hu := x_unlike (x := x1) (b1 := 72 + 2 * s) (g := g) g4.1.1 hP (lenSh hs) (fun j hj => hg1 j (by omega))
        have hul := un_le (x1 59) g P
        have hR := ulR_un (g := g) g4.2.2.1
        rw [g4.2.1] at hR
        have e1 : ∀ k, fb_X8_changes_84 (71 + 2 * s) k (nI m) (nI c) x = k (nI (min m (ulR g rp))) (nI (c + 1)) x1 := fun k => by
          unfold fb_X8_changes_84
          rw [show (1000000:Int32) = nI 1000000 from rfl, if_neg (nI_ge (by omega) (by omega)), if_neg (nI_nle (by omega) (by omega)), g1, bd_s]
          dsimp only
          rw [if_neg (show ¬ bI (!(rp :: L).isEmpty) = 0 from fun z => absurd z (by rw [List.isEmpty_cons]; decide)), show 71 + 2 * s + 1 = 72 + 2 * s by omega, hu, bd_s, lv_s, nI_1, min_nI (by omega) (by omega), hR]
        obtain ⟨x', k1, k2⟩ := ih x1 (c + 1) (min m (ulR g rp)) f (by omega) hg1 g5 (by omega) (by omega)
        exact ⟨x', (e1 _).trans k1, FC_trans g2 k2⟩
def enc (m : Nat) : Int32 := if m = 6 then -1 else nI m
def mnF (g : Nat → Int32) (c : Nat) : Nat → List Rp → Nat
  | m, [] => m
  | m, r :: L => mnF g c (if hasC r c = true then m else min m (ulR g r)) L
theorem mnF_eq (g : Nat → Int32) (c : Nat) : ∀ L m, mnF g c m L = mnL g m (L.filter (fun r => !hasC r c))
  | [], m => rfl
  | r :: L, m => by
    rw [mnF, mnF_eq g c L]
    cases h : hasC r c with
    | true => rw [if_pos rfl, List.filter_cons_of_neg (by rw [h]; decide)]
    | false => rw [if_neg (by decide), List.filter_cons_of_pos (by rw [h]; decide)]; rfl
theorem mnF_le (g : Nat → Int32) (c : Nat) (L : List Rp) (m : Nat) : mnF g c m L ≤ m := by
  rw [mnF_eq]; exact mnL_le g m _
/-- the numbers of one casting that are otherwise, and whether one plays in it -/
theorem cy_row {y : Wd} {P Q s p m : Nat} {k : Int32 → Int32 → Int32 → Int32 → Wd → Option (Int32 × Wd)} {g : Nat → Int32} (hW : WF (y 101) P Q) (hs : s < 4) (hp : p < 6) (hm : m ≤ 6) (hg : ∀ j, j < 40 → y 112 (40 * s + j) = g j) :
    f_X9_changes_75 k (nI s) (nI p) (enc m) 0 1 0 y = bd (f_X9_isNext y) (fun q1 => k (nI s) (nI p) (enc (if exF (y 106) P p = true then m else min m (unN (y 106) g P))) q1.1 q1.2) := by
  have hP := hW.1
  have hu := un_le (y 106) g P
  unfold f_X9_changes_75
  obtain ⟨v, h1, h2⟩ := lp_run (z := fun _ _ _ _ _ _ _ => none) (F := fun rec => fb_X9_changes_75 k rec) (fun u (v : Int32 × Int32) i => u (nI s) (nI p) (enc m) v.1 v.2 (nI i) y) P (fun v => f_X9_changes_147 k (nI s) (nI p) (enc m) v.1 v.2 y) (fun i v => v = (nI (unN (y 106) g i), bI (!exF (y 106) i p))) (fun u i v hi hI => by
    refine ⟨_, rfl, ?_⟩
    subst hI
    unfold fb_X9_changes_75 f_X9_changes_115 f_X9_changes_138 f_X9_changes_139
    rw [m_r3, hW.2.2.1, if_neg (nI_ge hi (by omega)), ald_nI (by omega) (by omega), ix_40, ald_nI (by omega) (by omega), lv_s, lv_s, ald_nI (by omega) (by omega), hg i (by omega), nI_1, nI_1, show nI (unN (y 106) g i) + (0:Int32) = nI (unN (y 106) g i) from Int32.add_zero _, unN, exF]
    cases hx : exF (y 106) i p with
    | true =>
      by_cases e : y 106 i = g i
      · rw [if_neg (fun z => z e), if_pos e, Nat.add_zero, if_pos (show bI (!true) = 0 from rfl)]; rfl
      · rw [if_pos e, if_neg e, if_pos (show bI (!true) = 0 from rfl)]; rfl
    | false =>
      by_cases e2 : y 106 i = nI p
      · rw [decide_eq_true e2]
        by_cases e : y 106 i = g i
        · rw [if_neg (fun z => z e), if_pos e, if_neg (show ¬ bI (!false) = 0 by decide), ald_nI (by omega) (by omega), if_pos e2]; rfl
        · rw [if_pos e, if_neg e, if_neg (show ¬ bI (!false) = 0 by decide), if_pos e2]; rfl
      · rw [decide_eq_false e2]
        by_cases e : y 106 i = g i
        · rw [if_neg (fun z => z e), if_pos e, if_neg (show ¬ bI (!false) = 0 by decide), ald_nI (by omega) (by omega), if_neg e2]; rfl
        · rw [if_pos e, if_neg e, if_neg (show ¬ bI (!false) = 0 by decide), if_neg e2]; rfl) (fun u v hI => by
    unfold fb_X9_changes_75
    rw [m_r3, hW.2.2.1, if_pos (nI_le (Nat.le_refl _) (by omega))]) (by omega) (0, 1) rfl
  refine Eq.trans (h2 : _ = _) ?_
  rw [h1]
  dsimp only
  unfold f_X9_changes_147 f_X9_changes_167 f_X9_changes_162 f_X9_changes_168
  cases hx : exF (y 106) P p with
  | true => rw [if_pos (show bI (!true) = 0 from rfl), if_pos rfl]
  | false =>
    rw [if_neg (show ¬ bI (!false) = 0 by decide), if_neg Bool.false_ne_true]
    unfold enc
    by_cases e6 : m = 6
    · rw [if_pos e6, if_pos (by decide), if_neg (by omega), show min m (unN (y 106) g P) = unN (y 106) g P by omega]
    · rw [if_neg e6, if_neg (nI_pos (by omega))]
      by_cases e : m ≤ unN (y 106) g P
      · rw [if_pos (nI_le e (by omega)), show min m (unN (y 106) g P) = m by omega, if_neg e6]
      · rw [if_neg (nI_ge (by omega) (by omega)), show min m (unN (y 106) g P) = unN (y 106) g P by omega, if_neg (by omega)]
theorem cy_changes {P Q s p : Nat} {g : Nat → Int32} (hs : s < 4) (hp : p < 6) : ∀ (L : List Rp) (y : Wd) (m fuel : Nat), m ≤ 6 → WF (y 101) P Q → (∀ j, j < 40 → y 112 (40 * s + j) = g j) → YP y P Q L → L.length < fuel → ∃ y', lp (fun _ _ _ _ _ => none) (fun rec => fb_X9_changes_61 rec) fuel (nI s) (nI p) (enc m) (bI (!L.isEmpty)) y = f_X9_changes_178 (enc (mnF g (p + 1) m L)) y' ∧ FY y y' := by
  intro L
  induction L with
  | nil =>
    intro y m fuel hm hW hg h h2
    obtain ⟨f, rfl⟩ : ∃ f, fuel = f + 1 := ⟨fuel - 1, by omega⟩
    have e : ∀ u, fb_X9_changes_61 u (nI s) (nI p) (enc m) (bI (!([] : List Rp).isEmpty)) y = f_X9_changes_178 (enc m) y := fun u => by
      unfold fb_X9_changes_61
      rw [if_pos (show bI (!([] : List Rp).isEmpty) = 0 from rfl)]
    rw [lp_s]
    exact ⟨y, e _, fun _ _ => rfl⟩
  | cons rp L ih =>
    intro y m fuel hm hW hg h h2
    obtain ⟨f, rfl⟩ : ∃ f, fuel = f + 1 := ⟨fuel - 1, by omega⟩
    rw [List.length_cons] at h2
    rcases h with z | ⟨r', L', e, g4, g5⟩
    · exact absurd z (by simp)
    · obtain ⟨rfl, rfl⟩ := List.cons.inj e
      obtain ⟨y1, k1, k2, k3⟩ := y_isNext hW g5
      have hR := ulR_un (g := g) g4.1
      have hC := hasC_ex (b := p) (by omega) g4.1
      rw [g4.2.2] at hR hC
      have hle : (if hasC rp (p + 1) = true then m else min m (ulR g rp)) ≤ 6 := by
        split
        · exact hm
        · omega
      obtain ⟨y', j1, j2⟩ := ih y1 (if hasC rp (p + 1) = true then m else min m (ulR g rp)) f hle (by rw [k2 101 (by omega)]; exact hW) (fun j hj => by rw [k2 112 (by omega)]; exact hg j hj) k3 (by omega)
      have e1 : ∀ k, fb_X9_changes_61 k (nI s) (nI p) (enc m) (bI (!(rp :: L).isEmpty)) y = k (nI s) (nI p) (enc (if hasC rp (p + 1) = true then m else min m (ulR g rp))) (bI (!L.isEmpty)) y1 := fun k => by
        unfold fb_X9_changes_61
        rw [if_neg (show ¬ bI (!(rp :: L).isEmpty) = 0 from fun z => absurd z (by rw [List.isEmpty_cons]; decide)), cy_row hW hs hp hm hg, k1, bd_s, hR, hC]
      rw [lp_s]
      exact ⟨y', (e1 _).trans j1, FY_trans k2 j2⟩
/-- castings without a player -/
theorem comp_filter {ok0 okw : Rp → Nat → Bool} {c : Nat} (H : ∀ rp k, k < 7 → okw rp k = (ok0 rp k && !decide (k = c))) : ∀ (n : Nat) (rp : Rp), (hasC rp c = false → comp okw n rp = (comp ok0 n rp).filter (fun r => !hasC r c)) ∧ (hasC rp c = true → (comp ok0 n rp).filter (fun r => !hasC r c) = [])
  | 0, rp => by
    constructor
    · intro h
      show [rp] = _
      rw [comp, List.filter_cons_of_pos (by rw [h]; rfl)]
      rfl
    · intro h
      rw [comp, List.filter_cons_of_neg (by rw [h]; decide)]
      rfl
  | n + 1, rp => by
    have ih := comp_filter H n
    constructor
    · intro h
      have key : ∀ d t, t + d = 7 → lev okw n rp t = (lev ok0 n rp t).filter (fun r => !hasC r c) := by
        intro d
        induction d with
        | zero => intro t ht; rw [lev_7 (by omega), lev_7 (by omega)]; rfl
        | succ d ihd =>
          intro t ht
          rw [lev_step (by omega), lev_step (ok := ok0) (by omega), List.filter_append, ihd (t + 1) (by omega), H rp t (by omega)]
          congr 1
          by_cases e : t = c
          · have hh : hasC (t :: rp) c = true := by
              show (decide (t = c) || _) = true
              rw [decide_eq_true e]; rfl
            rw [decide_eq_true e, if_neg (by simp)]
            cases ok0 rp t with
            | true => rw [if_pos rfl, (ih (t :: rp)).2 hh]
            | false => rfl
          · have hh : hasC (t :: rp) c = false := by
              show (decide (t = c) || _) = false
              rw [decide_eq_false e, h]; rfl
            rw [decide_eq_false e, Bool.not_false, Bool.and_true]
            cases ok0 rp t with
            | true => rw [if_pos rfl, if_pos rfl, (ih (t :: rp)).1 hh]
            | false => rfl
      exact key 7 0 (by omega)
    · intro h
      have key : ∀ d t, t + d = 7 → (lev ok0 n rp t).filter (fun r => !hasC r c) = [] := by
        intro d
        induction d with
        | zero => intro t ht; rw [lev_7 (by omega)]; rfl
        | succ d ihd =>
          intro t ht
          rw [lev_step (ok := ok0) (by omega), List.filter_append, ihd (t + 1) (by omega), List.append_nil]
          have hh : hasC (t :: rp) c = true := by
            show (decide (t = c) || _) = true
            rw [h, Bool.or_true]
          cases ok0 rp t with
          | true => rw [if_pos rfl, (ih (t :: rp)).2 hh]
          | false => rfl
      exact key 7 0 (by omega)
theorem comp_but {r : Rw} {P Q p : Nat} (hp : p < 6) : comp (okE (mbE r Q ((1:Int32) <<< (nI p &&& 31))) (alE r)) P [] = (comp (okE (mbE r Q 0) (alE r)) P []).filter (fun r => !hasC r (p + 1)) := by
  refine (comp_filter (fun rp k hk => ?_) P []).1 rfl
  unfold okE mbE
  by_cases e : k = 0
  · subst e
    rw [if_pos rfl, if_pos rfl, decide_eq_false (by omega)]
    simp
  · rw [if_neg e, if_neg e, b_sh1 (by omega) (by omega), b_0]
    by_cases e2 : k = p + 1
    · rw [decide_eq_true e2, decide_eq_true (by omega : k - 1 = p)]; simp
    · rw [decide_eq_false e2, decide_eq_false (by omega : ¬ k - 1 = p)]
      simp
theorem st_changes : St_changes Rel := by
  intro n x y p1 p2 hn h
  unfold f_X8_changes f_X9_changes f_X8_changes_24 f_X9_changes_15 f_X8_changes_54 f_X9_changes_46
  rw [m_isSheet, bd_s, bI_ite0]
  by_cases c : 0 ≤ p1 ∧ p1 ≤ 3
  · obtain ⟨s, hs, rfl⟩ := (in_nI (N := 3) (by omega)).mp c
    obtain ⟨⟨r1, r1'⟩, ⟨l, l1, l2, l3⟩, r3⟩ := h.2.2.2.1 s (by omega)
    obtain ⟨P, Q, n', hn', hS⟩ := SR_of h
    have hS0 := hS
    obtain ⟨hR, hW, hl0, hl1, h0⟩ := hS
    have hP := hW.1
    have hQ := hW.2.1
    rw [dT c, x_sheetAt_ok (by omega), bd_s, oc_sh (by omega), x_hasPlayer hR.1.2.1 hQ, m_isPlayer hQ hW.2.2.2.1, bd_s, bd_s, bI_ite1, bI_ite1]
    by_cases d1 : 0 ≤ p2 ∧ p2 ≤ nI Q - 1
    · obtain ⟨p, hp, rfl⟩ := (le_pred (N := Q) (by omega)).mp d1
      rw [dT d1, dT d1, x_isMissing, bd_s, bI_ite1, ald_nI (by omega) (by omega), r1]
      by_cases c0 : y 110 s = 0
      · rw [dT c0, if_pos c0]
        exact st_fail h 2 _ _ (by omega) rfl (by decide)
      · rw [dF c0, if_neg c0, ald_nI (by omega) (by omega), m_r3, l2, l3, hW.2.2.1, show x 2 0 = nI P from hR.1.1]
        by_cases e : nI l = nI P
        · rw [if_pos e, if_pos e]
          obtain ⟨xa, a1, a2, a3⟩ := x_begin (Or.inl rfl) hR hW ((1:Int32) <<< (nI p &&& 31))
          have hlen := comp_lenP (ok := okE (mbE (y 101) Q ((1:Int32) <<< (nI p &&& 31))) (alE (y 101))) hP
          have hlen2 := comp_lenP (ok := okY y Q) hP
          obtain ⟨x1, b1, b2⟩ := cx_changes (g := x (72 + 2 * s)) hP hQ (by omega : s < 4) _ xa 0 6 FU (by omega) (fun j hj => by rw [a2 _ (by omega) (by omega) (by omega) (by omega) (by omega) (by omega)]) a3 (by omega) (FU_lt (by omega))
          obtain ⟨y1, c1, c2, c3⟩ := y_isFirst hW
          obtain ⟨y2, d1', d2⟩ := cy_changes (g := x (72 + 2 * s)) (by omega : s < 4) (by omega : p < 6) (comp (okY y Q) P []) y1 6 FU (by omega) (by rw [c2 101 (by omega)]; exact hW) (fun j hj => by rw [c2 112 (by omega)]; exact (r3 j hj).symm) c3 (FU_lt (by omega))
          have hFY := FY_trans c2 d2
          have hFC := FC_trans a2 b2
          have hRel : Rel n x1 y2 := Rel_live h (SR_search (Or.inl rfl) hS0 hFC hFY) hn' (FXt_of hFC) (FYk_n (FYn_of hFY)) (fun i _ => by rw [hFY 101 (by omega)])
          have em : mnF (x (72 + 2 * s)) (p + 1) 6 (comp (okY y Q) P []) = mnL (x (72 + 2 * s)) 6 (comp (okE (mbE (y 101) Q ((1:Int32) <<< (nI p &&& 31))) (alE (y 101))) P []) := by
            rw [mnF_eq, comp_but (by omega)]
          have hle := mnL_le (x (72 + 2 * s)) 6 (comp (okE (mbE (y 101) Q ((1:Int32) <<< (nI p &&& 31))) (alE (y 101))) P [])
          have eX : f_X8_changes_84 (71 + 2 * s) 6 0 xa = _ := b1
          have eY : f_X9_changes_61 (nI s) (nI p) (-1) (bI (!(comp (okY y Q) P []).isEmpty)) y1 = _ := d1'
          rw [a1, bd_s, c1, bd_s]
          dsimp only
          rw [eX, eY, em]
          generalize mnL (x (72 + 2 * s)) 6 (comp (okE (mbE (y 101) Q ((1:Int32) <<< (nI p &&& 31))) (alE (y 101))) P []) = m at hle
          unfold f_X8_changes_130 f_X9_changes_178 enc
          by_cases e6 : m = 6
          · subst e6
            rw [if_pos (by decide), if_pos rfl, if_neg (by decide)]
            exact st_fail hRel 2 _ _ (by omega) rfl (by decide)
          · rw [if_neg (show ¬ (5:Int32) < nI m from nI_nlt (b := m) (a := 5) (by omega) (by omega)), if_neg e6, if_pos (nI_pos' (by omega))]
            exact Rel_same hRel rfl rfl
        · rw [if_neg e, if_neg e]
          exact st_fail h 2 _ _ (by omega) rfl (by decide)
    · rw [dF d1, dF d1]
      exact st_fail h 1 _ _ (by omega) rfl (by decide)
  · rw [dF c, x_sheetAt_no c, bd_s, oc_n]
    exact st_fail h 1 _ _ (by omega) rfl (by decide)
end CG
