section ID
def hasC : Rp → Nat → Bool
  | [], _ => false
  | k :: rest, c => decide (k = c) || hasC rest c
def exF (f : Nat → Int32) : Nat → Nat → Bool
  | 0, _ => false
  | i + 1, b => exF f i b || decide (f i = nI b)
theorem cd_eq {k b : Nat} (hk : k < 1000) (hb : b < 999) : (nI k - 1 = nI b) = (k = b + 1) := propext ⟨fun h => by rw [← cd_succ b] at h; exact cd_inj hk (by omega) h, fun h => by subst h; exact cd_succ b⟩
theorem hasC_ex {f : Nat → Int32} {b : Nat} (hb : b < 999) : ∀ {r : Rp}, RW f r → hasC r (b + 1) = exF f r.length b
  | [], _ => rfl
  | k :: rest, ⟨h1, h2, h3⟩ => by
    show (decide (k = b + 1) || hasC rest (b + 1)) = (exF f rest.length b || decide (f rest.length = nI b))
    rw [hasC_ex hb h3, h1, Bool.or_comm]
    simp only [cd_eq (by omega : k < 1000) hb]
theorem x_whoPlay {x : Wd} {P Q : Nat} (h5 : x 58 5 = nI P) (hP : P ≤ 5) (hQ : Q ≤ 6) (hRF : RF (x 59) P Q) : ∃ v, f_X1_whoPlay x = some v ∧ ∀ b, b < 32 → bt v b = exF (x 59) P b := by
  unfold f_X1_whoPlay f_X1_whoPlay_4
  obtain ⟨v, h1, h2⟩ := lp_run (z := fun _ _ => none) (F := fun rec => fb_X1_whoPlay_4 x rec) (fun g (v : Int32) i => g v (nI i)) P some (fun i v => ∀ b, b < 32 → bt v b = exF (x 59) i b) (fun g i v hi hI => by
    unfold fb_X1_whoPlay_4 f_X1_whoPlay_32
    rw [h5, if_neg (nI_ge hi (by omega)), ald_nI (by omega) (by omega), ald_nI (by omega) (by omega), nI_1]
    rcases hRF i hi with hf | ⟨q, hq, hf⟩
    · refine ⟨v, fun b hb => ?_, by rw [hf, if_pos (by decide)]⟩
      rw [hI b hb, exF, hf, decide_eq_false (neg1 (by omega)), Bool.or_false]
    · refine ⟨_, fun b hb => ?_, by rw [hf, if_neg (nI_pos (by omega)), lv_s]⟩
      rw [b_or, hI b hb, b_sh1 (by omega) hb, exF, hf]
      have : (b = q) = (nI q = nI b) := propext ⟨fun z => by rw [z], fun z => by rw [nI_eq (by omega) (by omega)] at z; exact z.symm⟩
      simp only [this]) (fun g v hI => by
    unfold fb_X1_whoPlay_4
    rw [h5, if_pos (nI_le (Nat.le_refl _) (by omega))]) (by omega) 0 (fun b hb => by rw [b_0]; rfl)
  exact ⟨v, h2, h1⟩
theorem XN_RF {x : Wd} {P Q : Nat} {r : Rw} {w : Int32} {al : Nat → Bool} {rp : Rp} (h : XN x P (mbE r Q w) al rp) : RF (x 59) P Q := RF_of h.2.2.2.1 h.2.2.1 h.2.1
theorem cx_idle {P Q : Nat} {r : Rw} {w : Int32} {al : Nat → Bool} (hP : P ≤ 5) (hQ : Q ≤ 6) : ∀ (L : List Rp) (x : Wd) (c : Nat) (v : Int32) (fuel : Nat), XF x P (mbE r Q w) al L → c + L.length < 1000000 → L.length < fuel → ∃ v' x', lp (fun _ _ _ => none) (fun rec => fb_X8_idle_28 rec) fuel v (nI c) x = some (v', x') ∧ FC x x' ∧ ∀ b, b < 32 → bt v' b = (bt v b && L.all (fun r => !hasC r (b + 1))) := by
  intro L
  induction L with
  | nil =>
    intro x c v fuel h h1 h2
    obtain ⟨f, rfl⟩ : ∃ f, fuel = f + 1 := ⟨fuel - 1, by omega⟩
    obtain ⟨x', g1, g2, -⟩ := x_goesOn hP (mbE_7 hQ) h
    have e0 : bI (!([] : List Rp).isEmpty) = 0 := rfl
    rw [e0] at g1
    rw [List.length_nil] at h1
    have hs : ∀ b, b < 32 → bt v b = (bt v b && ([] : List Rp).all (fun r => !hasC r (b + 1))) := fun b _ => by simp
    rw [lp_s]
    by_cases hv : v = 0
    · have e : ∀ u, fb_X8_idle_28 u v (nI c) x = some (v, x) := fun u => by
        unfold fb_X8_idle_28
        rw [show (1000000:Int32) = nI 1000000 from rfl, if_neg (nI_ge (by omega) (by omega)), if_pos hv]
      exact ⟨v, x, e _, fun _ _ _ _ _ _ _ => rfl, hs⟩
    · have e : ∀ u, fb_X8_idle_28 u v (nI c) x = some (v, x') := fun u => by
        unfold fb_X8_idle_28
        rw [show (1000000:Int32) = nI 1000000 from rfl, if_neg (nI_ge (by omega) (by omega)), if_neg hv, g1, bd_s, if_pos rfl]
      exact ⟨v, x', e _, g2, hs⟩
  | cons rp L ih =>
    intro x c v fuel h h1 h2
    obtain ⟨f, rfl⟩ : ∃ f, fuel = f + 1 := ⟨fuel - 1, by omega⟩
    rw [List.length_cons] at h1 h2
    rw [lp_s]
    by_cases hv : v = 0
    · have e : ∀ u, fb_X8_idle_28 u v (nI c) x = some (v, x) := fun u => by
        unfold fb_X8_idle_28
        rw [show (1000000:Int32) = nI 1000000 from rfl, if_neg (nI_ge (by omega) (by omega)), if_pos hv]
      exact ⟨v, x, e _, fun _ _ _ _ _ _ _ => rfl, fun b _ => by rw [hv, b_0]; rfl⟩
    · obtain ⟨x1, g1, g2, g3⟩ := x_goesOn hP (mbE_7 hQ) h
      rcases g3 with z | ⟨r', L', e, g4, g5⟩
      · exact absurd z (by simp)
      · obtain ⟨rfl, rfl⟩ := List.cons.inj e
        obtain ⟨u, u1, u2⟩ := x_whoPlay g4.1.1 hP hQ (XN_RF g4)
        have e1 : ∀ k, fb_X8_idle_28 k v (nI c) x = k (v &&& (u ^^^ (-1:Int32))) (nI (c + 1)) x1 := fun k => by
          unfold fb_X8_idle_28
          rw [show (1000000:Int32) = nI 1000000 from rfl, if_neg (nI_ge (by omega) (by omega)), if_neg hv, g1, bd_s]
          dsimp only
          rw [if_neg (show ¬ bI (!(rp :: L).isEmpty) = 0 from fun z => absurd z (by rw [List.isEmpty_cons]; decide)), u1, bd_s, lv_s, nI_1]
        obtain ⟨v', x', k1, k2, k3⟩ := ih x1 (c + 1) (v &&& (u ^^^ (-1:Int32))) f g5 (by omega) (by omega)
        refine ⟨v', x', (e1 _).trans k1, FC_trans g2 k2, fun b hb => ?_⟩
        rw [k3 b hb, b_and, b_not _ hb, u2 b hb, List.all_cons, hasC_ex (by omega) g4.2.2.1, g4.2.1, Bool.and_assoc]
theorem cy_idle {P Q : Nat} : ∀ (L : List Rp) (y : Wd) (v : Int32) (fuel : Nat), WF (y 101) P Q → YP y P Q L → L.length < fuel → ∃ v' y', lp (fun _ _ _ => none) (fun rec => fb_X9_idle_17 rec) fuel v (bI (!L.isEmpty)) y = some (v', y') ∧ FY y y' ∧ ∀ b, b < 32 → bt v' b = (bt v b && L.all (fun r => !hasC r (b + 1))) := by
  intro L
  induction L with
  | nil =>
    intro y v fuel hW h h2
    obtain ⟨f, rfl⟩ : ∃ f, fuel = f + 1 := ⟨fuel - 1, by omega⟩
    have e : ∀ u, fb_X9_idle_17 u v (bI (!([] : List Rp).isEmpty)) y = some (v, y) := fun u => by
      unfold fb_X9_idle_17
      rw [if_pos (show bI (!([] : List Rp).isEmpty) = 0 from rfl)]
    rw [lp_s]
    exact ⟨v, y, e _, fun _ _ => rfl, fun b _ => by simp⟩
  | cons rp L ih =>
    intro y v fuel hW h h2
    obtain ⟨f, rfl⟩ : ∃ f, fuel = f + 1 := ⟨fuel - 1, by omega⟩
    rw [List.length_cons] at h2
    have hP := hW.1
    have hQ := hW.2.1
    rcases h with z | ⟨r', L', e, g4, g5⟩
    · exact absurd z (by simp)
    · obtain ⟨rfl, rfl⟩ := List.cons.inj e
      have hRF : RF (y 106) P Q := RF_of g4.2.1 g4.1 g4.2.2
      obtain ⟨y1, k1, k2, k3⟩ := y_isNext hW g5
      have hin : ∀ k, ∃ u, f_X9_idle_23 k v 0 y = k u (bI (!L.isEmpty)) y1 ∧ ∀ b, b < 32 → bt u b = (bt v b && !exF (y 106) P b) := fun k => by
        unfold f_X9_idle_23
        obtain ⟨u, h1, h2⟩ := lp_run (z := fun _ _ _ => none) (F := fun rec => fb_X9_idle_23 k rec) (fun g (u : Int32) i => g u (nI i) y) P (fun u => k u (bI (!L.isEmpty)) y1) (fun i u => ∀ b, b < 32 → bt u b = (bt v b && !exF (y 106) i b)) (fun g i u hi hI => by
          unfold fb_X9_idle_23 f_X9_idle_57
          rw [m_r3, hW.2.2.1, if_neg (nI_ge hi (by omega)), ald_nI (by omega) (by omega), ald_nI (by omega) (by omega), nI_1, lv_s, lv_s]
          rcases hRF i hi with hf | ⟨q, hq, hf⟩
          · refine ⟨_, fun b hb => ?_, by rw [hf, if_pos (by decide)]⟩
            rw [b_and, hI b hb, b_m1 b hb, exF, hf, decide_eq_false (neg1 (by omega)), Bool.or_false, Bool.and_true]
          · refine ⟨_, fun b hb => ?_, by rw [hf, if_neg (nI_pos (by omega))]⟩
            rw [b_and, hI b hb, b_not _ hb, b_sh1 (by omega) hb, exF, hf]
            have : (b = q) = (nI q = nI b) := propext ⟨fun z => by rw [z], fun z => by rw [nI_eq (by omega) (by omega)] at z; exact z.symm⟩
            simp only [this, Bool.not_or, Bool.and_assoc]) (fun g u hI => by
          unfold fb_X9_idle_23 f_X9_idle_65
          rw [m_r3, hW.2.2.1, if_pos (nI_le (Nat.le_refl _) (by omega)), k1, bd_s]) (by omega) v (fun b hb => by simp [exF])
        exact ⟨u, h2, h1⟩
      rw [lp_s]
      obtain ⟨u, u1, u2⟩ := hin (lp (fun _ _ _ => none) (fun rec => fb_X9_idle_17 rec) f)
      obtain ⟨v', y', j1, j2, j3⟩ := ih y1 u f (by rw [k2 101 (by omega)]; exact hW) k3 (by omega)
      have e1 : ∀ k, fb_X9_idle_17 k v (bI (!(rp :: L).isEmpty)) y = f_X9_idle_23 k v 0 y := fun k => by
        unfold fb_X9_idle_17
        rw [if_neg (show ¬ bI (!(rp :: L).isEmpty) = 0 from fun z => absurd z (by rw [List.isEmpty_cons]; decide))]
      refine ⟨v', y', (e1 _).trans (u1.trans j1), FY_trans k2 j2, fun b hb => ?_⟩
      rw [j3 b hb, u2 b hb, List.all_cons, hasC_ex (by omega) g4.1, g4.2.2, Bool.and_assoc]
theorem st_idle : St_idle Rel := by
  intro n x y hn h
  obtain ⟨P, Q, n', hn', hS⟩ := SR_of h
  have hS0 := hS
  obtain ⟨hR, hW, hl0, hl1, h0⟩ := hS
  obtain ⟨xa, a1, a2, a3⟩ := x_begin (Or.inl rfl) hR hW 0
  have hlen := comp_lenP (ok := okY y Q) hW.1
  obtain ⟨v1, x1, b1, b2, b3⟩ := cx_idle hW.1 hW.2.1 (comp (okY y Q) P []) xa 0 (((1:Int32) <<< (nI Q &&& 31)) - 1) FU a3 (by omega) (FU_lt (by omega))
  obtain ⟨y1, c1, c2, c3⟩ := y_isFirst hW
  obtain ⟨v2, y2, d1, d2, d3⟩ := cy_idle (comp (okY y Q) P []) y1 (((1:Int32) <<< (nI Q &&& 31)) - 1) FU (by rw [c2 101 (by omega)]; exact hW) c3 (FU_lt (by omega))
  have hFY := FY_trans c2 d2
  have ev : v2 = v1 := b_ext (fun b hb => by rw [b3 b hb, d3 b hb])
  refine ⟨v1, x1, y2, ?_, ?_, Rel_mono _ _ _ (Rel_live h (SR_search (Or.inl rfl) hS0 (FC_trans a2 b2) hFY) hn' (FXt_of (FC_trans a2 b2)) (FYk_n (FYn_of hFY)) (fun i _ => by rw [hFY 101 (by omega)]))⟩
  · unfold f_X8_idle f_X6_allPlayers
    rw [hR.1.2.1, bd_s, a1, bd_s]
    exact b1
  · unfold f_X9_idle
    rw [m_r8, hW.2.2.2.1, lv_s, c1, bd_s, ← ev]
    exact d1
end ID
