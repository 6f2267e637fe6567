section XG
def LgX (k : Nat) : Int32 → Wd → Option (Int32 × Wd) := lp (fun _ _ => none) (fun rec => fb_X1_goesOn_24 rec) k
theorem LgX_s (k : Nat) : LgX (k + 1) = fb_X1_goesOn_24 (LgX k) := rfl
theorem x_stopF {g : Int32 → Wd → Option (Int32 × Wd)} {c P : Nat} {x : Wd} (hc : c < 1000000) (hP : P ≤ 5) (h6 : x 58 6 = nI P) (h5 : x 58 5 = nI P) : fb_X1_goesOn_24 g (nI c) x = some (1, x) := by
  unfold fb_X1_goesOn_24 f_X1_goesOn_58
  rw [show (1000000:Int32) = nI 1000000 from rfl, if_neg (nI_ge hc (by omega)), h6, if_neg (nI_pos (by omega)), h5, if_pos (nI_le (Nat.le_refl _) (by omega)), if_neg (fun z => z rfl)]
theorem x_stopE {g : Int32 → Wd → Option (Int32 × Wd)} {c P : Nat} {x : Wd} (hc : c < 1000000) (hP : P ≤ 5) (h6 : x 58 6 = -1) (h5 : x 58 5 = nI P) : fb_X1_goesOn_24 g (nI c) x = some (0, x) := by
  unfold fb_X1_goesOn_24 f_X1_goesOn_58
  rw [show (1000000:Int32) = nI 1000000 from rfl, if_neg (nI_ge hc (by omega)), h6, if_pos (by decide), h5, if_pos (show ¬ (-1 : Int32) = nI P from fun z => absurd (show (-1 : Int32) < 0 by decide) (by rw [z]; exact nI_pos (by omega)))]
theorem x_cont {g : Int32 → Wd → Option (Int32 × Wd)} {c a P : Nat} {x : Wd} (hc : c < 1000000) (hP : P ≤ 5) (h6 : x 58 6 = nI a) (h5 : x 58 5 = nI P) (ha : a < P) : fb_X1_goesOn_24 g (nI c) x = bd (f_X1_step x) (fun q1 => g (nI (c + 1)) q1) := by
  unfold fb_X1_goesOn_24
  rw [show (1000000:Int32) = nI 1000000 from rfl, if_neg (nI_ge hc (by omega)), h6, if_neg (nI_pos (by omega)), h5, if_neg (nI_ge ha (by omega)), nI_1]
theorem x_go {P : Nat} {mb : Nat → Nat → Bool} {al : Nat → Bool} (hP : P ≤ 5) (hmb : ∀ p i, mb p i = true → i < 7) : ∀ (m : Nat) (rp : Rp) (t : Nat) (x : Wd) (c f : Nat), XC x P mb al rp t → rp.length < P → muE P rp t ≤ m → c + m < 1000000 → ∃ x', LgX (f + m + 1) (nI c) x = some (bI (!(SE (okE mb al) P rp t).isEmpty), x') ∧ FX x x' ∧ (SE (okE mb al) P rp t = [] ∨ ∃ r, SE (okE mb al) P rp t = r :: upE (okE mb al) P r ∧ XN x' P mb al r ∧ muU P r < m) := by
  intro m
  induction m with
  | zero =>
    intro rp t x c f hC hlt hmu hc
    have := mu_none (P := P) (rp := rp) (t := t)
    omega
  | succ m ih =>
    intro rp t x c f hC hlt hmu hc
    rw [LgX_s, x_cont (by omega) hP hC.2.1 hC.1.1 hlt]
    rcases x_step hP hmb hC hlt with ⟨k, x1, h1, h2, h3, h4, e1, hF, h6, hm, hfo⟩ | ⟨hno, x1, e1, hF, h6, hpop⟩
    · rw [e1, bd_s]
      by_cases q : rp.length + 1 < P
      · have hmu2 := mu_more (P := P) (rp := rp) h1 h2 q 0
        rw [SE_more h1 h2 h3 h4 q]
        obtain ⟨x2, g1, g2, g3⟩ := ih (k :: rp) 0 x1 (c + 1) f (hm q) (by rw [List.length_cons]; exact q) (by omega) (by omega)
        refine ⟨x2, g1, FX_trans hF g2, ?_⟩
        rcases g3 with g | ⟨r, r1, r2, r3⟩
        · exact Or.inl g
        · exact Or.inr ⟨r, r1, r2, by omega⟩
      · have hlen : rp.length + 1 = P := by omega
        have hN := hfo hlen
        refine ⟨x1, ?_, hF, Or.inr ⟨k :: rp, SE_found h1 h2 h3 h4 hlen, hN, ?_⟩⟩
        · rw [show f + (m + 1) = f + m + 1 by omega, LgX_s, x_stopF (by omega) hP (by rw [h6, hlen]) hN.1.1, SE_found h1 h2 h3 h4 hlen]
          rfl
        · have := mu_found (P := P) (rp := rp) h1 h2
          omega
    · rw [e1, bd_s, SE_none hno]
      cases rp with
      | nil =>
        refine ⟨x1, ?_, hF, Or.inl rfl⟩
        rw [show f + (m + 1) = f + m + 1 by omega, LgX_s, x_stopE (by omega) hP (by rw [h6]; decide) (by rw [hF.2.2]; exact hC.1.1)]
        rfl
      | cons k rest =>
        have hC1 := hpop k rest rfl
        rw [List.length_cons] at hlt
        have hmu2 : muE P rest (k + 1) ≤ m := by
          rw [mu_pop]
          have := mu_none (P := P) (rp := k :: rest) (t := t)
          omega
        obtain ⟨x2, g1, g2, g3⟩ := ih rest (k + 1) x1 (c + 1) f hC1 (by omega) hmu2 (by omega)
        refine ⟨x2, g1, FX_trans hF g2, ?_⟩
        rcases g3 with g | ⟨r, r1, r2, r3⟩
        · exact Or.inl g
        · exact Or.inr ⟨r, r1, r2, by omega⟩
def FC (x x' : Wd) : Prop := ∀ c, c ≠ 58 → c ≠ 59 → c ≠ 60 → c ≠ 61 → c ≠ 62 → c ≠ 63 → x' c = x c
/-- what is still to come -/
def XF (x : Wd) (P : Nat) (mb : Nat → Nat → Bool) (al : Nat → Bool) (L : List Rp) : Prop :=
  (x 58 7 = 1 ∧ L = comp (okE mb al) P [] ∧ XB x P mb al ∧ x 58 6 = nI 0 ∧ XL al (okE mb al) (x 61) (x 63) [] ∧ (0 < P → ∀ i, i < 32 → bt (x 61 0) i = (decide (0 ≤ i ∧ i < 7) && okE mb al [] i))) ∨
  (x 58 7 = 0 ∧ ∃ rp, XN x P mb al rp ∧ muU P rp ≤ 30000 ∧ L = upE (okE mb al) P rp)
theorem x_goesOn {P : Nat} {mb : Nat → Nat → Bool} {al : Nat → Bool} {x : Wd} {L : List Rp} (hP : P ≤ 5) (hmb : ∀ p i, mb p i = true → i < 7) (h : XF x P mb al L) : ∃ x', f_X1_goesOn x = some (bI (!L.isEmpty), x') ∧ FC x x' ∧ (L = [] ∨ ∃ r L', L = r :: L' ∧ XN x' P mb al r ∧ XF x' P mb al L') := by
  obtain ⟨f, hf⟩ : ∃ f, FU = f + 30000 + 1 := ⟨1969999, rfl⟩
  have eL : f_X1_goesOn_24 = LgX (f + 30000 + 1) := by rw [← hf]; rfl
  unfold f_X1_goesOn f_X1_goesOn_17
  rcases h with ⟨h7, rfl, hB, h6, hL, hb⟩ | ⟨h7, rp, hN, hmu, rfl⟩
  · rw [h7, if_pos (by decide), wl_s, eL]
    have hB' : XB (updW x 58 7 0) P mb al := ⟨by rw [updW_place (by omega)]; exact hB.1, fun p hp => by rw [updW_cell (by omega), updW_cell (by omega)]; exact hB.2 p hp⟩
    have hL' : XL al (okE mb al) (updW x 58 7 0 61) (updW x 58 7 0 63) [] := by rw [updW_cell (by omega), updW_cell (by omega)]; exact hL
    by_cases hz : P = 0
    · subst hz
      refine ⟨updW x 58 7 0, ?_, fun c a1 a2 a3 a4 a5 a6 => updW_cell a1, Or.inr ⟨[], [], rfl, ⟨hB', rfl, trivial, trivial, hL'⟩, Or.inr ⟨updW_self _ _ _ _, [], ⟨hB', rfl, trivial, trivial, hL'⟩, Nat.zero_le _, rfl⟩⟩⟩
      rw [LgX_s, show (0:Int32) = nI 0 from rfl, x_stopF (P := 0) (by omega) (by omega) (by rw [updW_place (by omega)]; exact h6) (by rw [updW_place (by omega)]; exact hB.1)]
      rfl
    · have hC : XC (updW x 58 7 0) P mb al [] 0 := ⟨hB', by rw [updW_place (by omega)]; exact h6, trivial, trivial, hL', fun i hi => by
        rw [updW_cell (by omega)]
        exact hb (by omega) i hi⟩
      obtain ⟨x2, g1, g2, g3⟩ := x_go hP hmb 30000 [] 0 _ 0 f hC (by show 0 < P; omega) (mu_start hP 0) (by omega)
      have e1 : comp (okE mb al) P [] = SE (okE mb al) P [] 0 := by
        rw [← comp_SE (n := P - 1) (by show P - 0 = _; omega), show P - 1 + 1 = P by omega]
        exact (List.append_nil _).symm
      rw [e1]
      refine ⟨x2, g1, fun c a1 a2 a3 a4 a5 a6 => by rw [g2.1 c a1 a2 a4 a6]; exact updW_cell a1, ?_⟩
      rcases g3 with g | ⟨r, r1, r2, r3⟩
      · exact Or.inl g
      · exact Or.inr ⟨r, _, r1, r2, Or.inr ⟨by rw [g2.2.1]; exact updW_self _ _ _ _, r, r2, by omega, rfl⟩⟩
  · rw [h7, if_neg (by decide), wl_s, wl_s, eL, hN.1.1]
    have hw : FX x (updW (updW x 58 6 (nI P - 1)) 58 7 0) → True := fun _ => trivial
    have hcell : ∀ c, c ≠ 58 → updW (updW x 58 6 (nI P - 1)) 58 7 0 c = x c := fun c hc => by rw [updW_cell hc, updW_cell hc]
    have h5' : updW (updW x 58 6 (nI P - 1)) 58 7 0 58 5 = nI P := by rw [updW_place (by omega), updW_place (by omega)]; exact hN.1.1
    have h6' : updW (updW x 58 6 (nI P - 1)) 58 7 0 58 6 = nI P - 1 := by rw [updW_place (by omega), updW_self]
    have h7' : updW (updW x 58 6 (nI P - 1)) 58 7 0 58 7 = 0 := updW_self _ _ _ _
    generalize updW (updW x 58 6 (nI P - 1)) 58 7 0 = x1 at hcell h5' h6' h7'
    have hB' : XB x1 P mb al := ⟨h5', fun p hp => by rw [hcell 60 (by omega), hcell 62 (by omega)]; exact hN.1.2 p hp⟩
    obtain ⟨hB, hlen, hRW, hGD, hXL⟩ := hN
    cases rp with
    | nil =>
      have hz : P = 0 := by rw [← hlen]; rfl
      subst hz
      refine ⟨x1, ?_, fun c a1 a2 a3 a4 a5 a6 => hcell c a1, Or.inl rfl⟩
      rw [LgX_s, show (0:Int32) = nI 0 from rfl, x_stopE (P := 0) (by omega) (by omega) (by rw [h6']; decide) h5']
      rfl
    | cons k rest =>
      rw [List.length_cons] at hlen
      have hC : XC x1 P mb al rest (k + 1) := ⟨hB', by rw [h6', ← hlen, nI_pred], by rw [hcell 59 (by omega)]; exact hRW.2.2, hGD.2, by rw [hcell 61 (by omega), hcell 63 (by omega)]; exact hXL.2.2, fun i hi => by rw [hcell 61 (by omega)]; exact hXL.1 i hi⟩
      obtain ⟨x2, g1, g2, g3⟩ := x_go hP hmb 30000 rest (k + 1) _ 0 f hC (by omega) (by rw [mu_pop]; exact hmu) (by omega)
      refine ⟨x2, g1, fun c a1 a2 a3 a4 a5 a6 => by rw [g2.1 c a1 a2 a4 a6]; exact hcell c a1, ?_⟩
      rcases g3 with g | ⟨r, r1, r2, r3⟩
      · exact Or.inl g
      · exact Or.inr ⟨r, _, r1, r2, Or.inr ⟨by rw [g2.2.1]; exact h7', r, r2, by omega, rfl⟩⟩
/-! the start of a search -/
def mbE (r : Rw) (Q : Nat) (w : Int32) (p k : Nat) : Bool := if k = 0 then emR r p else (!emR r p && decide (k ≤ Q) && mayR r (k - 1) p && !bt w (k - 1))
def alE (r : Rw) (p : Nat) : Bool := !emR r p && !dbR r p
theorem mbE_7 {r : Rw} {Q : Nat} {w : Int32} (hQ : Q ≤ 6) : ∀ p i, mbE r Q w p i = true → i < 7 := by
  intro p i h
  unfold mbE at h
  by_cases e : i = 0
  · omega
  · rw [if_neg e] at h
    by_cases e2 : i ≤ Q
    · omega
    · rw [decide_eq_false e2] at h
      simp at h
theorem nar_b (b : Bool) : vp_nar .boolean (bI b) = bI b := by cases b <;> decide
theorem x_begin {x : Wd} {t P Q : Nat} {r : Rw} (ht : t = 2 ∨ t = 49) (hR : RT x t r P Q) (hW : WF r P Q) (w : Int32) : ∃ x', f_X1_begin t w x = some x' ∧ FC x x' ∧ XF x' P (mbE r Q w) (alE r) (comp (okE (mbE r Q w) (alE r)) P []) := by
  have hP := hW.1
  have hQ := hW.2.1
  have ht' : isTr t = true := by rcases ht with rfl | rfl <;> rfl
  unfold f_X1_begin f_X1_begin_10
  rw [wl_s, hR.1.1]
  have hfin : ∀ s : Wd, s 58 5 = nI P → f_X1_begin_81 t s = some (updW (updW (updW (updW s 58 6 0) 58 7 1) 61 0 (s 60 0)) 63 0 0) := fun s hs => by
    unfold f_X1_begin_81
    rw [wl_s, wl_s, show (0:Int32) = nI 0 from rfl, ald_nI (by omega) (by omega), ast_nI (by omega) (by omega), ast_nI (by omega) (by omega), updW_cell (k := 58) (k' := 60) (by omega), updW_cell (k := 58) (k' := 60) (by omega)]
  obtain ⟨s, ⟨i1, i2, i3⟩, h4⟩ := lp_run (z := fun _ _ _ => none) (F := fun rec => fb_X1_begin_10 t rec) (fun g (s : Wd) i => g w (nI i) s) P (fun s => f_X1_begin_81 t s) (fun i s => (∀ c, c ≠ 58 → c ≠ 60 → c ≠ 62 → s c = x c) ∧ s 58 5 = nI P ∧ ∀ p, p < i → (∀ j, j < 32 → bt (s 60 p) j = mbE r Q w p j) ∧ s 62 p = bI (alE r p)) (fun g i s hi hI => by
    obtain ⟨i1, i2, i3⟩ := hI
    have hRs : RT s t r P Q := RT_congr ⟨hP, hQ⟩ (fun k k1 k2 => i1 k (by omega) (by omega) (by omega)) (fun _ _ => rfl) hR
    obtain ⟨v, v1, v2⟩ := x_whoMay ht' hRs hW hi
    have eE := x_isEmpty hRs hP hi
    unfold fb_X1_begin_10 f_X1_begin_50 f_X1_begin_73 f_X1_begin_74
    rw [i2, if_neg (nI_ge hi (by omega)), eE, bd_s, bI_ite0]
    have fin : ∀ (u : Int32) (b : Bool), (∀ j, j < 32 → bt u j = mbE r Q w i j) → b = alE r i → (∀ c, c ≠ 58 → c ≠ 60 → c ≠ 62 → updW (updW s 60 i u) 62 i (bI b) c = x c) ∧ updW (updW s 60 i u) 62 i (bI b) 58 5 = nI P ∧ ∀ p, p < i + 1 → (∀ j, j < 32 → bt (updW (updW s 60 i u) 62 i (bI b) 60 p) j = mbE r Q w p j) ∧ updW (updW s 60 i u) 62 i (bI b) 62 p = bI (alE r p) := fun u b hu hb => by
      refine ⟨fun c a1 a2 a3 => by rw [updW_cell a3, updW_cell a2]; exact i1 c a1 a2 a3, by rw [updW_cell (by omega), updW_cell (by omega)]; exact i2, fun p hp => ?_⟩
      rw [updW_cell (k' := 60) (k := 62) (by omega), updW_get, updW_get, updW_cell (k' := 62) (k := 60) (by omega)]
      by_cases e : p = i
      · subst e
        rw [if_pos ⟨rfl, rfl⟩, if_pos ⟨rfl, rfl⟩, hb]
        exact ⟨hu, rfl⟩
      · rw [if_neg (fun z => e z.2), if_neg (fun z => e z.2)]
        exact i3 p (by omega)
    cases hem : emR r i with
    | true =>
      rw [if_pos rfl, ast_nI (by omega) (by omega), bI_ite1, if_pos rfl, zst_nI (by omega) (by omega), nI_1]
      refine ⟨updW (updW s 60 i 1) 62 i (bI false), fin 1 false (fun j hj => ?_) ?_, ?_⟩
      · rw [b_one hj]
        unfold mbE
        by_cases e : j = 0
        · rw [if_pos e, hem, decide_eq_true e]
        · rw [if_neg e, hem, decide_eq_false e]; rfl
      · unfold alE; rw [hem]; rfl
      · rw [show (0:Int32) = bI false from rfl, nar_b]
    | false =>
      have hRs2 : ∀ u, RT (updW s 60 i u) t r P Q := fun u => RT_congr ⟨hP, hQ⟩ (fun k k1 k2 => updW_cell (by omega)) (fun _ _ => rfl) hRs
      rw [if_neg (by decide), v1, bd_s, ast_nI (by omega) (by omega), bI_ite1, if_neg (by decide), x_isShared (hRs2 _) hW hi, bd_s, bI_ite1]
      have hbits : ∀ j, j < 32 → bt ((v &&& (w ^^^ (-1:Int32))) <<< ((1:Int32) &&& 31)) j = mbE r Q w i j := fun j hj => by
        show bt ((v &&& (w ^^^ (-1:Int32))) <<< (nI 1 &&& 31)) j = _
        rw [b_shl 1 (by omega) _ hj]
        unfold mbE
        by_cases e : j = 0
        · subst e
          rw [if_pos rfl, hem]; rfl
        · rw [if_neg e, decide_eq_true (by omega), hem, b_and, v2 _ (by omega), b_not _ (by omega)]
          have e2 : (j - 1 < Q) = (j ≤ Q) := propext ⟨fun _ => by omega, fun _ => by omega⟩
          simp only [e2]
          simp
      cases hdb : dbR r i with
      | true =>
        rw [if_pos rfl, zst_nI (by omega) (by omega), nI_1]
        refine ⟨_, fin _ false hbits ?_, ?_⟩
        · unfold alE; rw [hem, hdb]; rfl
        · rw [show (0:Int32) = bI false from rfl, nar_b]
      | false =>
        rw [if_neg (by decide), zst_nI (by omega) (by omega), nI_1]
        refine ⟨_, fin _ true hbits ?_, ?_⟩
        · unfold alE; rw [hem, hdb]; rfl
        · rw [show (1:Int32) = bI true from rfl, nar_b]) (fun g s hI => by
    unfold fb_X1_begin_10
    rw [hI.2.1, if_pos (nI_le (Nat.le_refl _) (by omega))]) (by omega) (updW x 58 5 (nI P)) ⟨fun c a1 a2 a3 => updW_cell a1, updW_self _ _ _ _, fun p hp => by omega⟩
  rw [hfin s i2] at h4
  refine ⟨_, h4, fun c a1 a2 a3 a4 a5 a6 => by rw [updW_cell a6, updW_cell a4, updW_cell a1, updW_cell a1]; exact i1 c a1 a3 a5, Or.inl ⟨?_, rfl, ⟨?_, fun p hp => ?_⟩, ?_, ?_, fun h0 i hi => ?_⟩⟩
  · rw [updW_cell (by omega), updW_cell (by omega), updW_self]
  · rw [updW_cell (by omega), updW_cell (by omega), updW_place (by omega), updW_place (by omega)]; exact i2
  · rw [updW_cell (by omega), updW_cell (by omega), updW_cell (by omega), updW_cell (by omega), updW_cell (k' := 62) (by omega), updW_cell (k' := 62) (by omega), updW_cell (k' := 62) (by omega), updW_cell (k' := 62) (by omega)]
    exact i3 p hp
  · rw [updW_cell (by omega), updW_cell (by omega), updW_place (by omega), updW_self]; rfl
  · intro i hi
    rw [updW_self, b_0]
  · rw [updW_cell (by omega), updW_self, (i3 0 h0).1 i hi]
    unfold okE
    have h7 := mbE_7 (r := r) (w := w) hQ 0 i
    show _ = (decide (0 ≤ i ∧ i < 7) && (mbE r Q w 0 i && (!alE r 0 || true)))
    cases hb : mbE r Q w 0 i with
    | false => simp
    | true => rw [decide_eq_true ⟨by omega, h7 hb⟩]; simp
end XG
