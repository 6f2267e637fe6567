section SW
theorem st_voice : St_voice Rel := by
  intro n x y p1 p2 p3 hn h
  obtain ⟨P, Q, hW, hR⟩ := h.1.1
  have hP := hW.1
  unfold f_X8_voice f_X9_voice
  rw [x_hasPart hR.1.1 hW.1, m_isPart hW.1 hW.2.2.1, bd_s, bd_s, bI_ite0, bI_ite0]
  by_cases c1 : 0 ≤ p1 ∧ p1 ≤ nI P - 1
  · rw [dT c1, dT c1, x_within, m_in, bd_s, bd_s, bI_ite1, bI_ite1]
    obtain ⟨p, hp, rfl⟩ := (le_pred (N := P) (by omega)).mp c1
    by_cases c2 : (0:Int32) ≤ p2 ∧ p2 ≤ 3
    · rw [dT c2, dT c2]
      obtain ⟨a, ha, rfl⟩ := (in_nI (N := 3) (by omega)).mp c2
      obtain ⟨⟨K, hK, eK⟩, -⟩ := hW.2.2.2.2.2.2.1 p hp
      obtain ⟨b1, b2, -, -⟩ := hR.2.1 p hp
      obtain ⟨x0, hx0⟩ : ∃ z, z = updW (updW (updW (updW x 67 1 (y 101 (9 + 4 * p))) 67 2 (nI p)) 67 3 (y 101 (10 + 4 * p))) 68 1 0 := ⟨_, rfl⟩
      obtain ⟨y0, hy0⟩ : ∃ z, z = updW (updW (updW (updW y 100 24 0) 100 25 (y 101 (9 + 4 * p))) 100 26 (nI p)) 100 27 (y 101 (10 + 4 * p)) := ⟨_, rfl⟩
      rw [ald_nI (by omega) (by omega), ald_nI (by omega) (by omega), b1, b2]
      unfold f_X7_raise f_X4_clear
      rw [wl_s, wl_s, wl_s, wl_s, bd_s, wl_s, m_its0 (by omega), bd_s, wl_s, wl_s, m_its1 (by omega), bd_s, wl_s]
      rw [updW_cell (k' := 101) (k := 100) (by omega), updW_cell (k' := 101) (k := 100) (by omega), updW_cell (k' := 101) (k := 100) (by omega), updW_cell (k' := 101) (k := 100) (by omega), ← hx0, ← hy0]
      have hc : VC x0 y0 K := by
        rw [hx0, hy0]
        refine ⟨hK, ?_, ?_, ?_, ?_⟩
        · exact eK
        · exact eK
        · rfl
        · rfl
      have hv : VS x0 y0 x0 y0 := ⟨fun _ _ _ => rfl, fun _ _ _ => rfl, fun _ _ => rfl, ⟨0, by omega, by rw [hx0]; rfl, by rw [hy0]; rfl, fun i hi => by omega⟩⟩
      have fin : ∀ x' y', VS x0 y0 x' y' → Rel (n + 1) x' y' := fun x' y' v => Rel_voice h (fun k a1 a2 => by rw [hx0, updW_cell a2, updW_cell a1, updW_cell a1, updW_cell a1]) (fun k a1 => by rw [hy0, updW_cell a1, updW_cell a1, updW_cell a1, updW_cell a1]) (by rw [hy0]; rfl) (by rw [hy0]; rfl) v
      have eO : f_X7_own (nI a) p3 (0:Int32) x0 = FR 99 (nI K) (nI a) p3 (nI 0) x0 := OW_step (f := 99) (d := 0) hc.2.1
      rw [eO, bd_eta, bd_eta, bd_eta, bd_eta, bd_eta, bd_eta, hc.2.2.1]
      rcases (by omega : a = 0 ∨ a = 1 ∨ a = 2 ∨ a = 3) with rfl | rfl | rfl | rfl
      · obtain ⟨r, x', y', g1, g2, g3⟩ := s_sp (f := 95) (g := 96) (d := 0) (k := K) (p := p3) hc hK (by omega) x0 y0 hv
        rw [if_pos (by decide)]
        exact ⟨r, x', y', g1, g2, fin _ _ g3⟩
      · obtain ⟨r, x', y', g1, g2, g3⟩ := s_en (f := 88) (g := 96) (d := 0) (k := K) (p := p3) hc hK (by omega) x0 y0 hv
        rw [if_neg (by decide), if_pos (by decide)]
        exact ⟨r, x', y', g1, g2, fin _ _ g3⟩
      · obtain ⟨r, x', y', g1, g2, g3⟩ := s_fa (f := 93) (g := 96) (d := 0) (k := K) (p := p3) hc hK (by omega) x0 y0 hv
        rw [if_neg (by decide), if_neg (by decide), if_pos (by decide)]
        exact ⟨r, x', y', g1, g2, fin _ _ g3⟩
      · obtain ⟨r, x', y', g1, g2, g3⟩ := s_te (f := 83) (g := 96) (d := 0) (k := K) (p := p3) hc hK (by omega) x0 y0 hv
        rw [if_neg (by decide), if_neg (by decide), if_neg (by decide)]
        exact ⟨r, x', y', g1, g2, fin _ _ g3⟩
    · rw [dF c2, dF c2]
      exact st_fail h 1 _ _ (by omega) rfl (by decide)
  · rw [dF c1, dF c1]
    exact st_fail h 1 _ _ (by omega) rfl (by decide)
end SW
