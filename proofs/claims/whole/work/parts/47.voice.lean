section SV
theorem s_te {x0 y0 : Wd} {K f g d k : Nat} {p : Int32} (hc : VC x0 y0 K) (hk : k < 7) (hd : d ≤ 33) : Sim x0 y0 (FR (f + 16) (nI k) (nI 3) p (nI d)) (grp_X9_tellsIn (g + 4) (nI k) p) := by
  intro x y h
  rcases (by omega : k = 0 ∨ (k = 1 ∨ k = 2 ∨ k = 3) ∨ k = 4 ∨ k = 5 ∨ k = 6) with rfl | hq | rfl | rfl | rfl
  · exact s_te0 (f := f + 2) hc (by omega) x y h
  · exact s_teA (f := f + 2) hc hk hq (by omega) x y h
  · have := s_te0 (f := f + 2) (g := g + 2) (p := p) hc (show d ≤ 34 by omega) x y h
    rw [show f + 2 + 14 = (f + 14) + 2 from rfl, FR_step (by omega) (by omega)] at this
    rw [show f + 16 = (f + 14) + 2 from rfl, FR_step (by omega) (by omega), te_up (by omega) (by omega) (by omega) (by omega), show vabove 4 = 1 from rfl, te_up (by omega) (by omega) (by omega) (by omega)]
    exact this
  · exact s_te5 hc (by omega) x y h
  · exact s_te6 hc (by omega) x y h
theorem Rel_voice {n : Nat} {x y x0 y0 x' y' : Wd} (h : Rel n x y) (hx : ∀ k, k ≠ 67 → k ≠ 68 → x0 k = x k) (hy : ∀ k, k ≠ 100 → y0 k = y k) (hy4 : y0 100 4 = y 100 4) (hy5 : y0 100 5 = y 100 5) (hv : VS x0 y0 x' y') : Rel (n + 1) x' y' := by
  obtain ⟨h1, ⟨k, k1, k2, k3, k4, k5, k6, k7⟩, he, hs, -⟩ := h
  obtain ⟨v1, v2, v3, v4⟩ := hv
  have ex : ∀ k, k ≠ 67 → k ≠ 68 → k ≠ 69 → x' k = x k := fun k a1 a2 a3 => by rw [v1 k a2 a3, hx k a1 a2]
  have ey : ∀ k, k ≠ 100 → k ≠ 114 → y' k = y k := fun k a1 a2 => by rw [v2 k a1 a2, hy k a1]
  refine ⟨?_, ⟨k, by omega, by rw [ex 0 (by omega) (by omega) (by omega)]; exact k2, by rw [v3 5 (by omega), hy5]; exact k3, by rw [v3 4 (by omega), hy4]; exact k4, fun hk => ?_, by rw [ex 35 (by omega) (by omega) (by omega)]; exact k6, by rw [ex 40 (by omega) (by omega) (by omega)]; exact k7⟩, fun i hi => ?_, fun s hs4 => ?_, v4⟩
  · rw [ey 101 (by omega) (by omega)]; exact RB_congr (fun k j1 j2 => ex k (by omega) (by omega) (by omega)) h1
  · rw [ey 102 (by omega) (by omega)]; exact RB_congr (fun k j1 j2 => ex k (by omega) (by omega) (by omega)) (k5 hk)
  · rw [ex 80 (by omega) (by omega) (by omega), ey 105 (by omega) (by omega)]; exact he i hi
  · rw [ex (71 + 2 * s) (by omega) (by omega) (by omega), ex (72 + 2 * s) (by omega) (by omega) (by omega), ey 110 (by omega) (by omega), ey 111 (by omega) (by omega), ey 112 (by omega) (by omega)]; exact hs s hs4
end SV
