section SR
theorem s_fa0 {x0 y0 : Wd} {K f g d : Nat} {p : Int32} (hc : VC x0 y0 K) (hd : d ≤ 39) : Sim x0 y0 (FR (f + 2) (nI 0) (nI 2) p (nI d)) (grp_X9_fallsIn (g + 1) (nI 0) p) := by
  intro x y h
  obtain ⟨x', y', e1, e2, h'⟩ := VS_push (c := 12) h
  rw [FR_step (by omega) (by omega), fa_s]
  unfold fg_X7_begun fg_X9_fallsIn
  rw [if_pos (d40 (by omega)), show nI (vcode 2 0) = 12 from rfl, show nI (vhold 2 0) = nI 0 from rfl, e1, bd_s, tld_nI (by omega) (by omega), if_neg (by decide), if_neg (by decide), if_pos rfl, if_neg (fun q => q rfl), e2, bd_s, VS_x h', VS_y h' (by omega), hc.2.2.2.2]
  exact ⟨_, x', y', rfl, rfl, h'⟩
theorem s_fa3 {x0 y0 : Wd} {K f g d : Nat} {p : Int32} (hc : VC x0 y0 K) (hd : d ≤ 38) : Sim x0 y0 (FR (f + 4) (nI 3) (nI 2) p (nI d)) (grp_X9_fallsIn (g + 2) (nI 3) p) := by
  intro x y h
  obtain ⟨x', y', e1, e2, h'⟩ := VS_push (c := 40) h
  obtain ⟨r, x'', y'', e3, e4, h''⟩ := s_fa0 (f := f) (g := g) (d := d + 1) (p := p) hc (by omega) x' y' h'
  rw [show f + 4 = (f + 2) + 2 from rfl, FR_step (by omega) (by omega), fa_s]
  unfold fg_X7_begun fg_X9_fallsIn
  rw [if_pos (d40 (by omega)), show nI (vcode 2 3) = 40 from rfl, show nI (vhold 2 3) = nI 3 from rfl, e1, bd_s, tld_nI (by omega) (by omega), if_neg (by decide), if_neg (by decide), if_neg (by decide), if_neg (by decide), if_neg (by decide), if_neg (by decide), if_pos rfl, show tblA 3 = nI 0 from rfl, show (2:Int32) = nI 2 from rfl, e3, bd_s, if_pos (by decide), if_neg (fun q => q rfl), e2, bd_s, show (0:Int32) = nI 0 from rfl, e4, bd_s]
  exact ⟨_, x'', y'', rfl, rfl, h''⟩
theorem s_fa6 {x0 y0 : Wd} {K f g d : Nat} {p : Int32} (hc : VC x0 y0 K) (hd : d ≤ 37) : Sim x0 y0 (FR (f + 6) (nI 6) (nI 2) p (nI d)) (grp_X9_fallsIn (g + 3) (nI 6) p) := by
  intro x y h
  obtain ⟨x', y', e1, e2, h'⟩ := VS_push (c := 70) h
  obtain ⟨r, x'', y'', e3, e4, h''⟩ := s_fa3 (f := f) (g := g) (d := d + 1) (p := p) hc (by omega) x' y' h'
  rw [show f + 6 = (f + 4) + 2 from rfl, FR_step (by omega) (by omega), fa_s]
  unfold fg_X7_begun fg_X9_fallsIn
  rw [if_pos (d40 (by omega)), show nI (vcode 2 6) = 70 from rfl, show nI (vhold 2 6) = nI 6 from rfl, e1, bd_s, tld_nI (by omega) (by omega), if_neg (by decide), if_neg (by decide), if_neg (by decide), if_neg (by decide), if_neg (by decide), if_neg (by decide), if_neg (by decide), if_neg (by decide), if_neg (by decide), if_pos rfl, show tblA 6 = nI 3 from rfl, show (2:Int32) = nI 2 from rfl, e3, bd_s, if_pos (by decide), if_pos (by decide), if_neg (fun q => q rfl), e2, bd_s, show (3:Int32) = nI 3 from rfl, e4, bd_s]
  refine ⟨_, x'', y'', rfl, ?_, h''⟩
  show some (r ^^^ y'' 100 26, y'') = some (r ^^^ x'' 67 2, x'' |> fun _ => y'')
  rw [VS_x h'', VS_y h'' (by omega), hc.2.2.2.1]
theorem s_fa {x0 y0 : Wd} {K f g d k : Nat} {p : Int32} (hc : VC x0 y0 K) (hk : k < 7) (hd : d ≤ 37) : Sim x0 y0 (FR (f + 6) (nI k) (nI 2) p (nI d)) (grp_X9_fallsIn (g + 4) (nI k) p) := by
  intro x y h
  rcases (by omega : k = 0 ∨ k = 1 ∨ k = 2 ∨ k = 3 ∨ k = 4 ∨ k = 5 ∨ k = 6) with rfl | rfl | rfl | rfl | rfl | rfl | rfl
  · exact s_fa0 (f := f + 4) hc (by omega) x y h
  · have := s_fa0 (f := f + 4) (g := g + 2) (p := p) hc (show d ≤ 39 by omega) x y h
    rw [show f + 6 = (f + 4) + 2 from rfl, FR_step (by omega) (by omega)] at this ⊢
    rw [fa_up (by omega) (by omega) (by omega) (by omega)]
    exact this
  · have := s_fa0 (f := f + 4) (g := g + 2) (p := p) hc (show d ≤ 39 by omega) x y h
    rw [show f + 6 = (f + 4) + 2 from rfl, FR_step (by omega) (by omega)] at this ⊢
    rw [fa_up (by omega) (by omega) (by omega) (by omega)]
    exact this
  · exact s_fa3 (f := f + 2) hc (by omega) x y h
  · have := s_fa0 (f := f + 4) (g := g + 1) (p := p) hc (show d ≤ 39 by omega) x y h
    rw [show f + 6 = (f + 4) + 2 from rfl, FR_step (by omega) (by omega)] at this ⊢
    rw [fa_up (by omega) (by omega) (by omega) (by omega), show vabove 4 = 1 from rfl, fa_up (by omega) (by omega) (by omega) (by omega)]
    exact this
  · have := s_fa0 (f := f + 4) (g := g + 1) (p := p) hc (show d ≤ 39 by omega) x y h
    rw [show f + 6 = (f + 4) + 2 from rfl, FR_step (by omega) (by omega)] at this ⊢
    rw [fa_up (by omega) (by omega) (by omega) (by omega), show vabove 5 = 2 from rfl, fa_up (by omega) (by omega) (by omega) (by omega)]
    exact this
  · exact s_fa6 hc (by omega) x y h
end SR
