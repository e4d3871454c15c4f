-- ===== the class: near, numbers of words =====
theorem X_near {h : hp} {σ : scn} (hsc : scX h 1 σ) : f_X11_near h = some (nI (nearS σ)) := by
  obtain ⟨-, -, -, -, -, -, q8⟩ := hsc
  unfold f_X11_near nearS cls
  cases hC : sC σ with
  | none =>
    rw [hC] at q8
    rw [onO_none (show hR h 1 9 = none from q8)]; rfl
  | some C =>
    rw [hC] at q8
    obtain ⟨w, hw, hwd⟩ := q8
    have e : hR h 1 9 = some w := hw
    rw [onO_is e, onO_of e, ckO_of hwd.1.1 hwd.1.2.1, hwd.2.2.1]; rfl
theorem X_isWord_y {h : hp} {σ : scn} (hsc : scX h 1 σ) (hok : scOK σ) {k : Nat} (hk : k < sn σ) : f_X11_isWord h (nI k) = some 1 := by
  have hn := hok.1.1
  have e : hI h 2 1 = nI (sn σ) := hsc.1.1
  unfold f_X11_isWord f_X11_isWord_23
  rw [if_neg (nI_pos (by omega)), e, if_pos (nI_lt hk (by omega))]; rfl
theorem X_isWord_n {h : hp} {σ : scn} (hsc : scX h 1 σ) {x : Int32} (hx : x < 0 ∨ nI (sn σ) ≤ x) : f_X11_isWord h x = some 0 := by
  have e : hI h 2 1 = nI (sn σ) := hsc.1.1
  unfold f_X11_isWord f_X11_isWord_22 f_X11_isWord_23
  by_cases h1 : x < 0
  · rw [if_pos h1]; rfl
  · rw [if_neg h1, e, if_neg (fun h2 => by
      rcases hx with hx | hx
      · exact h1 hx
      · exact nlt_of hx h2)]; rfl
theorem X_shownNow {h : hp} {σ : scn} {p s : Nat} (hsc : scX h 1 σ) (hok : scOK σ) (hp : p < sp σ) (hs : s < 1024) : ∃ h', f_X11_shownNow h (nI p) (nI s) = some (h', nI (showsS σ p (sV σ p) (sH σ) s)) ∧ scrX h h' := by
  obtain ⟨hk7, hv, hS9, hrw⟩ := hok.2.1.2 p hp
  have hp5 : p < 5 := by have := hok.2.1.1; omega
  have hH : sH σ ≤ 20000 := hok.2.2.1
  obtain ⟨h', e1, e2⟩ := X_shown hsc hok hp hv (show sH σ < 2 ^ 31 by omega) hs
  obtain ⟨-, ⟨-, q2, -, -⟩, q5, -⟩ := hsc
  obtain ⟨o, ho, hsd, ho100, hkd, f0, f1, f2⟩ := q2 p hp
  have hS : kdOf h o ∈ sndK := by rw [hkd]; exact sndQ_in
  refine ⟨h', ?_, e2⟩
  unfold f_X11_shownNow
  rw [chk_of (vp_in_nI hp5 (by decide)), nI_clamp (by omega), onO_of (show aR h 4 p = some o from ho), ckS_of hsd hS, f2, show hI h 1 5 = nI (sH σ) from q5, bnd_of e1]
