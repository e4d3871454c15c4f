-- ===== what a sender shows: the class's way =====
theorem X_107 {h : hp} {o p k v t r s : Nat} (hp5 : p < 5) (hsd : sd 1 o = true) (hkd : kdOf h o = sndQ k) (hk7 : k < 7) (hr : aI h 6 (4 * p + t % 4) = nI r) (hs : s < 1024) (hv : v < 10) (ht : t < 2 ^ 31) : f_X11_shown_107 h (nI p) (nI v) (nI t) o (nI s) = some (h, nI (shw k v t r s)) := by
  have hS : kdOf h o ∈ sndK := by rw [hkd]; exact sndQ_in
  have hm : t % 4 < 4 := Nat.mod_lt _ (by decide)
  have e1 : nI p * (4 : Int32) + nI (t % 4) = nI (4 * p + t % 4) := by
    rw [show (4 : Int32) = nI 4 from rfl, pk_mul, nI_add, Nat.mul_comm]
  unfold f_X11_shown_107
  rw [nz_of (by decide), rem4 ht, e1, chk_of (vp_in_nI (by omega) (by decide)), ckS_of hsd hS, nI_clamp (by omega), hr, bnr_of (X_showing hsd hkd hk7 hs hv ht)]
theorem kd_none {h : hp} {a : Nat} {n : Nat} (hn : kdOf h a = n) (ha : stK 35 ≠ n ∧ stK 37 ≠ n ∧ stK 38 ≠ n) : a ≠ 35 ∧ a ≠ 37 ∧ a ≠ 38 := by
  refine ⟨?_, ?_, ?_⟩ <;> (rintro rfl; first | exact ha.1 hn | exact ha.2.1 hn | exact ha.2.2 hn)
theorem wdX_scr {h h' : hp} {w : Nat} {C : List cla} (hs : scrX h h') (hk : ∀ j, kdOf h' j = kdOf h j) (hw : wdX h w C) : wdX h' w C := by
  obtain ⟨⟨k1, k2, ⟨k3, k4, k5, k6⟩, s4⟩, w3, w6, hof, hcl⟩ := hw
  have hI' : ∀ a b, hI h' a b = hI h a b := fun a b => by show h'.1 a b = h.1 a b; rw [hs.1]
  have g := fun (a n : Nat) (hn : kdOf h a = n) (ha : stK 35 ≠ n ∧ stK 37 ≠ n ∧ stK 38 ≠ n) => hs.2.2.1 a (kd_none hn ha).1 (kd_none hn ha).2.1 (kd_none hn ha).2.2
  have g1 := g _ _ k3 (by decide)
  have g2 := g _ _ k4 (by decide)
  have g3 := g _ _ k5 (by decide)
  have g4 := g _ _ k6 (by decide)
  refine ⟨⟨k1, (hk w).trans k2, ⟨(hk _).trans k3, (hk _).trans k4, (hk _).trans k5, (hk _).trans k6⟩, s4⟩, (hI' _ _).trans w3, (hI' _ _).trans w6, hof, fun k c hc => ?_⟩
  rw [g1, g2, g3, g4]
  exact hcl k c hc
theorem X_shown {h : hp} {σ : scn} {p v t s : Nat} (hsc : scX h 1 σ) (hok : scOK σ) (hp : p < sp σ) (hv : v < 10) (ht : t < 2 ^ 31) (hs : s < 1024) : ∃ h', f_X11_shown h (nI p) (nI v) (nI t) (nI s) = some (h', nI (showsS σ p v t s)) ∧ scrX h h' := by
  obtain ⟨-, ⟨-, q2, q3, q4⟩, -, -, -, -, q8⟩ := hsc
  obtain ⟨-, ⟨o1, o2⟩, -, -, -, -, o8⟩ := hok
  obtain ⟨hk7, -, hS9, hrw⟩ := o2 p hp
  have hp5 : p < 5 := by omega
  have hm : t % 4 < 4 := Nat.mod_lt _ (by decide)
  obtain ⟨o, ho, hsd, ho100, hkd, f0, f1, f2⟩ := q2 p hp
  have hro : aI h 6 (4 * p + t % 4) = nI (sRw σ (4 * p + t % 4)) := by
    have := q4 (4 * p + t % 4) (by omega)
    rw [if_pos (by omega)] at this
    exact this
  have hse : aI h 5 p = nI (sS σ p) := by
    have := q3 p hp5
    rw [if_pos hp] at this
    exact this
  have hcp : (nI p).toNatClampNeg = p := nI_clamp (by omega)
  have hin : vp_in (nI p) 5 := vp_in_nI hp5 (by decide)
  have hS : kdOf h o ∈ sndK := by rw [hkd]; exact sndQ_in
  unfold f_X11_shown
  rw [chk_of hin, hcp, onO_of (show aR h 4 p = some o from ho)]
  unfold showsS cls
  cases hC : sC σ with
  | none =>
    rw [hC] at q8
    rw [onO_none (show hR h 1 9 = none from q8)]
    exact ⟨h, X_107 hp5 hsd hkd hk7 hro hs hv ht, scrX.rf⟩
  | some C =>
    rw [hC] at q8
    obtain ⟨w, hw, hwd⟩ := q8
    rw [onO_is (show hR h 1 9 = some w from hw)]
    have c0 : vp_in (0 : Int32) 6 := vp_in_nI (n := 0) (by decide) (by decide)
    have c1 : vp_in (1 : Int32) 6 := vp_in_nI (n := 1) (by decide) (by decide)
    have c2 : vp_in (2 : Int32) 6 := vp_in_nI (n := 2) (by decide) (by decide)
    have c3 : vp_in (3 : Int32) 6 := vp_in_nI (n := 3) (by decide) (by decide)
    have c4 : vp_in (4 : Int32) 6 := vp_in_nI (n := 4) (by decide) (by decide)
    have c5 : vp_in (5 : Int32) 6 := vp_in_nI (n := 5) (by decide) (by decide)
    have d0 : ((0 : Int32)).toNatClampNeg = 0 := rfl
    have d1 : ((1 : Int32)).toNatClampNeg = 1 := rfl
    have d2 : ((2 : Int32)).toNatClampNeg = 2 := rfl
    have d3 : ((3 : Int32)).toNatClampNeg = 3 := rfl
    have d4 : ((4 : Int32)).toNatClampNeg = 4 := rfl
    have d5 : ((5 : Int32)).toNatClampNeg = 5 := rfl
    rw [chk_of c0, nm_eq, d0, ckS_of hsd (show kdOf (tI h 35 0 (nI p)) o ∈ sndK from hS), chk_of c1, nm_eq, d1, hI_tI, f1, chk_of c2, nm_eq, d2, bnr_of (X_bits hs), chk_of c3, nm_eq, d3, chk_of hin, nz_of (by decide), chk_of c4, nm_eq, d4]
    have e5 : aI (tI (tI (tI (tI h 35 0 (nI p)) 35 1 (nI (sK' σ p))) 35 2 (nI v)) 35 3 (nI (pop 10 s))) 5 p = nI (sS σ p) := hse
    rw [e5, rem10 (by omega), nz_of (by decide), chk_of c5, nm_eq, d5, rem24 ht]
    generalize hh : tI (tI (tI (tI (tI (tI h 35 0 (nI p)) 35 1 (nI (sK' σ p))) 35 2 (nI v)) 35 3 (nI (pop 10 s))) 35 4 (nI (sS σ p % 10))) 35 5 (nI (t % 24)) = h6
    have scr : scrX h h6 := by
      rw [← hh]
      exact ((((((scrX_tI (Or.inl rfl)).tr (scrX_tI (Or.inl rfl))).tr (scrX_tI (Or.inl rfl))).tr (scrX_tI (Or.inl rfl))).tr (scrX_tI (Or.inl rfl))).tr (scrX_tI (Or.inl rfl)))
    have hkd6 : ∀ j, kdOf h6 j = kdOf h j := fun j => by rw [← hh]; rfl
    have hR6 : hR h6 1 9 = some w := by rw [← hh]; exact hw
    have hF : ∀ j, j < 6 → aI h6 35 j = nI (factS σ p v t s j) ∧ factS σ p v t s j < 2 ^ 31 := by
      intro j hj
      have hp10 := pop_le 10 s
      rw [← hh]
      rcases (show j = 0 ∨ j = 1 ∨ j = 2 ∨ j = 3 ∨ j = 4 ∨ j = 5 by omega) with rfl | rfl | rfl | rfl | rfl | rfl
      · exact ⟨rfl, show p < 2 ^ 31 by omega⟩
      · exact ⟨rfl, show sK' σ p < 2 ^ 31 by omega⟩
      · exact ⟨rfl, show v < 2 ^ 31 by omega⟩
      · exact ⟨rfl, show pop 10 s < 2 ^ 31 by omega⟩
      · exact ⟨rfl, show sS σ p % 10 < 2 ^ 31 by omega⟩
      · exact ⟨rfl, show t % 24 < 2 ^ 31 by omega⟩
    have hw6 : wdX h6 w C := wdX_scr scr hkd6 hwd
    have hw11 : kdOf h6 w = 11 := hw6.1.2.1
    rw [onO_of hR6, ckO_of hw6.1.1 hw11, bnr_of (X_done hw6 (o8 C hC) hF hs)]
    exact ⟨h6, X_107 hp5 hsd ((hkd6 o).trans hkd) hk7 ((congrFun (scr.2.2.1 6 (by decide) (by decide) (by decide)) _).trans hro) (blS_lt _ _ _ hs) hv ht, scr⟩
