-- ===== call: passed. Handing on along an order =====
def hand (σ : scn) : List Nat → Nat → Nat
  | [], s => s
  | p :: L, s => hand σ L (showsS σ p (sV σ p) (sH σ) s)
theorem X_handed {hx0 hm0 : hp} {S : sst} (hX0 : RX hx0 S) (hM0 : RM hm0 S) (hok : SOK S) : ∀ (L : List Nat) k n hx s, scrX hx0 hx → s < 1024 → k + L.length = sp S.1 → (∀ j p, L[j]? = some p → aI hx 37 (k + j) = nI p ∧ p < sp S.1) → L.length < n → ∃ hx', f_X11_handedOn_4 n hx (nI s) (nI k) = some (hx', nI (hand S.1 L s)) ∧ scrX hx0 hx' ∧ hand S.1 L s < 1024 ∧ aI hx' 37 = aI hx 37 ∧ aI hx' 38 = aI hx 38 := by
  have hp5 := hok.1.1.2.1.1
  intro L
  induction L with
  | nil =>
    intro k n hx s sx hs h1 H h2
    obtain ⟨n, rfl⟩ : ∃ j, n = j + 1 := ⟨n - 1, by simp at h2; omega⟩
    have e1 : hI hx 1 2 = nI (sp S.1) := (RX_scr sx hX0).1.1.2.1.1
    have hk : k = sp S.1 := by simpa using h1
    rw [f_X11_handedOn_4, e1, if_neg (nI_nlt (by omega) (by omega))]
    exact ⟨hx, rfl, sx, hs, rfl, rfl⟩
  | cons p L ih =>
    intro k n hx s sx hs h1 H h2
    rw [List.length_cons] at h1 h2
    obtain ⟨n, rfl⟩ : ∃ j, n = j + 1 := ⟨n - 1, by omega⟩
    have e1 : hI hx 1 2 = nI (sp S.1) := (RX_scr sx hX0).1.1.2.1.1
    obtain ⟨q1, q2⟩ := H 0 p rfl
    rw [Nat.add_zero] at q1
    obtain ⟨hx', y1, y2⟩ := X_shownNow (RX_scr sx hX0).1.1 hok.1.1 q2 hs
    have k7 : aI hx' 37 = aI hx 37 := keepX (Q_ := fun h => aI h 37 = aI hx 37) (fun h k v H => by rw [← H]; funext j; rw [aI_tI, if_neg (by omega)]) rfl _ _ y1
    have k8 : aI hx' 38 = aI hx 38 := keepX (Q_ := fun h => aI h 38 = aI hx 38) (fun h k v H => by rw [← H]; funext j; rw [aI_tI, if_neg (by omega)]) rfl _ _ y1
    have hlt := showsS_lt (t := sH S.1) hok.1.1 q2 (hok.1.1.2.1.2 p q2).2.1 hs
    rw [f_X11_handedOn_4, e1, if_pos (nI_lt (by omega) (by omega)), chk_of (vp_in_nI (n := k) (N := 5) (by omega) (by decide)), nI_clamp (n := k) (by omega), q1, bnd_of y1, nm_eq, nI_1]
    obtain ⟨h2', z1, z2, z3, z4, z5⟩ := ih (k + 1) n hx' _ (sx.tr y2) hlt (by omega) (fun j p' hj => by
      obtain ⟨w1, w2⟩ := H (j + 1) p' hj
      exact ⟨by rw [k7, show k + 1 + j = k + (j + 1) by omega]; exact w1, w2⟩) (by omega)
    exact ⟨h2', z1, z2, z3, z4.trans k7, z5.trans k8⟩
theorem M_handed {hm0 : hp} {S : sst} (hM0 : RM hm0 S) (hok : SOK S) {kk : hp → Int32 → Int32 → Int32 → Int32 → Int32 → Option (hp × Int32)} {A B C D E : Int32} : ∀ (L : List Nat) k n hm s, scrM hm0 hm → s < 1024 → k + L.length = sp S.1 → (∀ j p, L[j]? = some p → aI hm 69 (k + j) = nI p ∧ p < sp S.1) → L.length < n → ∃ hm' n', f_X12_passed_80 kk n hm A B C D E (nI s) (nI k) = f_X12_passed_80 kk (n' + 1) hm' A B C D E (nI (hand S.1 L s)) (nI (sp S.1)) ∧ scrM hm0 hm' ∧ hand S.1 L s < 1024 ∧ aI hm' 69 = aI hm 69 ∧ aI hm' 70 = aI hm 70 := by
  have hp5 := hok.1.1.2.1.1
  intro L
  induction L with
  | nil =>
    intro k n hm s sx hs h1 H h2
    obtain ⟨n, rfl⟩ : ∃ j, n = j + 1 := ⟨n - 1, by simp at h2; omega⟩
    have hk : k = sp S.1 := by simpa using h1
    subst hk
    exact ⟨hm, n, rfl, sx, hs, rfl, rfl⟩
  | cons p L ih =>
    intro k n hm s sx hs h1 H h2
    rw [List.length_cons] at h1 h2
    obtain ⟨n, rfl⟩ : ∃ j, n = j + 1 := ⟨n - 1, by omega⟩
    have e1 : hI hm 52 1 = nI (sp S.1) := (RM_scr sx hM0).1.2.1.1
    obtain ⟨q1, q2⟩ := H 0 p rfl
    rw [Nat.add_zero] at q1
    obtain ⟨hm', y1, y2⟩ := M_showsOf (RM_scr sx hM0).1 hok.1.1 q2 hs
    have k7 : aI hm' 69 = aI hm 69 := keepM (Q_ := fun h => aI h 69 = aI hm 69) (fun h k v H => by rw [← H]; funext j; rw [aI_tI, if_neg (by omega)]) rfl _ _ y1
    have k8 : aI hm' 70 = aI hm 70 := keepM (Q_ := fun h => aI h 70 = aI hm 70) (fun h k v H => by rw [← H]; funext j; rw [aI_tI, if_neg (by omega)]) rfl _ _ y1
    have hlt := showsS_lt (t := sH S.1) hok.1.1 q2 (hok.1.1.2.1.2 p q2).2.1 hs
    rw [f_X12_passed_80, e1, if_pos (nI_lt (by omega) (by omega)), chk_of (vp_in_nI (n := k) (N := 5) (by omega) (by decide)), nI_clamp (n := k) (by omega), q1, bnd_of y1, nm_eq, nI_1]
    obtain ⟨h2', n2, z1, z2, z3, z4, z5⟩ := ih (k + 1) n hm' _ (sx.tr y2) hlt (by omega) (fun j p' hj => by
      obtain ⟨w1, w2⟩ := H (j + 1) p' hj
      exact ⟨by rw [k7, show k + 1 + j = k + (j + 1) by omega]; exact w1, w2⟩) (by omega)
    exact ⟨h2', n2, z1, z2, z3, z4.trans k7, z5.trans k8⟩
