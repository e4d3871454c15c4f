theorem b01_is0 {b : Bool} (h : b = false) : b01 b = 0 := by rw [h]; rfl
theorem b01_not0 {b : Bool} (h : b = true) : ¬ b01 b = 0 := by rw [h]; decide
theorem M_holds_lp {F : Nat → Nat} {c p s : Nat} {h0 : hp} (hc : c < 60) (hF : ∀ h, scrM h0 h → ∀ j, j < 6 → f_X12_factOf h (nI j) (nI p) (nI s) = some (nI (F j)) ∧ F j < 2 ^ 31) {e : Nat} (he : aI h0 63 c = nI e) (he6 : e ≤ 600) : ∀ (cs : List Nat) (st : List Bool) (o n : Nat) (h : hp), scrM h0 h → dep cs st.length = some 1 → st.length ≤ 20 → o + cs.length = e → (∀ i d, cs[i]? = some d → aI h0 64 (o + i) = stepM d) → pil h st → cs.length < n → ∃ h', f_X12_holds_11 n h (nI c) (nI p) (nI s) (nI st.length) (nI o) = some (h', b01 (decide ((evl F cs st).head? = some true))) ∧ scrM h0 h' := by
  intro cs
  have hcc : (nI c).toNatClampNeg = c := nI_clamp (by omega)
  have hcin : vp_in (nI c) 60 := vp_in_nI hc (by decide)
  induction cs with
  | nil =>
    intro st o n h hsc h1 h2 h3 h4 hp h5
    obtain ⟨n, rfl⟩ : ∃ m, n = m + 1 := ⟨n - 1, by omega⟩
    have hl : st.length = 1 := Option.some.inj h1
    have heq : aI h 63 c = nI e := by rw [hsc.2.2.1 63 (by decide) (by decide) (by decide) (by decide)]; exact he
    simp only [List.length_nil] at h3
    match st, hl, hp with
    | [b], _, hp =>
      have ht : aI h 67 0 = b01 b := pil_top hp
      rw [f_X12_holds_11, chk_of hcin, hcc, heq, if_neg (nI_nlt (by omega) (by omega)), chk_of (show vp_in (0 : Int32) 100 from vp_in_nI (n := 0) (by decide) (by decide)), show ((0 : Int32)).toNatClampNeg = 0 from rfl, ht]
      refine ⟨h, ?_, hsc⟩
      cases b <;> rfl
  | cons d cs ih =>
    intro st o n h hsc h1 h2 h3 h4 hp h5
    obtain ⟨n, rfl⟩ : ∃ m, n = m + 1 := ⟨n - 1, by omega⟩
    simp only [List.length_cons] at h3 h5
    have heq : aI h 63 c = nI e := by rw [hsc.2.2.1 63 (by decide) (by decide) (by decide) (by decide)]; exact he
    have hd0 : aI h 64 o = stepM d := by rw [hsc.2.2.1 64 (by decide) (by decide) (by decide) (by decide)]; exact h4 0 d rfl
    have hco : (nI o).toNatClampNeg = o := nI_clamp (by omega)
    have hnx : ∀ i x, cs[i]? = some x → aI h0 64 (o + 1 + i) = stepM x := fun i x hi => by
      have := h4 (i + 1) x hi
      rwa [show o + (i + 1) = o + 1 + i by omega] at this
    have go := fun (x : Bool) (r : List Bool) (g1 : dep cs (r.length + 1) = some 1) (g2 : r.length + 1 ≤ 20) (g3 : pil h r) => ih (x :: r) (o + 1) n (tI h 67 r.length (b01 x)) (hsc.tr (scrM_tI (Or.inl rfl))) g1 g2 (by omega) hnx (pil_set g3) (by omega)
    rw [f_X12_holds_11, chk_of hcin, hcc, heq, if_pos (nI_lt (by omega) (by omega)), chk_of (vp_in_nI (by omega) (by decide)), nm_eq, hco, hd0]
    show ∃ h', _ = some (h', b01 (decide ((evl F cs (stp F d st)).head? = some true))) ∧ scrM h0 h'
    unfold dep at h1
    by_cases e1 : d = 2001
    · subst e1
      rw [if_pos rfl] at h1
      rw [if_pos (show stepM 2001 = (-33 : Int32) from rfl)]
      match st, h1, h2, hp with
      | [], h1, _, _ => simp at h1
      | b :: r, h1, h2, hp =>
        rw [if_pos (by simp)] at h1
        simp only [List.length_cons] at h1 h2 ⊢
        rw [nI_pred, chk_of (vp_in_nI (by omega) (by decide)), nI_clamp (by omega), pil_top hp]
        cases b
        · rw [if_pos (b01_is0 rfl)]
          obtain ⟨h', g1, g2⟩ := go true r h1 h2 (pil_tail hp); exact ⟨h', (M_63 (l := r.length) (x := true) (by omega)).trans g1, g2⟩
        · rw [if_neg (b01_not0 rfl)]
          obtain ⟨h', g1, g2⟩ := go false r h1 h2 (pil_tail hp); exact ⟨h', (M_63 (l := r.length) (x := false) (by omega)).trans g1, g2⟩
    · rw [if_neg e1] at h1
      by_cases e2 : d = 2002
      · subst e2
        rw [if_pos (Or.inl rfl)] at h1
        rw [if_neg (show ¬ stepM 2002 = (-33 : Int32) by decide), if_pos (show stepM 2002 < 0 by decide), nm_eq, if_pos (show stepM 2002 = (-38 : Int32) from rfl)]
        match st, h1, h2, hp with
        | [], h1, _, _ => simp at h1
        | [x], h1, _, _ => simp at h1
        | a :: b :: r, h1, h2, hp =>
          rw [if_pos (by simp)] at h1
          simp only [List.length_cons] at h1 h2 ⊢
          have t1 : aI h 67 (r.length + 1) = b01 a := pil_top hp
          have t2 := pil_top (pil_tail hp)
          rw [pk_m1, nI_pred, chk_of (vp_in_nI (by omega) (by decide)), nI_clamp (by omega), t2]
          unfold f_X12_holds_116
          cases b
          · rw [if_pos (b01_is0 rfl)]
            obtain ⟨h', g1, g2⟩ := go false r h1 (by omega) (pil_tail (pil_tail hp)); exact ⟨h', (M_147 (l := r.length) (x := false) (by omega)).trans g1, g2⟩
          · rw [if_neg (b01_not0 rfl), chk_of (vp_in_nI (by omega) (by decide)), nI_clamp (by omega), t1]
            cases a
            · rw [if_pos (b01_is0 rfl)]
              obtain ⟨h', g1, g2⟩ := go false r h1 (by omega) (pil_tail (pil_tail hp)); exact ⟨h', (M_147 (l := r.length) (x := false) (by omega)).trans g1, g2⟩
            · rw [if_neg (b01_not0 rfl)]
              obtain ⟨h', g1, g2⟩ := go true r h1 (by omega) (pil_tail (pil_tail hp)); exact ⟨h', (M_147 (l := r.length) (x := true) (by omega)).trans g1, g2⟩
      · by_cases e3 : d = 2003
        · subst e3
          rw [if_pos (Or.inr rfl)] at h1
          rw [if_neg (show ¬ stepM 2003 = (-33 : Int32) by decide), if_pos (show stepM 2003 < 0 by decide), nm_eq, if_neg (show ¬ stepM 2003 = (-38 : Int32) by decide)]
          match st, h1, h2, hp with
          | [], h1, _, _ => simp at h1
          | [x], h1, _, _ => simp at h1
          | a :: b :: r, h1, h2, hp =>
            rw [if_pos (by simp)] at h1
            simp only [List.length_cons] at h1 h2 ⊢
            have t1 : aI h 67 (r.length + 1) = b01 a := pil_top hp
            have t2 := pil_top (pil_tail hp)
            rw [pk_m1, nI_pred, chk_of (vp_in_nI (by omega) (by decide)), nI_clamp (by omega), t2]
            unfold f_X12_holds_142
            cases b
            · rw [if_pos (b01_is0 rfl), chk_of (vp_in_nI (by omega) (by decide)), nI_clamp (by omega), t1]
              cases a
              · rw [if_pos (b01_is0 rfl)]
                obtain ⟨h', g1, g2⟩ := go false r h1 (by omega) (pil_tail (pil_tail hp)); exact ⟨h', (M_147 (l := r.length) (x := false) (by omega)).trans g1, g2⟩
              · rw [if_neg (b01_not0 rfl)]
                obtain ⟨h', g1, g2⟩ := go true r h1 (by omega) (pil_tail (pil_tail hp)); exact ⟨h', (M_147 (l := r.length) (x := true) (by omega)).trans g1, g2⟩
            · rw [if_neg (b01_not0 rfl)]
              obtain ⟨h', g1, g2⟩ := go true r h1 (by omega) (pil_tail (pil_tail hp)); exact ⟨h', (M_147 (l := r.length) (x := true) (by omega)).trans g1, g2⟩
        · rw [if_neg (by omega)] at h1
          by_cases e4 : d < 1800 ∧ st.length < 20
          · rw [if_pos e4] at h1
            have hq := Nat.mod_lt (d / 100) (show 0 < 3 by decide)
            have hr := Nat.mod_lt d (show 0 < 100 by decide)
            have h6 : d / 300 < 6 := by omega
            have hsm : 1000 * (d / 300) + 100 * (d / 100 % 3) + d % 100 < 6000 := by omega
            obtain ⟨f1, f2⟩ := hF h hsc _ h6
            have hst : stp F d st = tst F d :: st := by unfold stp; rw [if_neg e1, if_neg e2, if_neg e3]
            have x1 : nI (1000 * (d / 300) + 100 * (d / 100 % 3) + d % 100) / (1000 : Int32) = nI (d / 300) := (div_nI (d := 1000) (by omega) (by decide) (by decide) rfl).trans (congrArg nI (by omega))
            have x2 : nI (1000 * (d / 300) + 100 * (d / 100 % 3) + d % 100) / (100 : Int32) = nI (10 * (d / 300) + d / 100 % 3) := (div_nI (d := 100) (by omega) (by decide) (by decide) rfl).trans (congrArg nI (by omega))
            have x3 : nI (10 * (d / 300) + d / 100 % 3) - nI (10 * (d / 300) + d / 100 % 3) / (10 : Int32) * (10 : Int32) = nI (d / 100 % 3) := (rem_nI (d := 10) (by omega) (by decide) (by decide) rfl).trans (congrArg nI (by omega))
            have x4 : nI (1000 * (d / 300) + 100 * (d / 100 % 3) + d % 100) - nI (1000 * (d / 300) + 100 * (d / 100 % 3) + d % 100) / (100 : Int32) * (100 : Int32) = nI (d % 100) := (rem_nI (d := 100) (by omega) (by decide) (by decide) rfl).trans (congrArg nI (by omega))
            rw [hst, stepM_test e4.1, if_neg (fun z => by
                have := congrArg Int32.toInt z
                rw [nI_toInt (by omega)] at this
                have h0 : ((-33 : Int32)).toInt = -33 := rfl
                omega), if_neg (nI_pos (by omega)), nz_of (by decide), x1, bnr_of f1, nz_of (by decide), nz_of (by decide), x4, x2, x3, nm_eq]
            have fin : ∀ x, tst F d = x → ∃ h', f_X12_holds_243 (f_X12_holds_11 n) h (nI c) (nI p) (nI s) (nI st.length) (nI o) (b01 x) (nI st.length) = some (h', b01 (decide ((evl F cs (tst F d :: st)).head? = some true))) ∧ scrM h0 h' := by
              intro x hx
              rw [hx, M_243 (by omega)]
              exact go x st h1 (by omega) hp
            by_cases m0 : d / 100 % 3 = 0
            · rw [if_pos (show nI (d / 100 % 3) = (0 : Int32) by rw [m0]; rfl), nz_of (by decide)]
              by_cases hlt : F (d / 300) < d % 100
              · rw [if_pos (nI_lt hlt (by omega))]; exact fin true (by unfold tst; rw [if_pos m0]; exact decide_eq_true hlt)
              · rw [if_neg (nI_nlt (by omega) f2)]; exact fin false (by unfold tst; rw [if_pos m0]; exact decide_eq_false hlt)
            · rw [if_neg (show ¬ nI (d / 100 % 3) = (0 : Int32) from nI_ne0 (by omega) (by omega))]
              by_cases m1 : d / 100 % 3 = 1
              · rw [if_pos (show nI (d / 100 % 3) = (1 : Int32) by rw [m1]; rfl), nz_of (by decide)]
                by_cases hee : F (d / 300) = d % 100
                · rw [if_pos (by rw [hee])]; exact fin true (by unfold tst; rw [if_neg m0, if_pos m1]; exact decide_eq_true hee)
                · rw [if_neg (fun z => hee ((nI_eq f2 (by omega)).mp z))]; exact fin false (by unfold tst; rw [if_neg m0, if_pos m1]; exact decide_eq_false hee)
              · have m2 : d / 100 % 3 = 2 := by omega
                rw [if_neg (show ¬ nI (d / 100 % 3) = (1 : Int32) by rw [m2]; decide), nz_of (by decide)]
                by_cases hlt : d % 100 < F (d / 300)
                · rw [if_pos (nI_lt hlt f2)]; exact fin true (by unfold tst; rw [if_neg m0, if_neg m1]; exact decide_eq_true hlt)
                · rw [if_neg (nI_nlt (by omega) (by omega))]; exact fin false (by unfold tst; rw [if_neg m0, if_neg m1]; exact decide_eq_false hlt)
          · rw [if_neg e4] at h1; cases h1
