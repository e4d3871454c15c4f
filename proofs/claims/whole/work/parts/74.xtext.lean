-- ===== a_ whole text: the class's way_ =====
theorem pWd_F {T : Nat → Nat} {L_ v_ : Nat} (hv : v_ < 4) : ∀ j_ a_, j_ ≤ 3 → a_ ≤ L_ → ∀ b_ ok_, pWd T L_ v_ j_ a_ = (b_, ok_) → a_ ≤ b_ ∧ b_ ≤ L_ := by
  intro j_
  induction j_ with
  | zero =>
    intro a_ hj ha_ b_ ok_ he
    have he : (a_, true) = (b_, ok_) := he
    obtain ⟨rfl, rfl⟩ := Prod.mk.inj he
    exact ⟨Nat.le_refl _, ha_⟩
  | succ j_ ih_ =>
    intro a_ hj ha_ b_ ok_ he
    rw [pWd] at he
    by_cases hc_ : nx T L_ a_ = lets.getD (4 * v_ + (3 - j_)) 0
    · have hl := nx_le (T := T) (L := L_) (a := a_) (by have := lets_lt (4 * v_ + (3 - j_)) (by omega); omega)
      rw [if_pos hc_] at he
      have := ih_ (a_ + 1) (by omega) (by omega) b_ ok_ he
      omega
    · rw [if_neg hc_] at he
      obtain ⟨rfl, rfl⟩ := Prod.mk.inj he
      exact ⟨Nat.le_refl _, ha_⟩
theorem pCl_F {T : Nat → Nat} {L_ a_ b_ : Nat} {oc : Option cla} (ha_ : a_ ≤ L_) (he : pCl T L_ a_ = (b_, oc)) : (a_ ≤ b_ ∧ b_ ≤ L_) ∧ ∀ c_, oc = some c_ → clOK c_ := by
  unfold pCl at he
  cases hv : fV (nx T L_ a_) with
  | none =>
    rw [hv] at he
    have he : (a_, none) = (b_, oc) := he
    obtain ⟨rfl, rfl⟩ := Prod.mk.inj he
    exact ⟨⟨Nat.le_refl _, ha_⟩, fun c_ hc_ => by cases hc_⟩
  | some v_ =>
    rw [hv] at he
    have hv4 := fV_lt hv
    have hl := fV_999 hv
    cases hw : pWd T L_ v_ 3 (a_ + 1) with
    | mk b1 ok_ =>
      have w1_ := pWd_F hv4 3 (a_ + 1) (Nat.le_refl _) hl b1 ok_ hw
      cases ok_ with
      | false =>
        have he : (match pWd T L_ v_ 3 (a_ + 1) with
          | (b_, false) => (b_, none)
          | (b_, true) => if nx T L_ b_ = 32 then (match pNum T L_ (b_ + 1) with
            | (c_, none) => (c_, none)
            | (c_, some n_) => if v_ = 3 then (c_, some (3, n_, [])) else if nx T L_ c_ = 32 then (match pEi T L_ (pSi T L_ 4) (c_ + 1) with
              | (d_, none) => (d_, none)
              | (d_, some t_) => (d_, some (v_, n_, t_))) else (c_, none)) else (b_, none)) = (b_, oc) := he
        rw [hw] at he
        have he : (b1, none) = (b_, oc) := he
        obtain ⟨he1, he2⟩ := Prod.mk.inj he
        rw [← he1]
        exact ⟨by omega, fun c_ hc_ => by rw [← he2] at hc_; cases hc_⟩
      | true =>
        have he : (match pWd T L_ v_ 3 (a_ + 1) with
          | (b_, false) => (b_, none)
          | (b_, true) => if nx T L_ b_ = 32 then (match pNum T L_ (b_ + 1) with
            | (c_, none) => (c_, none)
            | (c_, some n_) => if v_ = 3 then (c_, some (3, n_, [])) else if nx T L_ c_ = 32 then (match pEi T L_ (pSi T L_ 4) (c_ + 1) with
              | (d_, none) => (d_, none)
              | (d_, some t_) => (d_, some (v_, n_, t_))) else (c_, none)) else (b_, none)) = (b_, oc) := he
        rw [hw] at he
        have he : (if nx T L_ b1 = 32 then (match pNum T L_ (b1 + 1) with
          | (c_, none) => (c_, none)
          | (c_, some n_) => if v_ = 3 then (c_, some (3, n_, [])) else if nx T L_ c_ = 32 then (match pEi T L_ (pSi T L_ 4) (c_ + 1) with
            | (d_, none) => (d_, none)
            | (d_, some t_) => (d_, some (v_, n_, t_))) else (c_, none)) else (b1, none)) = (b_, oc) := he
        by_cases c1_ : nx T L_ b1 = 32
        · have l2 := nx_le (T := T) (L := L_) (a := b1) (by omega)
          rw [if_pos c1_] at he
          cases hn : pNum T L_ (b1 + 1) with
          | mk b2 on_ =>
            rw [hn] at he
            have n1_ := pNum_le (by omega) hn
            obtain ⟨-, q2_⟩ := pNum_lt hn
            cases on_ with
            | none =>
              have he : (b2, none) = (b_, oc) := he
              obtain ⟨he1, he2⟩ := Prod.mk.inj he
              rw [← he1]
              exact ⟨by omega, fun c_ hc_ => by rw [← he2] at hc_; cases hc_⟩
            | some nn =>
              obtain ⟨-, -, q3_, -⟩ := q2_ nn rfl
              have he : (if v_ = 3 then (b2, some ((3, nn, []) : cla)) else if nx T L_ b2 = 32 then (match pEi T L_ (pSi T L_ 4) (b2 + 1) with
                | (d_, none) => (d_, none)
                | (d_, some t_) => (d_, some (v_, nn, t_))) else (b2, none)) = (b_, oc) := he
              by_cases v3 : v_ = 3
              · rw [if_pos v3] at he
                obtain ⟨he1, he2⟩ := Prod.mk.inj he
                rw [← he1]
                refine ⟨by omega, fun c_ hc_ => ?_⟩
                rw [← he2] at hc_
                rw [← Option.some.inj hc_]
                exact ⟨(by decide : 3 < 4), q3_, Or.inl rfl⟩
              · rw [if_neg v3] at he
                by_cases c2_ : nx T L_ b2 = 32
                · have l3 := nx_le (T := T) (L := L_) (a := b2) (by omega)
                  rw [if_pos c2_] at he
                  cases hs : pEi T L_ (pSi T L_ 4) (b2 + 1) with
                  | mk b3 ot =>
                    rw [hs] at he
                    have e1_ := pE_D.2 (b2 + 1) b3 ot (by omega) hs
                    cases ot with
                    | none =>
                      have he : (b3, none) = (b_, oc) := he
                      obtain ⟨he1, he2⟩ := Prod.mk.inj he
                      rw [← he1]
                      exact ⟨by omega, fun c_ hc_ => by rw [← he2] at hc_; cases hc_⟩
                    | some tt =>
                      have he : (b3, some ((v_, nn, tt) : cla)) = (b_, oc) := he
                      obtain ⟨he1, he2⟩ := Prod.mk.inj he
                      obtain ⟨-, -, g3_⟩ := pE_D.1 (b2 + 1) b3 tt (by omega) hs
                      rw [← he1]
                      refine ⟨by omega, fun c_ hc_ => ?_⟩
                      rw [← he2] at hc_
                      rw [← Option.some.inj hc_]
                      refine ⟨hv4, q3_, Or.inr ?_⟩
                      have := g3_ 0 [] (by omega)
                      rw [List.append_nil] at this
                      exact this
                · rw [if_neg c2_] at he
                  obtain ⟨he1, he2⟩ := Prod.mk.inj he
                  rw [← he1]
                  exact ⟨by omega, fun c_ hc_ => by rw [← he2] at hc_; cases hc_⟩
        · rw [if_neg c1_] at he
          obtain ⟨he1, he2⟩ := Prod.mk.inj he
          rw [← he1]
          exact ⟨by omega, fun c_ hc_ => by rw [← he2] at hc_; cases hc_⟩
theorem pTx_F {T : Nat → Nat} {L_ : Nat} : ∀ k_ a_ C_, a_ ≤ L_ → C_.length + k_ = 10 → (∀ c_ ∈ C_, clOK c_) → ∀ b_ oC, pTx T L_ k_ a_ C_ = (b_, oC) → b_ ≤ L_ ∧ ∀ D_, oC = some D_ → D_.length ≤ 10 ∧ ∀ c_ ∈ D_, clOK c_ := by
  intro k_
  induction k_ with
  | zero =>
    intro a_ C_ ha_ hk hC b_ oC he
    rw [pTx] at he
    by_cases hl : a_ < L_
    · rw [if_pos hl] at he
      obtain ⟨he1, he2⟩ := Prod.mk.inj he
      rw [← he1]
      exact ⟨ha_, fun D_ hD => by rw [← he2] at hD; cases hD⟩
    · rw [if_neg hl] at he
      obtain ⟨he1, he2⟩ := Prod.mk.inj he
      rw [← he1]
      refine ⟨ha_, fun D_ hD => ?_⟩
      rw [← he2] at hD
      rw [← Option.some.inj hD]
      exact ⟨by omega, hC⟩
  | succ k_ ih_ =>
    intro a_ C_ ha_ hk hC b_ oC he
    rw [pTx] at he
    by_cases h59 : nx T L_ a_ = 59
    · have hl := nx_le (T := T) (L := L_) (a := a_) (by omega)
      rw [if_pos h59] at he
      cases hc_ : pCl T L_ (a_ + 1) with
      | mk b1 oc =>
        rw [hc_] at he
        obtain ⟨f1_, f2_⟩ := pCl_F hl hc_
        cases oc with
        | none =>
          have he : (b1, none) = (b_, oC) := he
          obtain ⟨he1, he2⟩ := Prod.mk.inj he
          rw [← he1]
          exact ⟨f1_.2, fun D_ hD => by rw [← he2] at hD; cases hD⟩
        | some c_ =>
          have he : pTx T L_ k_ b1 (C_ ++ [c_]) = (b_, oC) := he
          exact ih_ b1 (C_ ++ [c_]) f1_.2 (by simp only [List.length_append, List.length_cons, List.length_nil]; omega) (fun x_ hx => by
            rcases List.mem_append.mp hx with hx | hx
            · exact hC x_ hx
            · rw [List.mem_singleton.mp hx]; exact f2_ c_ rfl) b_ oC he
    · rw [if_neg h59] at he
      by_cases hl : a_ < L_
      · rw [if_pos hl] at he
        obtain ⟨he1, he2⟩ := Prod.mk.inj he
        rw [← he1]
        exact ⟨ha_, fun D_ hD => by rw [← he2] at hD; cases hD⟩
      · rw [if_neg hl] at he
        obtain ⟨he1, he2⟩ := Prod.mk.inj he
        rw [← he1]
        refine ⟨ha_, fun D_ hD => ?_⟩
        rw [← he2] at hD
        rw [← Option.some.inj hD]
        exact ⟨by omega, hC⟩
theorem pText_F {T : Nat → Nat} {L_ b_ : Nat} {oC : Option (List cla)} (he : pText T L_ = (b_, oC)) : b_ ≤ L_ ∧ ∀ D_, oC = some D_ → D_.length ≤ 10 ∧ ∀ c_ ∈ D_, clOK c_ := by
  unfold pText at he
  cases hc_ : pCl T L_ 0 with
  | mk b1 oc =>
    rw [hc_] at he
    obtain ⟨f1_, f2_⟩ := pCl_F (Nat.zero_le _) hc_
    cases oc with
    | none =>
      have he : (b1, none) = (b_, oC) := he
      obtain ⟨he1, he2⟩ := Prod.mk.inj he
      rw [← he1]
      exact ⟨f1_.2, fun D_ hD => by rw [← he2] at hD; cases hD⟩
    | some c_ =>
      have he : pTx T L_ 9 b1 [c_] = (b_, oC) := he
      exact pTx_F 9 b1 [c_] f1_.2 rfl (fun x_ hx => by rw [List.mem_singleton.mp hx]; exact f2_ c_ rfl) b_ oC he
theorem cX_at {h00 : hp} {w_ L_ a_ : Nat} {C_ : List cla} {h_ : hp} (H_ : cX h00 w_ L_ a_ C_ h_) (hl : a_ < L_) : cX h00 w_ L_ (a_ + 1) C_ (sI h_ w_ 8 (nI (a_ + 1))) := by
  obtain ⟨x0_, x7, x3, x6, xr, x8, x5_, x4_, xL, xl⟩ := H_
  refine ⟨x0_.tr (agX_sI (by omega)), x7, ?_, ?_, xr, ?_, ?_, x4_, hl, by omega⟩
  · rw [hI_sI, if_neg (by rintro ⟨-, hh⟩; exact absurd hh (by decide))]; exact x3
  · rw [hI_sI, if_neg (by rintro ⟨-, hh⟩; exact absurd hh (by decide))]; exact x6
  · rw [hI_sI, if_pos ⟨rfl, rfl⟩]
  · rw [hI_sI, if_neg (by rintro ⟨-, hh⟩; exact absurd hh (by decide))]; exact x5_
def rsX (b_ : Nat) (oC : Option (List cla)) : Int32 := match oC with
  | none => nI b_
  | some _ => -1
theorem X9_62 {h00 : hp} {w_ : Nat} {T : Nat → Nat} {L_ a_ : Nat} {C_ : List cla} {h_ : hp} (B_ : bX h00 w_ T L_) (H_ : cX h00 w_ L_ a_ C_ h_) : f_X9_parse_62 h_ w_ 1 = some (h_, if a_ < L_ then nI a_ else -1) := by
  obtain ⟨x0_, x7, x3, x6, xr, x8, x5_, x4_, xL, xl⟩ := id H_
  obtain ⟨k1_, k2_, e7_, e25_, -⟩ := pX_base (bX_ag B_ x0_ x7) (cX_p H_)
  have hL := B_.2.2.2.2
  unfold f_X9_parse_62 f_X9_parse_84 f_X9_parse_88
  rw [if_neg ne10, ckO_of k1_ k2_, ckO_of k1_ k2_, onO_of e7_, ckO_of (show sd 1 25 = true from rfl) (show kdOf h_ 25 = 4 from rfl), x8, e25_]
  by_cases hl : a_ < L_
  · rw [if_pos (nI_lt hl (by omega)), if_pos hl, ckO_of k1_ k2_]
  · rw [if_neg (nI_nlt (by omega) (by omega)), if_neg hl]
theorem X9_tx {h00 : hp} {w_ : Nat} {T : Nat → Nat} {L_ : Nat} (B_ : bX h00 w_ T L_) : ∀ k_ a_ C_ h_ n_, cX h00 w_ L_ a_ C_ h_ → C_.length + k_ = 10 → k_ + 1 < n_ → ∀ b_ oC, pTx T L_ k_ a_ C_ = (b_, oC) → ∃ h', f_X9_parse_32 n_ h_ w_ 1 (nI (10 - k_)) = some (h', rsX b_ oC) ∧ agW w_ h00 h' ∧ ∀ D_, oC = some D_ → cX h00 w_ L_ b_ D_ h' := by
  intro k_
  induction k_ with
  | zero =>
    intro a_ C_ h_ n_ H_ hk hn b_ oC he
    obtain ⟨n_, rfl⟩ : ∃ m_, n_ = m_ + 1 := ⟨n_ - 1, by omega⟩
    rw [pTx] at he
    rw [f_X9_parse_32, if_neg (show ¬ nI (10 - 0) < (10 : Int32) by decide), X9_62 B_ H_]
    by_cases hl : a_ < L_
    · rw [if_pos hl] at he ⊢
      obtain ⟨rfl, rfl⟩ := Prod.mk.inj he
      exact ⟨h_, rfl, H_.1, fun D_ hD => by cases hD⟩
    · rw [if_neg hl] at he ⊢
      obtain ⟨rfl, rfl⟩ := Prod.mk.inj he
      exact ⟨h_, rfl, H_.1, fun D_ hD => by rw [← Option.some.inj hD]; exact H_⟩
  | succ k_ ih_ =>
    intro a_ C_ h_ n_ H_ hk hn b_ oC he
    obtain ⟨n_, rfl⟩ : ∃ m_, n_ = m_ + 1 := ⟨n_ - 1, by omega⟩
    rw [pTx] at he
    have B1 := bX_ag B_ H_.1 H_.2.1
    obtain ⟨k1_, k2_, -⟩ := pX_base B1 (cX_p H_)
    have fa : f_X9_accept h_ w_ (59 : Int32) = _ := X9_acc (ch_ := 59) B1 (cX_p H_) (by decide)
    have hd_ : f_X9_parse_32 (n_ + 1) h_ w_ 1 (nI (10 - (k_ + 1))) = bnd (f_X9_accept h_ w_ (59 : Int32)) fun h33 r34 => if r34 = 0 then f_X9_parse_62 h33 w_ 1 else ckO 1 h33 w_ 11 (bnd (f_X9_clause h33 w_) fun h38 r39 => f_X9_parse_32 n_ h38 w_ r39 (nI (10 - k_))) := by
      rw [f_X9_parse_32, if_pos (show nI (10 - (k_ + 1)) < (10 : Int32) from nI_lt (b := 10) (by omega) (by decide)), if_neg ne10, ckO_of k1_ k2_, nI_1, show 10 - (k_ + 1) + 1 = 10 - k_ by omega]
      rfl
    rw [hd_]
    by_cases h59 : nx T L_ a_ = 59
    · have hl := nx_le (T := T) (L := L_) (a := a_) (by omega)
      rw [if_pos h59] at he fa
      have H2_ := cX_at H_ hl
      obtain ⟨m1_, m2_, -⟩ := pX_base (bX_ag B_ H2_.1 H2_.2.1) (cX_p H2_)
      rw [bnd_of fa, if_neg ne10, ckO_of m1_ m2_]
      cases hc_ : pCl T L_ (a_ + 1) with
      | mk b1 oc =>
        rw [hc_] at he
        obtain ⟨f1_, f2_⟩ := X9_clause B_ H2_ (by omega) hc_
        cases oc with
        | none =>
          have he : (b1, none) = (b_, oC) := he
          obtain ⟨he1, he2⟩ := Prod.mk.inj he
          obtain ⟨h', y1, y2, y3, y4⟩ := f1_ rfl
          rw [bnd_of y1, ← he1, ← he2]
          refine ⟨h', ?_, y2, fun D_ hD => by cases hD⟩
          have kk := (y2.kd w_).trans B_.1.2.1
          have e62 : f_X9_parse_62 h' w_ 0 = some (h', nI b1) := by
            unfold f_X9_parse_62 f_X9_parse_84 f_X9_parse_88
            rw [if_pos rfl, ckO_of k1_ kk, y3]
          obtain ⟨n', rfl⟩ : ∃ m_, n_ = m_ + 1 := ⟨n_ - 1, by omega⟩
          rw [f_X9_parse_32]
          by_cases hk2 : 10 - k_ < 10
          · rw [if_pos (show nI (10 - k_) < (10 : Int32) from nI_lt (b := 10) hk2 (by decide)), if_pos rfl]; exact e62
          · rw [if_neg (show ¬ nI (10 - k_) < (10 : Int32) from nI_nlt (b := 10) (by omega) (by omega))]; exact e62
        | some c_ =>
          have he : pTx T L_ k_ b1 (C_ ++ [c_]) = (b_, oC) := he
          obtain ⟨h', y1, y2⟩ := f2_ c_ rfl
          rw [bnd_of y1]
          exact ih_ b1 (C_ ++ [c_]) h' n_ y2 (by simp only [List.length_append, List.length_cons, List.length_nil]; omega) (by omega) b_ oC he
    · rw [if_neg h59] at he fa
      rw [bnd_of fa, if_pos rfl, X9_62 B_ H_]
      by_cases hl : a_ < L_
      · rw [if_pos hl] at he ⊢
        obtain ⟨rfl, rfl⟩ := Prod.mk.inj he
        exact ⟨h_, rfl, H_.1, fun D_ hD => by cases hD⟩
      · rw [if_neg hl] at he ⊢
        obtain ⟨rfl, rfl⟩ := Prod.mk.inj he
        exact ⟨h_, rfl, H_.1, fun D_ hD => by rw [← Option.some.inj hD]; exact H_⟩
theorem cX_wdX {h00 : hp} {w_ L_ a_ : Nat} {C_ : List cla} {h_ : hp} (W : wdK h00 w_) (hL : L_ ≤ 100) (H_ : cX h00 w_ L_ a_ C_ h_) : wdX h_ w_ C_ := by
  obtain ⟨x0_, x7, x3, x6, xr, x8, x5_, x4_, xL, xl⟩ := H_
  refine ⟨wdK_kd x0_.kd W, x3, x6, by rw [offs_all]; omega, fun k_ c_ hc_ => ?_⟩
  obtain ⟨r1_, r2, r3⟩ := xr k_ c_ hc_
  exact ⟨r1_, r2, r3, fun j_ d_ hd_ => x4_ _ d_ (flat_at C_ k_ j_ c_ d_ hc_ hd_)⟩
theorem X9_parse {h_ : hp} {w_ : Nat} {T : Nat → Nat} {L_ : Nat} (W : wdK h_ w_) (h25 : hI h_ 25 1 = nI L_) (hT_ : ∀ k_, k_ < L_ → aI h_ 26 k_ = nI (T k_) ∧ T k_ < 128) (hL : L_ ≤ 100) {b_ : Nat} {oC : Option (List cla)} (he : pText T L_ = (b_, oC)) : ∃ h', f_X9_parse h_ w_ 25 = some (h', rsX b_ oC) ∧ agW w_ h_ h' ∧ ∀ D_, oC = some D_ → wdX h' w_ D_ := by
  have hn := wd_num W
  have B_ : bX (sR h_ w_ 7 (some 25)) w_ T L_ := ⟨wdK_kd (fun j_ => rfl) W, by rw [hR_sR, if_pos ⟨rfl, rfl⟩], h25, hT_, hL⟩
  have x0_ : agW w_ h_ (sR h_ w_ 7 (some 25)) := agX_sR (by omega)
  have k1_ := W.1
  have k2_ := W.2.1
  unfold f_X9_parse
  rw [ckO_of k1_ k2_, ckV_of (show sd 1 25 = true from rfl) (show kdOf h_ 25 ≠ 0 from (show ¬ (4 : Nat) = 0 by decide)), nm_eq, ckO_of k1_ (show kdOf (sR h_ w_ 7 (some 25)) w_ = 11 from k2_), nm_eq]
  generalize hg : sR h_ w_ 7 (some 25) = g0 at B_ x0_ ⊢
  have d0_ : kdOf g0 w_ = 11 := by rw [← hg]; exact k2_
  have r0 : hR g0 w_ 7 = some 25 := B_.2.1
  rw [ckO_of k1_ (show kdOf (sI g0 w_ 8 0) w_ = 11 from d0_), nm_eq, ckO_of k1_ (show kdOf (sI (sI g0 w_ 8 0) w_ 3 0) w_ = 11 from d0_), nm_eq, ckO_of k1_ (show kdOf (sI (sI (sI g0 w_ 8 0) w_ 3 0) w_ 5 0) w_ = 11 from d0_), nm_eq, ckO_of k1_ (show kdOf (sI (sI (sI (sI g0 w_ 8 0) w_ 3 0) w_ 5 0) w_ 6 2) w_ = 11 from d0_)]
  generalize hg5 : sI (sI (sI (sI g0 w_ 8 0) w_ 3 0) w_ 5 0) w_ 6 2 = g5_
  have H_ : cX g0 w_ L_ 0 [] g5_ := by
    rw [← hg5]
    refine ⟨(((agX_sI (by omega)).tr (agX_sI (by omega))).tr (agX_sI (by omega))).tr (agX_sI (by omega)), r0, ?_, ?_, fun k_ c_ hc_ => by simp at hc_, ?_, ?_, fun i_ d_ hi_ => by simp [flat] at hi_, Nat.zero_le _, Nat.le_refl _⟩
    · rw [hI_sI, if_neg (by rintro ⟨-, hh⟩; exact absurd hh (by decide)), hI_sI, if_neg (by rintro ⟨-, hh⟩; exact absurd hh (by decide)), hI_sI, if_pos ⟨rfl, rfl⟩]; rfl
    · rw [hI_sI, if_pos ⟨rfl, rfl⟩]; rfl
    · rw [hI_sI, if_neg (by rintro ⟨-, hh⟩; exact absurd hh (by decide)), hI_sI, if_neg (by rintro ⟨-, hh⟩; exact absurd hh (by decide)), hI_sI, if_neg (by rintro ⟨-, hh⟩; exact absurd hh (by decide)), hI_sI, if_pos ⟨rfl, rfl⟩]; rfl
    · rw [hI_sI, if_neg (by rintro ⟨-, hh⟩; exact absurd hh (by decide)), hI_sI, if_pos ⟨rfl, rfl⟩]; rfl
  unfold pText at he
  cases hc_ : pCl T L_ 0 with
  | mk b1 oc =>
    rw [hc_] at he
    obtain ⟨f1_, f2_⟩ := X9_clause B_ H_ (by decide) hc_
    cases oc with
    | none =>
      have he : (b1, none) = (b_, oC) := he
      obtain ⟨he1, he2⟩ := Prod.mk.inj he
      obtain ⟨h', y1, y2, y3, y4⟩ := f1_ rfl
      rw [bnd_of y1, ← he1, ← he2]
      refine ⟨h', ?_, x0_.tr y2, fun D_ hD => by cases hD⟩
      rw [f_X9_parse_32, if_pos (by decide), if_pos rfl]
      unfold f_X9_parse_62 f_X9_parse_84 f_X9_parse_88
      rw [if_pos rfl, ckO_of k1_ ((y2.kd w_).trans d0_), y3]; rfl
    | some c_ =>
      have he : pTx T L_ 9 b1 [c_] = (b_, oC) := he
      obtain ⟨h', y1, y2⟩ := f2_ c_ rfl
      rw [bnd_of y1]
      obtain ⟨h2, z1, z2, z3⟩ := X9_tx B_ 9 b1 [c_] h' 2000 y2 rfl (by decide) b_ oC he
      exact ⟨h2, z1, x0_.tr z2, fun D_ hD => cX_wdX B_.1 hL (z3 D_ hD)⟩
