-- ===== how long_, how deep_ what is_ read_ goes_ =====
def spD (S_ : Nat → pR) (L_ H_ : Nat) : Prop := ∀ a_ b_ t_, a_ ≤ L_ → S_ a_ = (b_, some t_) → b_ ≤ L_ ∧ a_ + t_.length ≤ b_ ∧ ∀ x_ rest_, x_ + H_ ≤ 20 → dep (t_ ++ rest_) x_ = dep rest_ (x_ + 1)
def spF (S_ : Nat → pR) (L_ : Nat) : Prop := ∀ a_ b_ ot, a_ ≤ L_ → S_ a_ = (b_, ot) → a_ ≤ b_ ∧ b_ ≤ L_
theorem dep_test {c_ x_ : Nat} {rest_ : List Nat} (hc_ : c_ < 1800) (hx : x_ + 1 ≤ 20) : dep (c_ :: rest_) x_ = dep rest_ (x_ + 1) := by
  rw [dep, if_neg (by omega), if_neg (by omega), if_pos ⟨hc_, by omega⟩]
theorem pNum_le {T : Nat → Nat} {L_ a_ b_ : Nat} {on_ : Option Nat} (ha_ : a_ ≤ L_) (h_ : pNum T L_ a_ = (b_, on_)) : a_ ≤ b_ ∧ b_ ≤ L_ := by
  obtain ⟨n1_, n2_⟩ := pNum_lt h_
  cases on_ with
  | none => have := n1_ rfl; omega
  | some n_ => have := n2_ n_ rfl; omega
theorem pTest_F {T : Nat → Nat} {L_ : Nat} : spF (pTest T L_) L_ := by
  intro a_ b_ ot ha_ h_
  unfold pTest at h_
  by_cases h1 : lt6 (nx T L_ a_) = 6
  · rw [if_pos h1] at h_
    obtain ⟨rfl, rfl⟩ := Prod.mk.inj h_
    exact ⟨Nat.le_refl _, ha_⟩
  · have l1 := nx_le (T := T) (L := L_) (a := a_) (fun e_ => h1 (by rw [e_]; rfl))
    rw [if_neg h1] at h_
    by_cases h2 : 60 ≤ nx T L_ (a_ + 1) ∧ nx T L_ (a_ + 1) ≤ 62
    · have l2 := nx_le (T := T) (L := L_) (a := a_ + 1) (by omega)
      rw [if_pos h2] at h_
      cases hn : pNum T L_ (a_ + 2) with
      | mk b1 on_ =>
        rw [hn] at h_
        have := pNum_le (by omega) hn
        cases on_ with
        | none =>
          have h_ : (b1, none) = (b_, ot) := h_
          obtain ⟨rfl, rfl⟩ := Prod.mk.inj h_
          omega
        | some n_ =>
          have h_ : (b1, some [300 * lt6 (nx T L_ a_) + 100 * (nx T L_ (a_ + 1) - 60) + n_]) = (b_, ot) := h_
          obtain ⟨rfl, rfl⟩ := Prod.mk.inj h_
          omega
    · rw [if_neg h2] at h_
      obtain ⟨rfl, rfl⟩ := Prod.mk.inj h_
      omega
theorem pTest_D {T : Nat → Nat} {L_ H_ : Nat} (hH : 1 ≤ H_) : spD (pTest T L_) L_ H_ := by
  intro a_ b_ t_ ha_ h_
  obtain ⟨-, h2⟩ := pTest_lt h_
  obtain ⟨g1, g2, c_, rfl, g3_⟩ := h2 t_ rfl
  refine ⟨g2, by simp only [List.length_cons, List.length_nil]; omega, fun x_ rest_ hx => ?_⟩
  exact dep_test g3_ (by omega)
theorem pBL_D {T : Nat → Nat} {L_ ch_ cd H_ : Nat} {S_ : Nat → pR} (hS_ : spD S_ L_ H_) (hF : spF S_ L_) (hcd : cd = 2002 ∨ cd = 2003) (h999 : ch_ ≠ 999) : ∀ j_ a_ u_ b_ ot, a_ ≤ L_ → pBL T L_ ch_ cd S_ j_ a_ u_ = (b_, ot) → (a_ ≤ b_ ∧ b_ ≤ L_) ∧ ∀ a0_ t_, a0_ + u_.length ≤ a_ → ot = some t_ → (∀ x_ rest_, x_ + (H_ + 1) ≤ 20 → dep (u_ ++ rest_) x_ = dep rest_ (x_ + 1)) → a0_ + t_.length ≤ b_ ∧ ∀ x_ rest_, x_ + (H_ + 1) ≤ 20 → dep (t_ ++ rest_) x_ = dep rest_ (x_ + 1) := by
  intro j_
  induction j_ with
  | zero =>
    intro a_ u_ b_ ot ha_ h_
    have h_ : (a_, some u_) = (b_, ot) := h_
    obtain ⟨rfl, rfl⟩ := Prod.mk.inj h_
    refine ⟨⟨Nat.le_refl _, ha_⟩, fun a0_ t_ h0 ht hu => ?_⟩
    cases ht
    exact ⟨h0, hu⟩
  | succ j_ ih_ =>
    intro a_ u_ b_ ot ha_ h_
    rw [pBL] at h_
    by_cases hc_ : nx T L_ a_ = ch_
    · rw [if_pos hc_] at h_
      have hl := nx_le (T := T) (L := L_) (a := a_) (by rw [hc_]; exact h999)
      cases hs : S_ (a_ + 1) with
      | mk b1 o1 =>
        rw [hs] at h_
        obtain ⟨f1_, f2_⟩ := hF (a_ + 1) b1 o1 (by omega) hs
        cases o1 with
        | none =>
          have h_ : (b1, none) = (b_, ot) := h_
          obtain ⟨rfl, rfl⟩ := Prod.mk.inj h_
          exact ⟨⟨by omega, f2_⟩, fun a0_ t_ h0 ht => by cases ht⟩
        | some t1_ =>
          have h_ : pBL T L_ ch_ cd S_ j_ b1 (u_ ++ t1_ ++ [cd]) = (b_, ot) := h_
          obtain ⟨g1, g2, g3_⟩ := hS_ (a_ + 1) b1 t1_ (by omega) hs
          obtain ⟨i1_, i2_⟩ := ih_ b1 (u_ ++ t1_ ++ [cd]) b_ ot g1 h_
          refine ⟨⟨by omega, i1_.2⟩, fun a0_ t_ h0 ht hu => i2_ a0_ t_ ?_ ht fun x_ rest_ hx => ?_⟩
          · simp only [List.length_append, List.length_cons, List.length_nil]; omega
          · rw [List.append_assoc, List.append_assoc, hu x_ _ hx, g3_ (x_ + 1) _ (by omega)]
            show dep (cd :: rest_) (x_ + 1 + 1) = _
            rw [dep, if_neg (by omega), if_pos hcd, if_pos (by omega)]
            rfl
    · rw [if_neg hc_] at h_
      have h_ : (a_, some u_) = (b_, ot) := h_
      obtain ⟨rfl, rfl⟩ := Prod.mk.inj h_
      refine ⟨⟨Nat.le_refl _, ha_⟩, fun a0_ t_ h0 ht hu => ?_⟩
      cases ht
      exact ⟨h0, hu⟩
theorem pBo_D {T : Nat → Nat} {L_ ch_ cd H_ : Nat} {S_ : Nat → pR} (hS_ : spD S_ L_ H_) (hF : spF S_ L_) (hcd : cd = 2002 ∨ cd = 2003) (h999 : ch_ ≠ 999) : spD (pBo T L_ ch_ cd S_) L_ (H_ + 1) ∧ spF (pBo T L_ ch_ cd S_) L_ := by
  constructor
  · intro a_ b_ t_ ha_ h_
    rw [pBo] at h_
    cases hs : S_ a_ with
    | mk b1 o1 =>
      rw [hs] at h_
      cases o1 with
      | none => have h_ : (b1, none) = (b_, some t_) := h_; cases h_
      | some t1_ =>
        have h_ : pBL T L_ ch_ cd S_ 100 b1 t1_ = (b_, some t_) := h_
        obtain ⟨g1, g2, g3_⟩ := hS_ a_ b1 t1_ ha_ hs
        obtain ⟨i1_, i2_⟩ := pBL_D hS_ hF hcd h999 100 b1 t1_ b_ (some t_) g1 h_
        obtain ⟨k1_, k2_⟩ := i2_ a_ t_ g2 rfl (fun x_ rest_ hx => g3_ x_ rest_ (by omega))
        exact ⟨i1_.2, k1_, k2_⟩
  · intro a_ b_ ot ha_ h_
    rw [pBo] at h_
    cases hs : S_ a_ with
    | mk b1 o1 =>
      rw [hs] at h_
      obtain ⟨f1_, f2_⟩ := hF a_ b1 o1 ha_ hs
      cases o1 with
      | none =>
        have h_ : (b1, none) = (b_, ot) := h_
        obtain ⟨rfl, rfl⟩ := Prod.mk.inj h_
        exact ⟨f1_, f2_⟩
      | some t1_ =>
        have h_ : pBL T L_ ch_ cd S_ 100 b1 t1_ = (b_, ot) := h_
        obtain ⟨i1_, -⟩ := pBL_D hS_ hF hcd h999 100 b1 t1_ b_ ot f2_ h_
        omega
theorem pEi_D {T : Nat → Nat} {L_ H_ : Nat} {S_ : Nat → pR} (hS_ : spD S_ L_ H_) (hF : spF S_ L_) : spD (pEi T L_ S_) L_ (H_ + 2) ∧ spF (pEi T L_ S_) L_ := by
  obtain ⟨b1, b2⟩ := pBo_D (T := T) (ch_ := 38) (cd := 2002) hS_ hF (Or.inl rfl) (by decide)
  exact pBo_D (T := T) (ch_ := 124) (cd := 2003) b1 b2 (Or.inr rfl) (by decide)
theorem spD_up {S_ : Nat → pR} {L_ H_ H' : Nat} (h_ : H_ ≤ H') (hS_ : spD S_ L_ H_) : spD S_ L_ H' := fun a_ b_ t_ ha_ e_ => by
  obtain ⟨g1, g2, g3_⟩ := hS_ a_ b_ t_ ha_ e_
  exact ⟨g1, g2, fun x_ rest_ hx => g3_ x_ rest_ (by omega)⟩
theorem pSi_D {T : Nat → Nat} {L_ : Nat} : ∀ r_, spD (pSi T L_ r_) L_ (1 + 2 * r_) ∧ spF (pSi T L_ r_) L_ := by
  intro r_
  induction r_ with
  | zero => exact ⟨pTest_D (Nat.le_refl _), pTest_F⟩
  | succ r_ ih_ =>
    obtain ⟨e1_, e2_⟩ := pEi_D (T := T) ih_.1 ih_.2
    constructor
    · intro a_ b_ t_ ha_ h_
      rw [pSi] at h_
      by_cases c1_ : nx T L_ a_ = 33
      · have hl := nx_le (T := T) (L := L_) (a := a_) (by omega)
        rw [if_pos c1_] at h_
        cases hs : pSi T L_ r_ (a_ + 1) with
        | mk b1 o1 =>
          rw [hs] at h_
          cases o1 with
          | none => have h_ : (b1, none) = (b_, some t_) := h_; cases h_
          | some t1_ =>
            have h_ : (b1, some (t1_ ++ [2001])) = (b_, some t_) := h_
            obtain ⟨hb_, ht⟩ := Prod.mk.inj h_
            obtain ⟨g1, g2, g3_⟩ := ih_.1 (a_ + 1) b1 t1_ (by omega) hs
            rw [← hb_, ← Option.some.inj ht]
            refine ⟨g1, by simp only [List.length_append, List.length_cons, List.length_nil]; omega, fun x_ rest_ hx => ?_⟩
            rw [List.append_assoc, g3_ x_ _ (by omega)]
            show dep (2001 :: rest_) (x_ + 1) = _
            rw [dep, if_pos rfl, if_pos (by omega)]
      · rw [if_neg c1_] at h_
        by_cases c2_ : nx T L_ a_ = 40
        · have hl := nx_le (T := T) (L := L_) (a := a_) (by omega)
          rw [if_pos c2_] at h_
          cases hs : pEi T L_ (pSi T L_ r_) (a_ + 1) with
          | mk b1 o1 =>
            rw [hs] at h_
            cases o1 with
            | none => have h_ : (b1, none) = (b_, some t_) := h_; cases h_
            | some t1_ =>
              have h_ : (if nx T L_ b1 = 41 then (b1 + 1, some t1_) else (b1, none)) = (b_, some t_) := h_
              by_cases c3_ : nx T L_ b1 = 41
              · have hl2 := nx_le (T := T) (L := L_) (a := b1) (by omega)
                rw [if_pos c3_] at h_
                obtain ⟨hb_, ht⟩ := Prod.mk.inj h_
                obtain ⟨g1, g2, g3_⟩ := e1_ (a_ + 1) b1 t1_ (by omega) hs
                rw [← hb_, ← Option.some.inj ht]
                exact ⟨by omega, by omega, fun x_ rest_ hx => g3_ x_ rest_ (by omega)⟩
              · rw [if_neg c3_] at h_; cases h_
        · rw [if_neg c2_] at h_
          exact pTest_D (H_ := 1 + 2 * (r_ + 1)) (by omega) a_ b_ t_ ha_ h_
    · intro a_ b_ ot ha_ h_
      rw [pSi] at h_
      by_cases c1_ : nx T L_ a_ = 33
      · have hl := nx_le (T := T) (L := L_) (a := a_) (by omega)
        rw [if_pos c1_] at h_
        cases hs : pSi T L_ r_ (a_ + 1) with
        | mk b1 o1 =>
          rw [hs] at h_
          obtain ⟨f1_, f2_⟩ := ih_.2 (a_ + 1) b1 o1 (by omega) hs
          cases o1 with
          | none => have h_ : (b1, none) = (b_, ot) := h_; cases h_; omega
          | some t1_ => have h_ : (b1, some (t1_ ++ [2001])) = (b_, ot) := h_; cases h_; omega
      · rw [if_neg c1_] at h_
        by_cases c2_ : nx T L_ a_ = 40
        · have hl := nx_le (T := T) (L := L_) (a := a_) (by omega)
          rw [if_pos c2_] at h_
          cases hs : pEi T L_ (pSi T L_ r_) (a_ + 1) with
          | mk b1 o1 =>
            rw [hs] at h_
            obtain ⟨f1_, f2_⟩ := e2_ (a_ + 1) b1 o1 (by omega) hs
            cases o1 with
            | none => have h_ : (b1, none) = (b_, ot) := h_; cases h_; omega
            | some t1_ =>
              have h_ : (if nx T L_ b1 = 41 then (b1 + 1, some t1_) else (b1, none)) = (b_, ot) := h_
              by_cases c3_ : nx T L_ b1 = 41
              · have hl2 := nx_le (T := T) (L := L_) (a := b1) (by omega)
                rw [if_pos c3_] at h_
                cases h_; omega
              · rw [if_neg c3_] at h_; cases h_; omega
        · rw [if_neg c2_] at h_
          exact pTest_F a_ b_ ot ha_ h_
theorem pE_D {T : Nat → Nat} {L_ : Nat} : spD (pEi T L_ (pSi T L_ 4)) L_ 11 ∧ spF (pEi T L_ (pSi T L_ 4)) L_ := pEi_D (pSi_D 4).1 (pSi_D 4).2
/-- a_ clause's text: verb, number, test_ -/
def fV (c_ : Nat) : Option Nat := if c_ = 111 then some 0 else if c_ = 115 then some 1 else if c_ = 116 then some 2 else if c_ = 110 then some 3 else none
/-- the rest_ of_ a_ word_: j_ letters of_ it are left -/
def pWd (T : Nat → Nat) (L_ v_ : Nat) : Nat → Nat → Nat × Bool
  | 0, a_ => (a_, true)
  | j_ + 1, a_ => if nx T L_ a_ = lets.getD (4 * v_ + (3 - j_)) 0 then pWd T L_ v_ j_ (a_ + 1) else (a_, false)
def pCl (T : Nat → Nat) (L_ a_ : Nat) : Nat × Option cla := match fV (nx T L_ a_) with
  | none => (a_, none)
  | some v_ => match pWd T L_ v_ 3 (a_ + 1) with
    | (b_, false) => (b_, none)
    | (b_, true) => if nx T L_ b_ = 32 then (match pNum T L_ (b_ + 1) with
      | (c_, none) => (c_, none)
      | (c_, some n_) => if v_ = 3 then (c_, some (3, n_, [])) else if nx T L_ c_ = 32 then (match pEi T L_ (pSi T L_ 4) (c_ + 1) with
        | (d_, none) => (d_, none)
        | (d_, some t_) => (d_, some (v_, n_, t_))) else (c_, none)) else (b_, none)
/-- the clauses; k_ more_ may_ come -/
def pTx (T : Nat → Nat) (L_ : Nat) : Nat → Nat → List cla → Nat × Option (List cla)
  | 0, a_, C_ => if a_ < L_ then (a_, none) else (a_, some C_)
  | k_ + 1, a_, C_ => if nx T L_ a_ = 59 then (match pCl T L_ (a_ + 1) with
    | (b_, none) => (b_, none)
    | (b_, some c_) => pTx T L_ k_ b_ (C_ ++ [c_])) else if a_ < L_ then (a_, none) else (a_, some C_)
def pText (T : Nat → Nat) (L_ : Nat) : Nat × Option (List cla) := match pCl T L_ 0 with
  | (b_, none) => (b_, none)
  | (b_, some c_) => pTx T L_ 9 b_ [c_]
