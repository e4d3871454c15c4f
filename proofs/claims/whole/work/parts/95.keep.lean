-- ===== what showing leaves alone =====
def kpQ (Q_ : hp → Prop) {α : Type} (r_ : Option (hp × α)) : Prop := ∀ h' a_, r_ = some (h', a_) → Q_ h'
theorem kp_none {Q_ : hp → Prop} {α : Type} : kpQ Q_ (none : Option (hp × α)) := fun _ _ e_ => nomatch e_
theorem kp_some {Q_ : hp → Prop} {α : Type} {h_ : hp} {x_ : α} (H_ : Q_ h_) : kpQ Q_ (some (h_, x_)) := fun _ _ e_ => by injection e_ with e_; injection e_ with e1_ e2_; rw [← e1_]; exact H_
theorem kp_ite {Q_ : hp → Prop} {α : Type} {c_ : Prop} [Decidable c_] {a_ b_ : Option (hp × α)} (h1 : kpQ Q_ a_) (h2 : kpQ Q_ b_) : kpQ Q_ (if c_ then a_ else b_) := by
  by_cases hc_ : c_
  · rw [if_pos hc_]; exact h1
  · rw [if_neg hc_]; exact h2
theorem kp_chk {Q_ : hp → Prop} {α : Type} {x_ : Int32} {n_ : Nat} {a_ : Option (hp × α)} (H_ : kpQ Q_ a_) : kpQ Q_ (chk x_ n_ a_) := kp_ite kp_none H_
theorem kp_nz {Q_ : hp → Prop} {α : Type} {x_ : Int32} {a_ : Option (hp × α)} (H_ : kpQ Q_ a_) : kpQ Q_ (nz x_ a_) := kp_ite kp_none H_
theorem kp_ckO {Q_ : hp → Prop} {α : Type} {b_ : Nat} {h_ : hp} {i_ c_ : Nat} {a_ : Option (hp × α)} (H_ : kpQ Q_ a_) : kpQ Q_ (ckO b_ h_ i_ c_ a_) := kp_ite H_ kp_none
theorem kp_ckS {Q_ : hp → Prop} {α : Type} {h_ : hp} {i_ : Nat} {a_ : Option (hp × α)} (H_ : kpQ Q_ a_) : kpQ Q_ (ckS h_ i_ a_) := kp_ite H_ kp_none
theorem kp_ckZ {Q_ : hp → Prop} {α : Type} {v_ : Int32} {a_ : Option (hp × α)} (H_ : kpQ Q_ a_) : kpQ Q_ (ckZ v_ a_) := kp_ite H_ kp_none
theorem kp_onO {Q_ : hp → Prop} {α : Type} {o : Option Nat} {a_ : Option (hp × α)} {b_ : Nat → Option (hp × α)} (h1 : kpQ Q_ a_) (h2 : ∀ i_, kpQ Q_ (b_ i_)) : kpQ Q_ (onO o a_ b_) := by
  cases o with
  | none => exact h1
  | some i_ => exact h2 i_
theorem kp_bnr {Q_ : hp → Prop} {α β : Type} {o : Option β} {k_ : β → Option (hp × α)} (H_ : ∀ x_, kpQ Q_ (k_ x_)) : kpQ Q_ (bnr o k_) := by
  cases o with
  | none => exact kp_none
  | some x_ => exact H_ x_
theorem kp_bnd {Q_ : hp → Prop} {α β : Type} {o : Option (hp × β)} {k_ : hp → β → Option (hp × α)} (h1 : kpQ Q_ o) (h2 : ∀ h_ x_, Q_ h_ → kpQ Q_ (k_ h_ x_)) : kpQ Q_ (bnd o k_) := by
  cases o with
  | none => exact kp_none
  | some p_ => exact h2 p_.1 p_.2 (h1 _ _ rfl)
theorem kp_nm {Q_ : hp → Prop} {α β : Type} {v_ : β} {k_ : β → Option (hp × α)} (H_ : kpQ Q_ (k_ v_)) : kpQ Q_ (nm v_ k_) := H_
theorem keepX {Q_ : hp → Prop} (hQ : ∀ h_ k_ v_, Q_ h_ → Q_ (tI h_ 35 k_ v_)) {h_ : hp} {a_ b_ : Int32} (H_ : Q_ h_) : kpQ Q_ (f_X11_shownNow h_ a_ b_) := by
  have h107 : ∀ h_ a_ b_ c_ d_ e_, Q_ h_ → kpQ Q_ (f_X11_shown_107 h_ a_ b_ c_ d_ e_) := by
    intro h_ a_ b_ c_ d_ e_ H_
    unfold f_X11_shown_107
    exact kp_nz (kp_chk (kp_ckS (kp_bnr fun _ => kp_some H_)))
  have hsh : ∀ h_ a_ b_ c_ d_, Q_ h_ → kpQ Q_ (f_X11_shown h_ a_ b_ c_ d_) := by
    intro h_ a_ b_ c_ d_ H_
    unfold f_X11_shown
    refine kp_chk (kp_onO kp_none fun o => ?_)
    refine kp_onO (h107 _ _ _ _ _ _ H_) fun _ => ?_
    refine kp_chk (kp_nm (kp_ckS (kp_chk (kp_nm ?_))))
    refine kp_chk (kp_nm (kp_bnr fun _ => kp_chk (kp_nm ?_)))
    refine kp_chk (kp_nz (kp_chk (kp_nm (kp_nz (kp_chk (kp_nm ?_))))))
    refine kp_onO kp_none fun _ => kp_ckO (kp_bnr fun _ => h107 _ _ _ _ _ _ ?_)
    exact hQ _ _ _ (hQ _ _ _ (hQ _ _ _ (hQ _ _ _ (hQ _ _ _ (hQ _ _ _ H_)))))
  unfold f_X11_shownNow
  exact kp_chk (kp_onO kp_none fun o => kp_ckS (kp_bnd (hsh _ _ _ _ _ H_) fun h_ x_ H_ => kp_some H_))
theorem keepM {Q_ : hp → Prop} (hQ : ∀ h_ k_ v_, Q_ h_ → Q_ (tI h_ 67 k_ v_)) {h_ : hp} {a_ b_ : Int32} (H_ : Q_ h_) : kpQ Q_ (f_X12_showsOf h_ a_ b_) := by
  have u247 : ∀ kk, (∀ h_ a_ b_ c_ d_ e_, Q_ h_ → kpQ Q_ (kk h_ a_ b_ c_ d_ e_)) → ∀ h_ a_ b_ c_ d_ e_, Q_ h_ → kpQ Q_ (f_X12_holds_247 kk h_ a_ b_ c_ d_ e_) := by
    intro kk hk h_ a_ b_ c_ d_ e_ H_
    unfold f_X12_holds_247
    exact kp_nm (hk _ _ _ _ _ _ H_)
  have u63 : ∀ kk, (∀ h_ a_ b_ c_ d_ e_, Q_ h_ → kpQ Q_ (kk h_ a_ b_ c_ d_ e_)) → ∀ h_ a_ b_ c_ d_ e_ f_ g_, Q_ h_ → kpQ Q_ (f_X12_holds_63 kk h_ a_ b_ c_ d_ e_ f_ g_) := by
    intro kk hk h_ a_ b_ c_ d_ e_ f_ g_ H_
    unfold f_X12_holds_63
    exact kp_chk (kp_nm (u247 kk hk _ _ _ _ _ _ (hQ _ _ _ H_)))
  have u147 : ∀ kk, (∀ h_ a_ b_ c_ d_ e_, Q_ h_ → kpQ Q_ (kk h_ a_ b_ c_ d_ e_)) → ∀ h_ a_ b_ c_ d_ e_ f_ g_, Q_ h_ → kpQ Q_ (f_X12_holds_147 kk h_ a_ b_ c_ d_ e_ f_ g_) := by
    intro kk hk h_ a_ b_ c_ d_ e_ f_ g_ H_
    unfold f_X12_holds_147
    exact kp_chk (kp_nm (u247 kk hk _ _ _ _ _ _ (hQ _ _ _ H_)))
  have u243 : ∀ kk, (∀ h_ a_ b_ c_ d_ e_, Q_ h_ → kpQ Q_ (kk h_ a_ b_ c_ d_ e_)) → ∀ h_ a_ b_ c_ d_ e_ f_ g_, Q_ h_ → kpQ Q_ (f_X12_holds_243 kk h_ a_ b_ c_ d_ e_ f_ g_) := by
    intro kk hk h_ a_ b_ c_ d_ e_ f_ g_ H_
    unfold f_X12_holds_243
    exact kp_chk (kp_nm (kp_nm (u247 kk hk _ _ _ _ _ _ (hQ _ _ _ H_))))
  have u11 : ∀ n_ h_ a_ b_ c_ d_ e_, Q_ h_ → kpQ Q_ (f_X12_holds_11 n_ h_ a_ b_ c_ d_ e_) := by
    intro n_
    induction n_ with
    | zero => intro h_ a_ b_ c_ d_ e_ H_; exact kp_none
    | succ n_ ih_ =>
      intro h_ a_ b_ c_ d_ e_ H_
      rw [f_X12_holds_11]
      unfold f_X12_holds_116 f_X12_holds_142
      generalize hF : f_X12_holds_11 n_ = F_ at *
      have v1_ := fun a_ b_ c_ d_ e_ f_ g_ => u63 F_ ih_ h_ a_ b_ c_ d_ e_ f_ g_ H_
      have v2 := fun a_ b_ c_ d_ e_ f_ g_ => u147 F_ ih_ h_ a_ b_ c_ d_ e_ f_ g_ H_
      have v3 := fun a_ b_ c_ d_ e_ f_ g_ => u243 F_ ih_ h_ a_ b_ c_ d_ e_ f_ g_ H_
      repeat' first
        | with_reducible exact kp_none
        | with_reducible exact v1_ _ _ _ _ _ _ _
        | with_reducible exact v2 _ _ _ _ _ _ _
        | with_reducible exact v3 _ _ _ _ _ _ _
        | with_reducible exact kp_some H_
        | with_reducible apply kp_ite
        | with_reducible apply kp_chk
        | with_reducible apply kp_nz
        | with_reducible apply kp_ckZ
        | with_reducible (refine kp_bnr fun _ => ?_)
        | rw [nm_eq]
  have uh : ∀ h_ a_ b_ c_, Q_ h_ → kpQ Q_ (f_X12_holds h_ a_ b_ c_) := by
    intro h_ a_ b_ c_ H_
    unfold f_X12_holds
    exact kp_chk (kp_nm (u11 _ _ _ _ _ _ _ H_))
  have u8 : ∀ n_ h_ a_ b_ c_ d_, Q_ h_ → kpQ Q_ (f_X12_blind_8 n_ h_ a_ b_ c_ d_) := by
    intro n_
    induction n_ with
    | zero => intro h_ a_ b_ c_ d_ H_; exact kp_none
    | succ n_ ih_ =>
      intro h_ a_ b_ c_ d_ H_
      rw [f_X12_blind_8]
      unfold f_X12_blind_105 f_X12_blind_106
      refine kp_bnr fun _ => kp_ite (kp_chk (kp_ite (kp_nm (ih_ _ _ _ _ _ H_)) (kp_bnd (uh _ _ _ _ H_) fun h2 x_ H2_ => ?_))) (kp_some H_)
      repeat' first
        | with_reducible exact kp_none
        | with_reducible exact ih_ _ _ _ _ _ H2_
        | with_reducible apply kp_ite
        | with_reducible apply kp_chk
        | with_reducible apply kp_nz
        | with_reducible (refine kp_bnr fun _ => ?_)
        | rw [nm_eq]
  have ub_ : ∀ h_ a_ b_, Q_ h_ → kpQ Q_ (f_X12_blind h_ a_ b_) := by
    intro h_ a_ b_ H_
    unfold f_X12_blind
    exact kp_bnr fun _ => u8 _ _ _ _ _ _ H_
  unfold f_X12_showsOf f_X12_showsOf_105
  refine kp_bnd (ub_ _ _ _ H_) fun h2 x_ H2_ => ?_
  repeat' first
    | with_reducible exact kp_none
    | with_reducible exact kp_some H2_
    | with_reducible apply kp_ite
    | with_reducible apply kp_chk
    | with_reducible apply kp_nz
    | with_reducible (refine kp_bnr fun _ => ?_)
    | rw [nm_eq]
