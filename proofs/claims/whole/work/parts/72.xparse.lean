-- ===== reading a_ text: the class's way_ =====
def bX (h0 : hp) (w_ : Nat) (T : Nat → Nat) (L_ : Nat) : Prop := wdK h0 w_ ∧ hR h0 w_ 7 = some 25 ∧ hI h0 25 1 = nI L_ ∧ (∀ k_, k_ < L_ → aI h0 26 k_ = nI (T k_) ∧ T k_ < 128) ∧ L_ ≤ 100
def pX (h0 : hp) (w_ L_ a_ : Nat) (o : List Nat) (h_ : hp) : Prop := agX (fun j_ => j_ = w_ ∨ j_ = w_ + 4) h0 h_ ∧ hR h_ w_ = hR h0 w_ ∧ (∀ k_, k_ ≠ 5 → k_ ≠ 8 → hI h_ w_ k_ = hI h0 w_ k_) ∧ hI h_ w_ 8 = nI a_ ∧ hI h_ w_ 5 = nI o.length ∧ (∀ i_ d_, o[i_]? = some d_ → aI h_ (w_ + 4) i_ = stepX d_) ∧ a_ ≤ L_ ∧ o.length ≤ a_
theorem pX_base {h0 : hp} {w_ : Nat} {T : Nat → Nat} {L_ a_ : Nat} {o : List Nat} {h_ : hp} (B_ : bX h0 w_ T L_) (H_ : pX h0 w_ L_ a_ o h_) : sd 1 w_ = true ∧ kdOf h_ w_ = 11 ∧ hR h_ w_ 7 = some 25 ∧ hI h_ 25 1 = nI L_ ∧ ∀ k_, k_ < L_ → aI h_ 26 k_ = nI (T k_) ∧ T k_ < 128 := by
  obtain ⟨bw, b7, b25, b26, bL⟩ := B_
  obtain ⟨ag, hr, hrest⟩ := H_
  have hn := wd_num bw
  refine ⟨bw.1, (ag.kd w_).trans bw.2.1, by rw [hr]; exact b7, by rw [(ag.2 25 (by omega)).1]; exact b25, by rw [(ag.2 26 (by omega)).2.2.1]; exact b26⟩
theorem nx_at {T : Nat → Nat} {L_ a_ : Nat} (h_ : a_ < L_) : nx T L_ a_ = T a_ := if_pos h_
theorem nx_off {T : Nat → Nat} {L_ a_ : Nat} (h_ : ¬ a_ < L_) : nx T L_ a_ = 999 := if_neg h_
theorem pX_at {h0 : hp} {w_ L_ a_ : Nat} {o : List Nat} {h_ : hp} (H_ : pX h0 w_ L_ a_ o h_) (hl : a_ < L_) : pX h0 w_ L_ (a_ + 1) o (sI h_ w_ 8 (nI (a_ + 1))) := by
  obtain ⟨p1_, p2_, p3_, p4_, p5_, p6_, p7_, p8_⟩ := H_
  refine ⟨p1_.tr (agX_sI (Or.inl rfl)), p2_, fun k_ hk5 hk8 => ?_, ?_, ?_, p6_, hl, by omega⟩
  · rw [hI_sI, if_neg (by rintro ⟨-, hk⟩; exact hk8 hk)]; exact p3_ k_ hk5 hk8
  · rw [hI_sI, if_pos ⟨rfl, rfl⟩]
  · rw [hI_sI, if_neg (by rintro ⟨-, hk⟩; exact absurd hk (by decide))]; exact p5_
theorem X9_acc {h0 : hp} {w_ : Nat} {T : Nat → Nat} {L_ a_ : Nat} {o : List Nat} {h_ : hp} {ch_ : Nat} (B_ : bX h0 w_ T L_) (H_ : pX h0 w_ L_ a_ o h_) (hch : ch_ < 128) : f_X9_accept h_ w_ (nI ch_) = if nx T L_ a_ = ch_ then some (sI h_ w_ 8 (nI (a_ + 1)), 1) else some (h_, 0) := by
  obtain ⟨k1_, k2_, e7_, e25_, e26_⟩ := pX_base B_ H_
  have hL := B_.2.2.2.2
  have h8 := H_.2.2.2.1
  have hle := H_.2.2.2.2.2.2.1
  have hA := fun (x_ : Option (hp × Int32)) => ckA_of (b := 1) (h := h_) (i := 25 + 1) (e := 0) (n := 100) (a := x_) rfl rfl (by decide)
  unfold f_X9_accept f_X9_accept_34 f_X9_accept_35 f_X9_accept_50
  rw [ckO_of k1_ k2_, ckO_of k1_ k2_, onO_of e7_, ckO_of (show sd 1 25 = true from rfl) (show kdOf h_ 25 = 4 from rfl), h8, e25_]
  by_cases hl : a_ < L_
  · obtain ⟨t1_, t2_⟩ := e26_ a_ hl
    rw [if_pos (nI_lt hl (by omega)), ckO_of k1_ k2_, onO_of e7_, ckO_of (show sd 1 25 = true from rfl) (show kdOf h_ 25 = 4 from rfl), ckO_of k1_ k2_, (hA _).1, (hA none).2, chk_of (vp_in_nI (n := a_) (N := 100) (by omega) (by decide)), nI_clamp (by omega), show aI h_ (25 + 1) a_ = nI (T a_) from t1_, nx_at hl]
    by_cases hc_ : T a_ = ch_
    · rw [if_pos (by rw [hc_]), if_pos hc_, if_neg ne10, ckO_of k1_ k2_, ckO_of k1_ k2_, nm_eq, nI_1]; rfl
    · rw [if_neg (fun z_ => hc_ ((nI_eq (by omega) (by omega)).mp z_)), if_neg hc_, if_pos rfl]; rfl
  · rw [if_neg (nI_nlt (by omega) (by omega)), nx_off hl, if_pos rfl, if_neg (show ¬ 999 = ch_ by omega)]; rfl
theorem ixc_h (h_ : hp) : ∀ n_ k_ x_ y_ z_, f_J1_indexOfChar_4cfef_7 h_ n_ k_ x_ y_ z_ = f_J1_indexOfChar_4cfef_7 hp0 n_ k_ x_ y_ z_ := by
  intro n_
  induction n_ with
  | zero => intros; rfl
  | succ n_ ih_ => intro k_ x_ y_ z_; simp only [f_J1_indexOfChar_4cfef_7, nm_eq, ih_]
theorem ixo_h (h_ : hp) (k_ : Nat) (x_ y_ z_ : Int32) : f_J1_indexOf_4cfef h_ k_ x_ y_ z_ = f_J1_indexOf_4cfef hp0 k_ x_ y_ z_ := by
  have e_ : ∀ k_ x_ y_ z_, f_J1_indexOfChar_4cfef h_ k_ x_ y_ z_ = f_J1_indexOfChar_4cfef hp0 k_ x_ y_ z_ := fun k_ x_ y_ z_ => by
    unfold f_J1_indexOfChar_4cfef
    rw [nm_eq, nm_eq]
    exact ixc_h h_ _ _ _ _ _
  have e2_ : ∀ x_, f_J1_canEncode_9a6ad h_ x_ = f_J1_canEncode_9a6ad hp0 x_ := fun _ => rfl
  unfold f_J1_indexOf_4cfef
  simp only [e_, e2_]
theorem ix_h (h_ : hp) (k_ : Nat) (x_ : Int32) : f_J0_indexOf_0f7a4 h_ k_ x_ = (f_J0_indexOf_0f7a4 hp0 k_ x_).map (fun p_ => (h_, p_.2)) := by
  have e1_ : f_J0_isLatin1_aae02 h_ k_ = f_J0_isLatin1_aae02 hp0 k_ := rfl
  have e2_ : f_J0_length_8abf5 h_ k_ = f_J0_length_8abf5 hp0 k_ := rfl
  unfold f_J0_indexOf_0f7a4 f_J0_indexOf_7cf53 f_J0_indexOf_7cf53_36
  simp only [e1_, e2_, ixo_h h_]
  generalize f_J0_isLatin1_aae02 hp0 k_ = q1_
  generalize f_J0_length_8abf5 hp0 k_ = q2_
  unfold ckT
  by_cases hk : k_ < 5
  · simp only [if_pos hk]
    cases q1_ with
    | none => rfl
    | some r1_ =>
      by_cases hr : r1_ = 0
      · subst hr
        cases q2_ <;> rfl
      · cases q2_ with
        | none =>
          show bnd (if r1_ = 0 then none else none) _ = _
          rw [if_neg hr]
          show none = Option.map _ (bnd (if r1_ = 0 then none else none) _)
          rw [if_neg hr]; rfl
        | some r2 =>
          show bnd (if r1_ = 0 then none else bnr (f_J1_indexOf_4cfef hp0 k_ x_ 0 r2) fun r13 => some (h_, r13)) _ = Option.map _ (bnd (if r1_ = 0 then none else bnr (f_J1_indexOf_4cfef hp0 k_ x_ 0 r2) fun r13 => some (hp0, r13)) _)
          rw [if_neg hr, if_neg hr]
          generalize f_J1_indexOf_4cfef hp0 k_ x_ 0 r2 = q3_
          cases q3_ <;> rfl
  · simp only [if_neg hk]; rfl
theorem chr_nI : ∀ c_, c_ < 128 → ((nI c_).toUInt32 % 65536).toInt32 = nI c_ := by decide +kernel
def ixI (x_ : Option Nat) : Int32 := match x_ with
  | none => -1
  | some i_ => nI i_
def fL (c_ : Nat) : Option Nat := if lt6 c_ = 6 then none else some (lt6 c_)
def fB (c_ : Nat) : Option Nat := if 60 ≤ c_ ∧ c_ ≤ 62 then some (c_ - 60) else none
def fD (c_ : Nat) : Option Nat := if dg c_ then some (c_ - 48) else none
theorem tab_V : ∀ c_, c_ < 128 → (f_J0_indexOf_0f7a4 hp0 0 (nI c_)).map (fun p_ => p_.2) = some (ixI (fV c_)) := by decide +kernel
theorem tab_L : ∀ c_, c_ < 128 → (f_J0_indexOf_0f7a4 hp0 2 (nI c_)).map (fun p_ => p_.2) = some (ixI (fL c_)) := by decide +kernel
theorem tab_B : ∀ c_, c_ < 128 → (f_J0_indexOf_0f7a4 hp0 3 (nI c_)).map (fun p_ => p_.2) = some (ixI (fB c_)) := by decide +kernel
theorem tab_D : ∀ c_, c_ < 128 → (f_J0_indexOf_0f7a4 hp0 4 (nI c_)).map (fun p_ => p_.2) = some (ixI (fD c_)) := by decide +kernel
theorem X9_one {h0 : hp} {w_ : Nat} {T : Nat → Nat} {L_ a_ : Nat} {o : List Nat} {h_ : hp} {k_ : Nat} {fi : Nat → Option Nat} (B_ : bX h0 w_ T L_) (H_ : pX h0 w_ L_ a_ o h_) (hk : k_ < 5) (tab_ : ∀ c_, c_ < 128 → (f_J0_indexOf_0f7a4 hp0 k_ (nI c_)).map (fun p_ => p_.2) = some (ixI (fi c_))) (h999 : fi 999 = none) (hsm : ∀ c_ i_, fi c_ = some i_ → c_ < 999 → i_ < 1000) : f_X9_acceptOneOf h_ w_ k_ = match fi (nx T L_ a_) with
    | none => some (h_, -1)
    | some i_ => some (sI h_ w_ 8 (nI (a_ + 1)), nI i_) := by
  obtain ⟨k1_, k2_, e7_, e25_, e26_⟩ := pX_base B_ H_
  have hL := B_.2.2.2.2
  have h8 := H_.2.2.2.1
  have hle := H_.2.2.2.2.2.2.1
  have hA := fun (x_ : Option (hp × Int32)) => ckA_of (b := 1) (h := h_) (i := 25 + 1) (e := 0) (n := 100) (a := x_) rfl rfl (by decide)
  unfold f_X9_acceptOneOf f_X9_acceptOneOf_35 f_X9_acceptOneOf_50
  rw [ckO_of k1_ k2_, ckO_of k1_ k2_, onO_of e7_, ckO_of (show sd 1 25 = true from rfl) (show kdOf h_ 25 = 4 from rfl), h8, e25_]
  by_cases hl : a_ < L_
  · obtain ⟨t1_, t2_⟩ := e26_ a_ hl
    have ht := tab_ (T a_) t2_
    rw [if_pos (nI_lt hl (by omega)), ckO_of k1_ k2_, onO_of e7_, ckO_of (show sd 1 25 = true from rfl) (show kdOf h_ 25 = 4 from rfl), ckO_of k1_ k2_, (hA _).1, (hA none).2, chk_of (vp_in_nI (n := a_) (N := 100) (by omega) (by decide)), nI_clamp (by omega), show aI h_ (25 + 1) a_ = nI (T a_) from t1_, nx_at hl, chr_nI _ t2_, show ∀ y_ : Option (hp × Int32), ckT k_ y_ = y_ from fun y_ => if_pos hk]
    have hix : f_J0_indexOf_0f7a4 h_ k_ (nI (T a_)) = some (h_, ixI (fi (T a_))) := by
      rw [ix_h]
      cases hq : f_J0_indexOf_0f7a4 hp0 k_ (nI (T a_)) with
      | none => rw [hq] at ht; cases ht
      | some pr =>
        rw [hq] at ht
        have ht : pr.2 = ixI (fi (T a_)) := Option.some.inj ht
        show some (h_, pr.2) = _
        rw [ht]
    rw [bnd_of hix]
    cases hf : fi (T a_) with
    | none => rfl
    | some i_ =>
      have hi_ := hsm _ _ hf (by omega)
      show (if nI i_ < 0 then _ else _) = _
      rw [if_neg (nI_pos (by omega)), ckO_of k1_ k2_, ckO_of k1_ k2_, nm_eq, h8, nI_1]; rfl
  · rw [if_neg (nI_nlt (by omega) (by omega)), nx_off hl, h999]; rfl
theorem sm_V : ∀ c_ i_, fV c_ = some i_ → c_ < 999 → i_ < 1000 := by
  intro c_ i_ h_ hc_
  unfold fV at h_
  repeat' split at h_
  all_goals first | (cases h_; decide) | cases h_
theorem sm_L : ∀ c_ i_, fL c_ = some i_ → c_ < 999 → i_ < 1000 := by
  intro c_ i_ h_ hc_
  unfold fL at h_
  have := lt6_le c_
  split at h_
  · cases h_
  · have := Option.some.inj h_; omega
theorem sm_B : ∀ c_ i_, fB c_ = some i_ → c_ < 999 → i_ < 1000 := by
  intro c_ i_ h_ hc_
  unfold fB at h_
  split at h_
  · have := Option.some.inj h_; omega
  · cases h_
theorem sm_D : ∀ c_ i_, fD c_ = some i_ → c_ < 999 → i_ < 1000 := by
  intro c_ i_ h_ hc_
  unfold fD at h_
  split at h_
  · have := Option.some.inj h_; omega
  · cases h_
theorem X9_num {h0 : hp} {w_ : Nat} {T : Nat → Nat} {L_ a_ : Nat} {o : List Nat} {h_ : hp} (B_ : bX h0 w_ T L_) (H_ : pX h0 w_ L_ a_ o h_) {b_ : Nat} {on_ : Option Nat} (he : pNum T L_ a_ = (b_, on_)) : ∃ h', f_X9_number h_ w_ = some (h', ixI on_) ∧ pX h0 w_ L_ b_ o h' := by
  obtain ⟨k1_, k2_, -⟩ := pX_base B_ H_
  have f1_ := X9_one B_ H_ (by decide) tab_D (by rfl) sm_D
  unfold f_X9_number
  rw [ckO_of k1_ k2_, f1_]
  unfold pNum at he
  unfold fD
  by_cases c1_ : dg (nx T L_ a_)
  · have d1_ : 48 ≤ nx T L_ a_ ∧ nx T L_ a_ ≤ 57 := of_decide_eq_true c1_
    have l1 := nx_le (T := T) (L := L_) (a := a_) (by omega)
    have H2_ := pX_at H_ l1
    obtain ⟨m1_, m2_, -⟩ := pX_base B_ H2_
    have f2_ := X9_one B_ H2_ (by decide) tab_D (by rfl) sm_D
    rw [if_pos c1_] at he ⊢
    show ∃ h', (if nI (nx T L_ a_ - 48) < 0 then _ else ckO 1 (sI h_ w_ 8 (nI (a_ + 1))) w_ 11 (bnd (f_X9_acceptOneOf (sI h_ w_ 8 (nI (a_ + 1))) w_ 4) fun h11 r12 => f_X9_number_21 h11 (nI (nx T L_ a_ - 48)) r12)) = some (h', ixI on_) ∧ _
    rw [if_neg (nI_pos (by omega)), ckO_of m1_ m2_, f2_]
    unfold fD
    by_cases c2_ : dg (nx T L_ (a_ + 1))
    · have d2_ : 48 ≤ nx T L_ (a_ + 1) ∧ nx T L_ (a_ + 1) ≤ 57 := of_decide_eq_true c2_
      have l2 := nx_le (T := T) (L := L_) (a := a_ + 1) (by omega)
      rw [if_pos c2_] at he ⊢
      obtain ⟨rfl, rfl⟩ := Prod.mk.inj he
      refine ⟨_, ?_, pX_at H2_ l2⟩
      show (if nI (nx T L_ (a_ + 1) - 48) < 0 then _ else some (sI (sI h_ w_ 8 (nI (a_ + 1))) w_ 8 (nI (a_ + 1 + 1)), nI (nx T L_ a_ - 48) * (10 : Int32) + nI (nx T L_ (a_ + 1) - 48))) = _
      rw [if_neg (nI_pos (by omega)), show (10 : Int32) = nI 10 from rfl, pk_mul, nI_add]; rfl
    · rw [if_neg c2_] at he ⊢
      obtain ⟨rfl, rfl⟩ := Prod.mk.inj he
      exact ⟨_, rfl, H2_⟩
  · rw [if_neg c1_] at he ⊢
    obtain ⟨rfl, rfl⟩ := Prod.mk.inj he
    exact ⟨_, rfl, H_⟩
theorem X9_add {h0 : hp} {w_ : Nat} {T : Nat → Nat} {L_ a_ : Nat} {o : List Nat} {h_ : hp} {d_ : Nat} (B_ : bX h0 w_ T L_) (H_ : pX h0 w_ L_ a_ o h_) (hlt : o.length < a_) : ∃ h', f_X9_addStep h_ w_ (stepX d_) = some (h', 1) ∧ pX h0 w_ L_ a_ (o ++ [d_]) h' := by
  obtain ⟨k1_, k2_, -⟩ := pX_base B_ H_
  obtain ⟨p1_, p2_, p3_, p4_, p5_, p6_, p7_, p8_⟩ := H_
  have hL := B_.2.2.2.2
  obtain ⟨-, -, ⟨-, -, -, k3_⟩, -, -, -, k4_⟩ := B_.1
  have hA := fun (x_ : Option (hp × Int32)) => ckA_of (b := 1) (h := h_) (i := w_ + 4) (e := 0) (n := 100) (a := x_) k4_ ((p1_.kd _).trans k3_) (by decide)
  unfold f_X9_addStep f_X9_addStep_14 f_X9_addStep_39
  rw [ckO_of k1_ k2_, p5_, if_pos (show nI o.length < (100 : Int32) from nI_lt (b := 100) (by omega) (by decide)), if_neg ne10, ckO_of k1_ k2_, ckO_of k1_ k2_, (hA _).1, (hA none).2, chk_of (vp_in_nI (n := o.length) (N := 100) (by omega) (by decide)), nm_eq, nI_clamp (by omega), ckO_of k1_ (show kdOf (tI h_ (w_ + 4) o.length (stepX d_)) w_ = 11 from k2_), ckO_of k1_ (show kdOf (tI h_ (w_ + 4) o.length (stepX d_)) w_ = 11 from k2_), nm_eq, hI_tI, p5_, nI_1]
  refine ⟨_, rfl, (p1_.tr (agX_tI (Or.inr rfl))).tr (agX_sI (Or.inl rfl)), p2_, fun k_ hk5 hk8 => ?_, ?_, ?_, fun i_ d2_ hi_ => ?_, p7_, ?_⟩
  · rw [hI_sI, if_neg (by rintro ⟨-, hk⟩; exact hk5 hk), hI_tI]; exact p3_ k_ hk5 hk8
  · rw [hI_sI, if_neg (by rintro ⟨-, hk⟩; exact absurd hk (by decide)), hI_tI]; exact p4_
  · rw [hI_sI, if_pos ⟨rfl, rfl⟩, List.length_append]; rfl
  · rw [aI_sI, aI_tI]
    by_cases c1_ : i_ < o.length
    · rw [if_neg (by rintro ⟨-, hk⟩; omega)]
      rw [List.getElem?_append_left c1_] at hi_
      exact p6_ i_ d2_ hi_
    · have c2_ : i_ = o.length := by
        have := (List.getElem?_eq_some_iff.mp hi_).1
        simp only [List.length_append, List.length_cons, List.length_nil] at this
        omega
      subst c2_
      rw [List.getElem?_append_right (Nat.le_refl _), Nat.sub_self] at hi_
      have : d_ = d2_ := by simpa using hi_
      rw [if_pos ⟨rfl, rfl⟩, this]
  · simp only [List.length_append, List.length_cons, List.length_nil]; omega
def SX (h0 : hp) (w_ L_ : Nat) (S_ : hp → Nat → Int32 → Option (hp × Int32)) (Sp : Nat → pR) (dp : Int32) : Prop := ∀ a_ o h_, pX h0 w_ L_ a_ o h_ → ∀ b_ ot, Sp a_ = (b_, ot) → (ot = none → ∃ h' o', S_ h_ w_ dp = some (h', 0) ∧ pX h0 w_ L_ b_ o' h') ∧ ∀ t_, ot = some t_ → ∃ h', S_ h_ w_ dp = some (h', 1) ∧ pX h0 w_ L_ b_ (o ++ t_) h'
theorem X9_both_lp {h0 : hp} {w_ : Nat} {T : Nat → Nat} {L_ : Nat} {S_ : hp → Nat → Int32 → Option (hp × Int32)} {Sp : Nat → pR} {dp : Int32} {H0 : Nat} (B_ : bX h0 w_ T L_) (hS_ : SX h0 w_ L_ S_ Sp dp) (hD : spD Sp L_ H0) (hF : spF Sp L_) (o : List Nat) : ∀ j_ a_ u_ h_ k_ n_, k_ + j_ = 100 → j_ < n_ → pX h0 w_ L_ a_ (o ++ u_) h_ → ∀ b_ ot, pBL T L_ 38 2002 Sp j_ a_ u_ = (b_, ot) → (ot = none → ∃ h' o', f_X9_both_8 S_ n_ h_ w_ dp 1 (nI k_) = some (h', 0) ∧ pX h0 w_ L_ b_ o' h') ∧ ∀ t_, ot = some t_ → ∃ h', f_X9_both_8 S_ n_ h_ w_ dp 1 (nI k_) = some (h', 1) ∧ pX h0 w_ L_ b_ (o ++ t_) h' := by
  intro j_
  induction j_ with
  | zero =>
    intro a_ u_ h_ k_ n_ h1 h2 h3 b_ ot he
    obtain ⟨n_, rfl⟩ : ∃ m_, n_ = m_ + 1 := ⟨n_ - 1, by omega⟩
    have he : (a_, some u_) = (b_, ot) := he
    obtain ⟨rfl, rfl⟩ := Prod.mk.inj he
    refine ⟨(fun hh => nomatch hh), fun t_ ht => ⟨h_, ?_, by rw [← Option.some.inj ht]; exact h3⟩⟩
    rw [f_X9_both_8, if_neg (show ¬ nI k_ < (100 : Int32) from nI_nlt (b := 100) (by omega) (by omega))]; rfl
  | succ j_ ih_ =>
    intro a_ u_ h_ k_ n_ h1 h2 h3 b_ ot he
    obtain ⟨n_, rfl⟩ : ∃ m_, n_ = m_ + 1 := ⟨n_ - 1, by omega⟩
    obtain ⟨k1_, k2_, -⟩ := pX_base B_ h3
    rw [pBL] at he
    have fa := X9_acc (ch_ := 38) B_ h3 (by decide)
    have head_ : f_X9_both_8 S_ (n_ + 1) h_ w_ dp 1 (nI k_) = bnd (f_X9_accept h_ w_ (38 : Int32)) fun h14 r15 => if r15 = 0 then f_X9_both_56 S_ h14 1 else ckO 1 h14 w_ 11 (bnd (S_ h14 w_ dp) fun h19 r20 => if r20 = 0 then f_X9_both_48 S_ (f_X9_both_8 S_ n_) h19 w_ dp (nI k_) else ckO 1 h19 w_ 11 (bnd (f_X9_addStep h19 w_ (-2 : Int32)) fun h32 r33 => if r33 = 0 then f_X9_both_48 S_ (f_X9_both_8 S_ n_) h32 w_ dp (nI k_) else f_X9_both_49 S_ (f_X9_both_8 S_ n_) h32 w_ dp (nI k_) 1)) := by
      rw [f_X9_both_8, if_pos (show nI k_ < (100 : Int32) from nI_lt (b := 100) (by omega) (by decide)), if_neg ne10, ckO_of k1_ k2_]
    have fa : f_X9_accept h_ w_ (38 : Int32) = _ := fa
    by_cases hc_ : nx T L_ a_ = 38
    · have hl := nx_le (T := T) (L := L_) (a := a_) (by omega)
      rw [if_pos hc_] at he fa
      rw [bnd_of fa, if_neg ne10] at head_
      have H2_ := pX_at h3 hl
      obtain ⟨m1_, m2_, -⟩ := pX_base B_ H2_
      rw [ckO_of m1_ m2_] at head_
      cases hs : Sp (a_ + 1) with
      | mk b1 o1 =>
        rw [hs] at he
        obtain ⟨g1, g2⟩ := hS_ (a_ + 1) (o ++ u_) _ H2_ b1 o1 hs
        cases o1 with
        | none =>
          have he : (b1, none) = (b_, ot) := he
          obtain ⟨he1, he2⟩ := Prod.mk.inj he
          obtain ⟨h', o', x1_, x2_⟩ := g1 rfl
          rw [bnd_of x1_, if_pos rfl] at head_
          refine ⟨fun _ => ⟨h', o', ?_, by rw [← he1]; exact x2_⟩, fun t_ ht => by rw [← he2] at ht; cases ht⟩
          rw [head_]
          unfold f_X9_both_48 f_X9_both_49
          rw [nm_eq, nI_1]
          obtain ⟨n', rfl⟩ : ∃ m_, n_ = m_ + 1 := ⟨n_ - 1, by omega⟩
          rw [f_X9_both_8]
          by_cases hk : k_ + 1 < 100
          · rw [if_pos (show nI (k_ + 1) < (100 : Int32) from nI_lt (b := 100) hk (by decide)), if_pos rfl]; rfl
          · rw [if_neg (show ¬ nI (k_ + 1) < (100 : Int32) from nI_nlt (b := 100) (by omega) (by omega))]; rfl
        | some t1_ =>
          have he : pBL T L_ 38 2002 Sp j_ b1 (u_ ++ t1_ ++ [2002]) = (b_, ot) := he
          obtain ⟨h', x1_, x2_⟩ := g2 t1_ rfl
          obtain ⟨d1_, d2_, -⟩ := hD (a_ + 1) b1 t1_ hl hs
          have hlen := h3.2.2.2.2.2.2.2
          obtain ⟨n1_, n2_, -⟩ := pX_base B_ x2_
          obtain ⟨h'', y1, y2⟩ := X9_add (d_ := 2002) B_ x2_ (by simp only [List.length_append] at hlen ⊢; omega)
          have y1 : f_X9_addStep h' w_ (-2 : Int32) = _ := y1
          rw [bnd_of x1_, if_neg ne10, ckO_of n1_ n2_, bnd_of y1, if_neg ne10] at head_
          unfold f_X9_both_49 at head_
          rw [nm_eq, nI_1] at head_
          rw [head_]
          exact ih_ b1 (u_ ++ t1_ ++ [2002]) h'' (k_ + 1) n_ (by omega) (by omega) (by rw [show o ++ (u_ ++ t1_ ++ [2002]) = o ++ u_ ++ t1_ ++ [2002] by simp only [List.append_assoc]]; exact y2) b_ ot he
    · rw [if_neg hc_] at he fa
      rw [bnd_of fa, if_pos rfl] at head_
      have he : (a_, some u_) = (b_, ot) := he
      obtain ⟨rfl, rfl⟩ := Prod.mk.inj he
      exact ⟨(fun hh => nomatch hh), fun t_ ht => ⟨h_, by rw [head_]; rfl, by rw [← Option.some.inj ht]; exact h3⟩⟩
theorem X9_both_sp {h0 : hp} {w_ : Nat} {T : Nat → Nat} {L_ : Nat} {S_ : hp → Nat → Int32 → Option (hp × Int32)} {Sp : Nat → pR} {dp : Int32} {H0 : Nat} (B_ : bX h0 w_ T L_) (hS_ : SX h0 w_ L_ S_ Sp dp) (hD : spD Sp L_ H0) (hF : spF Sp L_) : SX h0 w_ L_ (f_X9_both S_) (pBo T L_ 38 2002 Sp) dp := by
  intro a_ o h_ H_ b_ ot he
  obtain ⟨k1_, k2_, -⟩ := pX_base B_ H_
  rw [pBo] at he
  have head_ : f_X9_both S_ h_ w_ dp = bnd (S_ h_ w_ dp) fun h2 r3 => f_X9_both_8 S_ 2000 h2 w_ dp r3 (0 : Int32) := by
    unfold f_X9_both
    rw [ckO_of k1_ k2_]
  cases hs : Sp a_ with
  | mk b1 o1 =>
    rw [hs] at he
    obtain ⟨g1, g2⟩ := hS_ a_ o h_ H_ b1 o1 hs
    cases o1 with
    | none =>
      have he : (b1, none) = (b_, ot) := he
      obtain ⟨he1, he2⟩ := Prod.mk.inj he
      obtain ⟨h', o', x1_, x2_⟩ := g1 rfl
      rw [bnd_of x1_] at head_
      exact ⟨fun _ => ⟨h', o', by rw [head_, f_X9_both_8]; rfl, by rw [← he1]; exact x2_⟩, fun t_ ht => by rw [← he2] at ht; cases ht⟩
    | some t1_ =>
      have he : pBL T L_ 38 2002 Sp 100 b1 t1_ = (b_, ot) := he
      obtain ⟨h', x1_, x2_⟩ := g2 t1_ rfl
      rw [bnd_of x1_] at head_
      rw [head_]
      exact X9_both_lp B_ hS_ hD hF o 100 b1 t1_ h' 0 2000 (by omega) (by omega) x2_ b_ ot he
theorem X9_either_lp {h0 : hp} {w_ : Nat} {T : Nat → Nat} {L_ : Nat} {S_ : hp → Nat → Int32 → Option (hp × Int32)} {Sp : Nat → pR} {dp : Int32} {H0 : Nat} (B_ : bX h0 w_ T L_) (hS_ : SX h0 w_ L_ (f_X9_both S_) Sp dp) (hD : spD Sp L_ H0) (hF : spF Sp L_) (o : List Nat) : ∀ j_ a_ u_ h_ k_ n_, k_ + j_ = 100 → j_ < n_ → pX h0 w_ L_ a_ (o ++ u_) h_ → ∀ b_ ot, pBL T L_ 124 2003 Sp j_ a_ u_ = (b_, ot) → (ot = none → ∃ h' o', f_X9_either_8 S_ n_ h_ w_ dp 1 (nI k_) = some (h', 0) ∧ pX h0 w_ L_ b_ o' h') ∧ ∀ t_, ot = some t_ → ∃ h', f_X9_either_8 S_ n_ h_ w_ dp 1 (nI k_) = some (h', 1) ∧ pX h0 w_ L_ b_ (o ++ t_) h' := by
  intro j_
  induction j_ with
  | zero =>
    intro a_ u_ h_ k_ n_ h1 h2 h3 b_ ot he
    obtain ⟨n_, rfl⟩ : ∃ m_, n_ = m_ + 1 := ⟨n_ - 1, by omega⟩
    have he : (a_, some u_) = (b_, ot) := he
    obtain ⟨rfl, rfl⟩ := Prod.mk.inj he
    refine ⟨(fun hh => nomatch hh), fun t_ ht => ⟨h_, ?_, by rw [← Option.some.inj ht]; exact h3⟩⟩
    rw [f_X9_either_8, if_neg (show ¬ nI k_ < (100 : Int32) from nI_nlt (b := 100) (by omega) (by omega))]; rfl
  | succ j_ ih_ =>
    intro a_ u_ h_ k_ n_ h1 h2 h3 b_ ot he
    obtain ⟨n_, rfl⟩ : ∃ m_, n_ = m_ + 1 := ⟨n_ - 1, by omega⟩
    obtain ⟨k1_, k2_, -⟩ := pX_base B_ h3
    rw [pBL] at he
    have fa := X9_acc (ch_ := 124) B_ h3 (by decide)
    have head_ : f_X9_either_8 S_ (n_ + 1) h_ w_ dp 1 (nI k_) = bnd (f_X9_accept h_ w_ (124 : Int32)) fun h14 r15 => if r15 = 0 then f_X9_either_56 S_ h14 1 else ckO 1 h14 w_ 11 (bnd ((f_X9_both S_) h14 w_ dp) fun h19 r20 => if r20 = 0 then f_X9_either_48 S_ (f_X9_either_8 S_ n_) h19 w_ dp (nI k_) else ckO 1 h19 w_ 11 (bnd (f_X9_addStep h19 w_ (-3 : Int32)) fun h32 r33 => if r33 = 0 then f_X9_either_48 S_ (f_X9_either_8 S_ n_) h32 w_ dp (nI k_) else f_X9_either_49 S_ (f_X9_either_8 S_ n_) h32 w_ dp (nI k_) 1)) := by
      rw [f_X9_either_8, if_pos (show nI k_ < (100 : Int32) from nI_lt (b := 100) (by omega) (by decide)), if_neg ne10, ckO_of k1_ k2_]
    have fa : f_X9_accept h_ w_ (124 : Int32) = _ := fa
    by_cases hc_ : nx T L_ a_ = 124
    · have hl := nx_le (T := T) (L := L_) (a := a_) (by omega)
      rw [if_pos hc_] at he fa
      rw [bnd_of fa, if_neg ne10] at head_
      have H2_ := pX_at h3 hl
      obtain ⟨m1_, m2_, -⟩ := pX_base B_ H2_
      rw [ckO_of m1_ m2_] at head_
      cases hs : Sp (a_ + 1) with
      | mk b1 o1 =>
        rw [hs] at he
        obtain ⟨g1, g2⟩ := hS_ (a_ + 1) (o ++ u_) _ H2_ b1 o1 hs
        cases o1 with
        | none =>
          have he : (b1, none) = (b_, ot) := he
          obtain ⟨he1, he2⟩ := Prod.mk.inj he
          obtain ⟨h', o', x1_, x2_⟩ := g1 rfl
          rw [bnd_of x1_, if_pos rfl] at head_
          refine ⟨fun _ => ⟨h', o', ?_, by rw [← he1]; exact x2_⟩, fun t_ ht => by rw [← he2] at ht; cases ht⟩
          rw [head_]
          unfold f_X9_either_48 f_X9_either_49
          rw [nm_eq, nI_1]
          obtain ⟨n', rfl⟩ : ∃ m_, n_ = m_ + 1 := ⟨n_ - 1, by omega⟩
          rw [f_X9_either_8]
          by_cases hk : k_ + 1 < 100
          · rw [if_pos (show nI (k_ + 1) < (100 : Int32) from nI_lt (b := 100) hk (by decide)), if_pos rfl]; rfl
          · rw [if_neg (show ¬ nI (k_ + 1) < (100 : Int32) from nI_nlt (b := 100) (by omega) (by omega))]; rfl
        | some t1_ =>
          have he : pBL T L_ 124 2003 Sp j_ b1 (u_ ++ t1_ ++ [2003]) = (b_, ot) := he
          obtain ⟨h', x1_, x2_⟩ := g2 t1_ rfl
          obtain ⟨d1_, d2_, -⟩ := hD (a_ + 1) b1 t1_ hl hs
          have hlen := h3.2.2.2.2.2.2.2
          obtain ⟨n1_, n2_, -⟩ := pX_base B_ x2_
          obtain ⟨h'', y1, y2⟩ := X9_add (d_ := 2003) B_ x2_ (by simp only [List.length_append] at hlen ⊢; omega)
          have y1 : f_X9_addStep h' w_ (-3 : Int32) = _ := y1
          rw [bnd_of x1_, if_neg ne10, ckO_of n1_ n2_, bnd_of y1, if_neg ne10] at head_
          unfold f_X9_either_49 at head_
          rw [nm_eq, nI_1] at head_
          rw [head_]
          exact ih_ b1 (u_ ++ t1_ ++ [2003]) h'' (k_ + 1) n_ (by omega) (by omega) (by rw [show o ++ (u_ ++ t1_ ++ [2003]) = o ++ u_ ++ t1_ ++ [2003] by simp only [List.append_assoc]]; exact y2) b_ ot he
    · rw [if_neg hc_] at he fa
      rw [bnd_of fa, if_pos rfl] at head_
      have he : (a_, some u_) = (b_, ot) := he
      obtain ⟨rfl, rfl⟩ := Prod.mk.inj he
      exact ⟨(fun hh => nomatch hh), fun t_ ht => ⟨h_, by rw [head_]; rfl, by rw [← Option.some.inj ht]; exact h3⟩⟩
theorem X9_either_sp {h0 : hp} {w_ : Nat} {T : Nat → Nat} {L_ : Nat} {S_ : hp → Nat → Int32 → Option (hp × Int32)} {Sp : Nat → pR} {dp : Int32} {H0 : Nat} (B_ : bX h0 w_ T L_) (hS_ : SX h0 w_ L_ (f_X9_both S_) Sp dp) (hD : spD Sp L_ H0) (hF : spF Sp L_) : SX h0 w_ L_ (f_X9_either S_) (pBo T L_ 124 2003 Sp) dp := by
  intro a_ o h_ H_ b_ ot he
  obtain ⟨k1_, k2_, -⟩ := pX_base B_ H_
  rw [pBo] at he
  have head_ : f_X9_either S_ h_ w_ dp = bnd ((f_X9_both S_) h_ w_ dp) fun h2 r3 => f_X9_either_8 S_ 2000 h2 w_ dp r3 (0 : Int32) := by
    unfold f_X9_either
    rw [ckO_of k1_ k2_]
  cases hs : Sp a_ with
  | mk b1 o1 =>
    rw [hs] at he
    obtain ⟨g1, g2⟩ := hS_ a_ o h_ H_ b1 o1 hs
    cases o1 with
    | none =>
      have he : (b1, none) = (b_, ot) := he
      obtain ⟨he1, he2⟩ := Prod.mk.inj he
      obtain ⟨h', o', x1_, x2_⟩ := g1 rfl
      rw [bnd_of x1_] at head_
      exact ⟨fun _ => ⟨h', o', by rw [head_, f_X9_either_8]; rfl, by rw [← he1]; exact x2_⟩, fun t_ ht => by rw [← he2] at ht; cases ht⟩
    | some t1_ =>
      have he : pBL T L_ 124 2003 Sp 100 b1 t1_ = (b_, ot) := he
      obtain ⟨h', x1_, x2_⟩ := g2 t1_ rfl
      rw [bnd_of x1_] at head_
      rw [head_]
      exact X9_either_lp B_ hS_ hD hF o 100 b1 t1_ h' 0 2000 (by omega) (by omega) x2_ b_ ot he
theorem X9_test {h0 : hp} {w_ : Nat} {T : Nat → Nat} {L_ a_ : Nat} {o : List Nat} {h_ : hp} {S_ : hp → Nat → Int32 → Option (hp × Int32)} (B_ : bX h0 w_ T L_) (H_ : pX h0 w_ L_ a_ o h_) {b_ : Nat} {ot : Option (List Nat)} (he : pTest T L_ a_ = (b_, ot)) : (ot = none → ∃ h' o', f_X9_single_77 S_ h_ w_ = some (h', 0) ∧ pX h0 w_ L_ b_ o' h') ∧ ∀ t_, ot = some t_ → ∃ h', f_X9_single_77 S_ h_ w_ = some (h', 1) ∧ pX h0 w_ L_ b_ (o ++ t_) h' := by
  obtain ⟨k1_, k2_, -⟩ := pX_base B_ H_
  have f1_ := X9_one B_ H_ (by decide) tab_L (by rfl) sm_L
  have h6 := lt6_le (nx T L_ a_)
  unfold pTest at he
  by_cases c1_ : lt6 (nx T L_ a_) = 6
  · rw [if_pos c1_] at he
    have e1_ : fL (nx T L_ a_) = none := if_pos c1_
    rw [e1_] at f1_
    obtain ⟨rfl, rfl⟩ := Prod.mk.inj he
    refine ⟨fun _ => ⟨h_, o, ?_, H_⟩, (fun t_ ht => nomatch ht)⟩
    unfold f_X9_single_77
    rw [ckO_of k1_ k2_, bnd_of f1_]; rfl
  · have l1 := nx_le (T := T) (L := L_) (a := a_) (fun e_ => c1_ (by rw [e_]; rfl))
    rw [if_neg c1_] at he
    have e1_ : fL (nx T L_ a_) = some (lt6 (nx T L_ a_)) := if_neg c1_
    rw [e1_] at f1_
    have H2_ := pX_at H_ l1
    obtain ⟨m1_, m2_, -⟩ := pX_base B_ H2_
    have f2_ := X9_one B_ H2_ (by decide) tab_B (by rfl) sm_B
    have head_ : f_X9_single_77 S_ h_ w_ = bnd (f_X9_acceptOneOf (sI h_ w_ 8 (nI (a_ + 1))) w_ 3) fun h42 r43 => f_X9_single_98 S_ h42 w_ (nI (lt6 (nx T L_ a_))) r43 := by
      unfold f_X9_single_77
      rw [ckO_of k1_ k2_, bnd_of f1_, if_neg (nI_pos (by omega)), ckO_of m1_ m2_]
    by_cases c2_ : 60 ≤ nx T L_ (a_ + 1) ∧ nx T L_ (a_ + 1) ≤ 62
    · have l2 := nx_le (T := T) (L := L_) (a := a_ + 1) (by omega)
      rw [if_pos c2_] at he
      have e2_ : fB (nx T L_ (a_ + 1)) = some (nx T L_ (a_ + 1) - 60) := if_pos c2_
      rw [e2_] at f2_
      have H3 := pX_at H2_ l2
      obtain ⟨n1_, n2_, -⟩ := pX_base B_ H3
      cases hn : pNum T L_ (a_ + 2) with
      | mk b1 on_ =>
        rw [hn] at he
        obtain ⟨h', x1_, x2_⟩ := X9_num B_ H3 hn
        obtain ⟨-, q2_⟩ := pNum_lt hn
        have head_2 : f_X9_single_77 S_ h_ w_ = f_X9_single_111 S_ h' w_ (nI (lt6 (nx T L_ a_))) (nI (nx T L_ (a_ + 1) - 60)) (ixI on_) := by
          rw [head_, bnd_of f2_]
          unfold f_X9_single_98
          rw [if_neg (nI_pos (by omega)), ckO_of n1_ n2_, bnd_of x1_]
        cases on_ with
        | none =>
          have he : (b1, none) = (b_, ot) := he
          obtain ⟨he1, he2⟩ := Prod.mk.inj he
          exact ⟨fun _ => ⟨h', o, by rw [head_2]; rfl, by rw [← he1]; exact x2_⟩, fun t_ ht => by rw [← he2] at ht; cases ht⟩
        | some nn =>
          have he : (b1, some [300 * lt6 (nx T L_ a_) + 100 * (nx T L_ (a_ + 1) - 60) + nn]) = (b_, ot) := he
          obtain ⟨he1, he2⟩ := Prod.mk.inj he
          obtain ⟨z1, z2, z3, z4⟩ := q2_ nn rfl
          obtain ⟨u1_, u2_, -⟩ := pX_base B_ x2_
          have hl := H_.2.2.2.2.2.2.2
          obtain ⟨h'', y1, y2⟩ := X9_add (d_ := 300 * lt6 (nx T L_ a_) + 100 * (nx T L_ (a_ + 1) - 60) + nn) B_ x2_ (by omega)
          have e3_ : (nI (lt6 (nx T L_ a_)) * (3 : Int32) + nI (nx T L_ (a_ + 1) - 60)) * (100 : Int32) + nI nn = stepX (300 * lt6 (nx T L_ a_) + 100 * (nx T L_ (a_ + 1) - 60) + nn) := by
            rw [stepX_small (by omega), show (3 : Int32) = nI 3 from rfl, show (100 : Int32) = nI 100 from rfl, pk_mul, nI_add, pk_mul, nI_add]
            exact congrArg nI (by omega)
          refine ⟨fun hh => by rw [← he2] at hh; (cases hh), fun t_ ht => ⟨h'', ?_, ?_⟩⟩
          · rw [head_2]
            show f_X9_single_111 S_ h' w_ (nI (lt6 (nx T L_ a_))) (nI (nx T L_ (a_ + 1) - 60)) (nI nn) = _
            unfold f_X9_single_111
            rw [if_neg (nI_pos (by omega)), ckO_of u1_ u2_, e3_, bnd_of y1, if_neg ne10]; rfl
          · rw [← he2] at ht
            rw [← Option.some.inj ht, ← he1]
            exact y2
    · rw [if_neg c2_] at he
      have e2_ : fB (nx T L_ (a_ + 1)) = none := if_neg c2_
      rw [e2_] at f2_
      obtain ⟨rfl, rfl⟩ := Prod.mk.inj he
      exact ⟨fun _ => ⟨_, o, by rw [head_, bnd_of f2_]; rfl, H2_⟩, (fun t_ ht => nomatch ht)⟩
theorem X9_single_sp {h0 : hp} {w_ : Nat} {T : Nat → Nat} {L_ : Nat} (B_ : bX h0 w_ T L_) : ∀ r_ n_, r_ ≤ 4 → r_ < n_ → SX h0 w_ L_ (f_X9_single n_) (pSi T L_ r_) (nI (4 - r_)) := by
  intro r_
  induction r_ with
  | zero =>
    intro n_ h4 hn a_ o h_ H_ b_ ot he
    obtain ⟨n_, rfl⟩ : ∃ m_, n_ = m_ + 1 := ⟨n_ - 1, by omega⟩
    have e_ : f_X9_single (n_ + 1) h_ w_ (nI (4 - 0)) = f_X9_single_77 (f_X9_single n_) h_ w_ := by
      rw [f_X9_single]
      unfold f_X9_singleB f_X9_single_38
      rw [if_neg (show ¬ nI 4 < (4 : Int32) by decide), if_neg (show ¬ nI 4 < (4 : Int32) by decide)]
    rw [e_]
    exact X9_test B_ H_ he
  | succ r_ ih_ =>
    intro n_ h4 hn a_ o h_ H_ b_ ot he
    obtain ⟨n_, rfl⟩ : ∃ m_, n_ = m_ + 1 := ⟨n_ - 1, by omega⟩
    have hS_ := ih_ n_ (by omega) (by omega)
    obtain ⟨hD, hF⟩ := pSi_D (T := T) (L_ := L_) r_
    have hE : SX h0 w_ L_ (f_X9_either (f_X9_single n_)) (pEi T L_ (pSi T L_ r_)) (nI (4 - r_)) := X9_either_sp B_ (X9_both_sp B_ hS_ hD hF) (pBo_D (T := T) (ch_ := 38) (cd := 2002) hD hF (Or.inl rfl) (by decide)).1 (pBo_D (T := T) (ch_ := 38) (cd := 2002) hD hF (Or.inl rfl) (by decide)).2
    obtain ⟨eD, eF⟩ := pEi_D (T := T) hD hF
    obtain ⟨k1_, k2_, -⟩ := pX_base B_ H_
    have d4_ : nI (4 - (r_ + 1)) < (4 : Int32) := nI_lt (b := 4) (by omega) (by decide)
    have dn : nI (4 - (r_ + 1)) + (1 : Int32) = nI (4 - r_) := by rw [nI_1]; exact congrArg nI (by omega)
    have fa : f_X9_accept h_ w_ (33 : Int32) = _ := X9_acc (ch_ := 33) B_ H_ (by decide)
    have fb : f_X9_accept h_ w_ (40 : Int32) = _ := X9_acc (ch_ := 40) B_ H_ (by decide)
    rw [pSi] at he
    by_cases c1_ : nx T L_ a_ = 33
    · have l1 := nx_le (T := T) (L := L_) (a := a_) (by omega)
      rw [if_pos c1_] at he fa
      have H2_ := pX_at H_ l1
      obtain ⟨m1_, m2_, -⟩ := pX_base B_ H2_
      have head_ : f_X9_single (n_ + 1) h_ w_ (nI (4 - (r_ + 1))) = bnd (f_X9_single n_ (sI h_ w_ 8 (nI (a_ + 1))) w_ (nI (4 - r_))) fun h58 r59 => if r59 = 0 then f_X9_single_36 (f_X9_single n_) h58 else ckO 1 h58 w_ 11 (bnd (f_X9_addStep h58 w_ (-1 : Int32)) fun h65 r66 => if r66 = 0 then f_X9_single_36 (f_X9_single n_) h65 else f_X9_single_37 (f_X9_single n_) h65 (1 : Int32)) := by
        rw [f_X9_single]
        unfold f_X9_singleB
        rw [if_pos d4_, ckO_of k1_ k2_, bnd_of fa, if_neg ne10, ckO_of m1_ m2_, dn]
      cases hs : pSi T L_ r_ (a_ + 1) with
      | mk b1 o1 =>
        rw [hs] at he
        obtain ⟨g1, g2⟩ := hS_ (a_ + 1) o _ H2_ b1 o1 hs
        cases o1 with
        | none =>
          have he : (b1, none) = (b_, ot) := he
          obtain ⟨he1, he2⟩ := Prod.mk.inj he
          obtain ⟨h', o', x1_, x2_⟩ := g1 rfl
          exact ⟨fun _ => ⟨h', o', by rw [head_, bnd_of x1_, if_pos rfl]; rfl, by rw [← he1]; exact x2_⟩, fun t_ ht => by rw [← he2] at ht; cases ht⟩
        | some t1_ =>
          have he : (b1, some (t1_ ++ [2001])) = (b_, ot) := he
          obtain ⟨he1, he2⟩ := Prod.mk.inj he
          obtain ⟨h', x1_, x2_⟩ := g2 t1_ rfl
          obtain ⟨d1_, d2_, -⟩ := hD (a_ + 1) b1 t1_ l1 hs
          have hlen := H_.2.2.2.2.2.2.2
          obtain ⟨n1_, n2_, -⟩ := pX_base B_ x2_
          obtain ⟨h'', y1, y2⟩ := X9_add (d_ := 2001) B_ x2_ (by simp only [List.length_append]; omega)
          have y1 : f_X9_addStep h' w_ (-1 : Int32) = _ := y1
          refine ⟨fun hh => by rw [← he2] at hh; (cases hh), fun t_ ht => ⟨h'', ?_, ?_⟩⟩
          · rw [head_, bnd_of x1_, if_neg ne10, ckO_of n1_ n2_, bnd_of y1, if_neg ne10]; rfl
          · rw [← he2] at ht
            rw [← Option.some.inj ht, ← he1, ← List.append_assoc]
            exact y2
    · rw [if_neg c1_] at he fa
      have head_ : f_X9_single (n_ + 1) h_ w_ (nI (4 - (r_ + 1))) = bnd (f_X9_accept h_ w_ (40 : Int32)) fun h11 r12 => if r12 = 0 then f_X9_single_77 (f_X9_single n_) h11 w_ else ckO 1 h11 w_ 11 (bnd (f_X9_either (f_X9_single n_) h11 w_ (nI (4 - r_))) fun h46 r47 => if r47 = 0 then f_X9_single_75 (f_X9_single n_) h46 else ckO 1 h46 w_ 11 (bnd (f_X9_accept h46 w_ (41 : Int32)) fun h53 r54 => if r54 = 0 then f_X9_single_75 (f_X9_single n_) h53 else f_X9_single_76 (f_X9_single n_) h53 (1 : Int32))) := by
        rw [f_X9_single]
        unfold f_X9_singleB
        rw [if_pos d4_, ckO_of k1_ k2_, bnd_of fa, if_pos rfl]
        unfold f_X9_single_38
        rw [if_pos d4_, ckO_of k1_ k2_, dn]
      by_cases c2_ : nx T L_ a_ = 40
      · have l1 := nx_le (T := T) (L := L_) (a := a_) (by omega)
        rw [if_pos c2_] at he fb
        have H2_ := pX_at H_ l1
        obtain ⟨m1_, m2_, -⟩ := pX_base B_ H2_
        rw [bnd_of fb, if_neg ne10, ckO_of m1_ m2_] at head_
        cases hs : pEi T L_ (pSi T L_ r_) (a_ + 1) with
        | mk b1 o1 =>
          rw [hs] at he
          obtain ⟨g1, g2⟩ := hE (a_ + 1) o _ H2_ b1 o1 hs
          cases o1 with
          | none =>
            have he : (b1, none) = (b_, ot) := he
            obtain ⟨he1, he2⟩ := Prod.mk.inj he
            obtain ⟨h', o', x1_, x2_⟩ := g1 rfl
            exact ⟨fun _ => ⟨h', o', by rw [head_, bnd_of x1_, if_pos rfl]; rfl, by rw [← he1]; exact x2_⟩, fun t_ ht => by rw [← he2] at ht; cases ht⟩
          | some t1_ =>
            have he : (if nx T L_ b1 = 41 then (b1 + 1, some t1_) else (b1, none)) = (b_, ot) := he
            obtain ⟨h', x1_, x2_⟩ := g2 t1_ rfl
            obtain ⟨n1_, n2_, -⟩ := pX_base B_ x2_
            have fc_ : f_X9_accept h' w_ (41 : Int32) = _ := X9_acc (ch_ := 41) B_ x2_ (by decide)
            rw [bnd_of x1_, if_neg ne10, ckO_of n1_ n2_] at head_
            by_cases c3_ : nx T L_ b1 = 41
            · have l2 := nx_le (T := T) (L := L_) (a := b1) (by omega)
              rw [if_pos c3_] at he fc_
              obtain ⟨he1, he2⟩ := Prod.mk.inj he
              refine ⟨fun hh => by rw [← he2] at hh; (cases hh), fun t_ ht => ⟨_, by rw [head_, bnd_of fc_, if_neg ne10]; rfl, ?_⟩⟩
              rw [← he2] at ht
              rw [← Option.some.inj ht, ← he1]
              exact pX_at x2_ l2
            · rw [if_neg c3_] at he fc_
              obtain ⟨he1, he2⟩ := Prod.mk.inj he
              exact ⟨fun _ => ⟨h', o ++ t1_, by rw [head_, bnd_of fc_, if_pos rfl]; rfl, by rw [← he1]; exact x2_⟩, fun t_ ht => by rw [← he2] at ht; cases ht⟩
      · rw [if_neg c2_] at he fb
        rw [head_, bnd_of fb, if_pos rfl]
        exact X9_test B_ H_ he
