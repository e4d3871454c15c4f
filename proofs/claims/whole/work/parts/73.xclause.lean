-- ===== clauses and whole texts: the class's way_ =====
def flat : List cla → List Nat
  | [] => []
  | c_ :: C_ => c_.2.2 ++ flat C_
theorem flat_app : ∀ (C_ D_ : List cla), flat (C_ ++ D_) = flat C_ ++ flat D_ := by
  intro C_ D_
  induction C_ with
  | nil => rfl
  | cons c_ C_ ih_ => show c_.2.2 ++ flat (C_ ++ D_) = (c_.2.2 ++ flat C_) ++ flat D_; rw [ih_, List.append_assoc]
theorem offs_0 (C_ : List cla) : offs C_ 0 = 0 := by cases C_ <;> rfl
theorem offs_all : ∀ (C_ : List cla), offs C_ C_.length = (flat C_).length := by
  intro C_
  induction C_ with
  | nil => rfl
  | cons c_ C_ ih_ => show c_.2.2.length + offs C_ C_.length = (c_.2.2 ++ flat C_).length; rw [ih_, List.length_append]
theorem offs_app : ∀ (C_ D_ : List cla) (k_ : Nat), k_ ≤ C_.length → offs (C_ ++ D_) k_ = offs C_ k_ := by
  intro C_ D_
  induction C_ with
  | nil => intro k_ hk; have : k_ = 0 := by simpa using hk
           subst this; rw [offs_0, offs_0]
  | cons c_ C_ ih_ =>
    intro k_ hk
    match k_, hk with
    | 0, _ => rfl
    | k_ + 1, hk => show c_.2.2.length + offs (C_ ++ D_) k_ = c_.2.2.length + offs C_ k_; rw [ih_ k_ (by simpa using hk)]
theorem flat_at : ∀ (C_ : List cla) (k_ j_ : Nat) (c_ : cla) (d_ : Nat), C_[k_]? = some c_ → c_.2.2[j_]? = some d_ → (flat C_)[offs C_ k_ + j_]? = some d_ := by
  intro C_
  induction C_ with
  | nil => intro k_ j_ c_ d_ h_; simp at h_
  | cons x_ C_ ih_ =>
    intro k_ j_ c_ d_ h1 h2
    match k_, h1 with
    | 0, h1 =>
      have : x_ = c_ := by simpa using h1
      subst this
      show (x_.2.2 ++ flat C_)[0 + j_]? = some d_
      rw [Nat.zero_add, List.getElem?_append_left (List.getElem?_eq_some_iff.mp h2).1]
      exact h2
    | k_ + 1, h1 =>
      show (x_.2.2 ++ flat C_)[x_.2.2.length + offs C_ k_ + j_]? = some d_
      rw [List.getElem?_append_right (by omega), show x_.2.2.length + offs C_ k_ + j_ - x_.2.2.length = offs C_ k_ + j_ by omega]
      exact ih_ k_ j_ c_ d_ (by simpa using h1) h2
theorem nearL_app : ∀ (C_ : List cla) (c_ : cla) (n_ : Nat), nearL (C_ ++ [c_]) n_ = if c_.1 = 3 then c_.2.1 else nearL C_ n_ := by
  intro C_ c_
  induction C_ with
  | nil => intro n_; rfl
  | cons x_ C_ ih_ => intro n_; show nearL (C_ ++ [c_]) (if x_.1 = 3 then x_.2.1 else n_) = _; rw [ih_]; rfl
theorem snoc_at {C_ : List cla} {c_ x_ : cla} {k_ : Nat} (h_ : (C_ ++ [c_])[k_]? = some x_) : (k_ < C_.length ∧ C_[k_]? = some x_) ∨ (k_ = C_.length ∧ x_ = c_) := by
  by_cases h1 : k_ < C_.length
  · rw [List.getElem?_append_left h1] at h_; exact Or.inl ⟨h1, h_⟩
  · right
    have := (List.getElem?_eq_some_iff.mp h_).1
    simp only [List.length_append, List.length_cons, List.length_nil] at this
    have e_ : k_ = C_.length := by omega
    subst e_
    rw [List.getElem?_append_right (Nat.le_refl _), Nat.sub_self] at h_
    exact ⟨rfl, by simpa using h_.symm⟩
def agW (w_ : Nat) (h_ h' : hp) : Prop := agX (fun j_ => w_ ≤ j_ ∧ j_ ≤ w_ + 4) h_ h'
/-- the reader's state between clauses -/
def cX (h00 : hp) (w_ L_ a_ : Nat) (C_ : List cla) (h_ : hp) : Prop := agW w_ h00 h_ ∧ hR h_ w_ 7 = some 25 ∧ hI h_ w_ 3 = nI C_.length ∧ hI h_ w_ 6 = nI (nearL C_ 2) ∧ (∀ k_ c_, C_[k_]? = some c_ → aI h_ (w_ + 1) k_ = nI c_.1 ∧ aI h_ (w_ + 2) k_ = nI c_.2.1 ∧ aI h_ (w_ + 3) k_ = nI (offs C_ (k_ + 1))) ∧ hI h_ w_ 8 = nI a_ ∧ hI h_ w_ 5 = nI (flat C_).length ∧ (∀ i_ d_, (flat C_)[i_]? = some d_ → aI h_ (w_ + 4) i_ = stepX d_) ∧ a_ ≤ L_ ∧ (flat C_).length ≤ a_
theorem agX_up {P_ Q_ : Nat → Prop} {h_ h' : hp} (hPQ : ∀ a_, P_ a_ → Q_ a_) (x_ : agX P_ h_ h') : agX Q_ h_ h' := ⟨x_.1, fun a_ ha_ => x_.2 a_ (fun hc_ => ha_ (hPQ a_ hc_))⟩
theorem bX_ag {h00 h_ : hp} {w_ : Nat} {T : Nat → Nat} {L_ : Nat} (B_ : bX h00 w_ T L_) (x_ : agW w_ h00 h_) (h7 : hR h_ w_ 7 = some 25) : bX h_ w_ T L_ := by
  obtain ⟨bw, b7, b25, b26, bL⟩ := B_
  have hn := wd_num bw
  exact ⟨wdK_kd x_.kd bw, h7, by rw [(x_.2 25 (by omega)).1]; exact b25, by rw [(x_.2 26 (by omega)).2.2.1]; exact b26, bL⟩
theorem cX_p {h00 : hp} {w_ L_ a_ : Nat} {C_ : List cla} {h_ : hp} (H_ : cX h00 w_ L_ a_ C_ h_) : pX h_ w_ L_ a_ (flat C_) h_ := by
  obtain ⟨-, -, -, -, -, c8_, c5_, c4_, cL, cl_⟩ := H_
  exact ⟨agX.rf, rfl, fun _ _ _ => rfl, c8_, c5_, c4_, cL, cl_⟩
theorem X9_110 {h00 : hp} {w_ L_ b_ : Nat} {C_ : List cla} {c_ : cla} {h_ : hp} (W : wdK h00 w_) (x_ : agW w_ h00 h_) (h7 : hR h_ w_ 7 = some 25) (h3 : hI h_ w_ 3 = nI C_.length) (hlen : C_.length < 10) (h6 : hI h_ w_ 6 = nI (nearL (C_ ++ [c_]) 2)) (hrow : ∀ k_ d_, C_[k_]? = some d_ → aI h_ (w_ + 1) k_ = nI d_.1 ∧ aI h_ (w_ + 2) k_ = nI d_.2.1 ∧ aI h_ (w_ + 3) k_ = nI (offs C_ (k_ + 1))) (h8 : hI h_ w_ 8 = nI b_) (h5 : hI h_ w_ 5 = nI (flat (C_ ++ [c_])).length) (h4 : ∀ i_ d_, (flat (C_ ++ [c_]))[i_]? = some d_ → aI h_ (w_ + 4) i_ = stepX d_) (hL : b_ ≤ L_) (hl : (flat (C_ ++ [c_])).length ≤ b_) : ∃ h', f_X9_clause_110 h_ w_ (nI c_.1) (nI c_.2.1) = some (h', 1) ∧ cX h00 w_ L_ b_ (C_ ++ [c_]) h' := by
  obtain ⟨k1_, k2_, ⟨k3_, k4_, k5_, -⟩, s1_, s2_, s3_, -⟩ := wdK_kd x_.kd W
  have hA1 := fun (y_ : Option (hp × Int32)) => ckA_of (b := 1) (h := h_) (i := w_ + 1) (e := 0) (n := 10) (a := y_) s1_ k3_ (by decide)
  have cin : vp_in (nI C_.length) 10 := vp_in_nI hlen (by decide)
  have ccl : (nI C_.length).toNatClampNeg = C_.length := nI_clamp (by omega)
  unfold f_X9_clause_110
  rw [ckO_of k1_ k2_, ckO_of k1_ k2_, (hA1 _).1, (hA1 none).2, h3, chk_of cin, nm_eq, ccl]
  generalize e1_ : tI h_ (w_ + 1) C_.length (nI c_.1) = g1
  have d1_ : ∀ j_, kdOf g1 j_ = kdOf h_ j_ := fun j_ => by rw [← e1_]; rfl
  have i1_ : hI g1 = hI h_ := by rw [← e1_]; rfl
  have hA2 := fun (y_ : Option (hp × Int32)) => ckA_of (b := 1) (h := g1) (i := w_ + 2) (e := 0) (n := 10) (a := y_) s2_ ((d1_ _).trans k4_) (by decide)
  rw [ckO_of k1_ ((d1_ w_).trans k2_), ckO_of k1_ ((d1_ w_).trans k2_), (hA2 _).1, (hA2 none).2, i1_, h3, chk_of cin, nm_eq, ccl]
  generalize e2_ : tI g1 (w_ + 2) C_.length (nI c_.2.1) = g2
  have d2_ : ∀ j_, kdOf g2 j_ = kdOf h_ j_ := fun j_ => by rw [← e2_]; exact d1_ j_
  have i2_ : hI g2 = hI h_ := by rw [← e2_]; exact i1_
  have hA3 := fun (y_ : Option (hp × Int32)) => ckA_of (b := 1) (h := g2) (i := w_ + 3) (e := 0) (n := 10) (a := y_) s3_ ((d2_ _).trans k5_) (by decide)
  rw [ckO_of k1_ ((d2_ w_).trans k2_), ckO_of k1_ ((d2_ w_).trans k2_), ckO_of k1_ ((d2_ w_).trans k2_), (hA3 _).1, (hA3 none).2, i2_, h3, h5, chk_of cin, nm_eq, ccl]
  generalize e3_ : tI g2 (w_ + 3) C_.length (nI (flat (C_ ++ [c_])).length) = g3_
  have d3_ : ∀ j_, kdOf g3_ j_ = kdOf h_ j_ := fun j_ => by rw [← e3_]; exact d2_ j_
  have i3_ : hI g3_ = hI h_ := by rw [← e3_]; exact i2_
  rw [ckO_of k1_ ((d3_ w_).trans k2_), ckO_of k1_ ((d3_ w_).trans k2_), nm_eq, i3_, h3, nI_1]
  have ag3 : agW w_ h_ g3_ := by
    have a1_ : agW w_ h_ g1 := by rw [← e1_]; exact agX_tI (by omega)
    have a2 : agW w_ g1 g2 := by rw [← e2_]; exact agX_tI (by omega)
    have a3 : agW w_ g2 g3_ := by rw [← e3_]; exact agX_tI (by omega)
    exact (a1_.tr a2).tr a3
  have r3 : hR g3_ = hR h_ := by rw [← e3_, ← e2_, ← e1_]; rfl
  have q4_ : aI g3_ (w_ + 4) = aI h_ (w_ + 4) := by
    funext y_
    rw [← e3_, ← e2_, ← e1_, aI_tI, if_neg (by omega), aI_tI, if_neg (by omega), aI_tI, if_neg (by omega)]
  have q1_ : ∀ k_, aI g3_ (w_ + 1) k_ = if k_ = C_.length then nI c_.1 else aI h_ (w_ + 1) k_ := fun k_ => by
    rw [← e3_, ← e2_, ← e1_, aI_tI, if_neg (by omega), aI_tI, if_neg (by omega), aI_tI]
    by_cases e_ : k_ = C_.length
    · rw [if_pos ⟨rfl, e_⟩, if_pos e_]
    · rw [if_neg (by rintro ⟨-, hh⟩; exact e_ hh), if_neg e_]
  have q2_ : ∀ k_, aI g3_ (w_ + 2) k_ = if k_ = C_.length then nI c_.2.1 else aI h_ (w_ + 2) k_ := fun k_ => by
    rw [← e3_, ← e2_, ← e1_, aI_tI, if_neg (by omega), aI_tI]
    by_cases e_ : k_ = C_.length
    · rw [if_pos ⟨rfl, e_⟩, if_pos e_]
    · rw [if_neg (by rintro ⟨-, hh⟩; exact e_ hh), if_neg e_, aI_tI, if_neg (by omega)]
  have q3_ : ∀ k_, aI g3_ (w_ + 3) k_ = if k_ = C_.length then nI (flat (C_ ++ [c_])).length else aI h_ (w_ + 3) k_ := fun k_ => by
    rw [← e3_, ← e2_, ← e1_, aI_tI]
    by_cases e_ : k_ = C_.length
    · rw [if_pos ⟨rfl, e_⟩, if_pos e_]
    · rw [if_neg (by rintro ⟨-, hh⟩; exact e_ hh), if_neg e_, aI_tI, if_neg (by omega), aI_tI, if_neg (by omega)]
  refine ⟨_, rfl, (x_.tr ag3).tr (agX_sI (by omega)), ?_, ?_, ?_, fun k_ d_ hd_ => ?_, ?_, ?_, ?_, hL, hl⟩
  · rw [hR_sI, r3]; exact h7
  · rw [hI_sI, if_pos ⟨rfl, rfl⟩, List.length_append]; rfl
  · rw [hI_sI, if_neg (by rintro ⟨-, hh⟩; exact absurd hh (by decide)), i3_]; exact h6
  · simp only [aI_sI]
    rw [q1_, q2_, q3_]
    rcases snoc_at hd_ with ⟨u1_, u2_⟩ | ⟨u1_, u2_⟩
    · rw [if_neg (by omega), if_neg (by omega), if_neg (by omega), offs_app C_ [c_] (k_ + 1) u1_]
      exact hrow k_ d_ u2_
    · subst u1_ u2_
      rw [if_pos rfl, if_pos rfl, if_pos rfl]
      refine ⟨rfl, rfl, ?_⟩
      rw [show C_.length + 1 = (C_ ++ [d_]).length by simp, offs_all]
  · rw [hI_sI, if_neg (by rintro ⟨-, hh⟩; exact absurd hh (by decide)), i3_]; exact h8
  · rw [hI_sI, if_neg (by rintro ⟨-, hh⟩; exact absurd hh (by decide)), i3_]; exact h5
  · simp only [aI_sI]; rw [q4_]; exact h4
theorem X_charAt : ∀ i_, i_ < 16 → ∀ h_, f_J0_charAt_5068e h_ 1 (nI i_) = some (h_, nI (lets.getD i_ 0)) := by
  intro i_ hi_ h_
  rcases (show i_ = 0 ∨ i_ = 1 ∨ i_ = 2 ∨ i_ = 3 ∨ i_ = 4 ∨ i_ = 5 ∨ i_ = 6 ∨ i_ = 7 ∨ i_ = 8 ∨ i_ = 9 ∨ i_ = 10 ∨ i_ = 11 ∨ i_ = 12 ∨ i_ = 13 ∨ i_ = 14 ∨ i_ = 15 by omega) with rfl | rfl | rfl | rfl | rfl | rfl | rfl | rfl | rfl | rfl | rfl | rfl | rfl | rfl | rfl | rfl <;> rfl
theorem lets_lt : ∀ i_, i_ < 16 → lets.getD i_ 0 < 128 := by decide
def cl4 (h_ : hp) (w_ : Nat) (v_ : Int32) : Option (hp × Int32) := bnd (f_X9_accept h_ w_ (32 : Int32)) fun h23 r24 => if r24 = 0 then f_X9_clause_71 h23 w_ v_ (-1 : Int32) else ckO 1 h23 w_ 11 (bnd (f_X9_number h23 w_) fun h67 r68 => f_X9_clause_71 h67 w_ v_ r68)
theorem X9_word {h0 : hp} {w_ : Nat} {T : Nat → Nat} {L_ : Nat} {o : List Nat} {v_ : Nat} (B_ : bX h0 w_ T L_) (hv : v_ < 4) : ∀ j_ a_ h_ n_, j_ ≤ 3 → j_ < n_ → pX h0 w_ L_ a_ o h_ → ∀ b_ ok_, pWd T L_ v_ j_ a_ = (b_, ok_) → (ok_ = false → ∃ h', f_X9_clause_24 n_ h_ w_ (nI v_) (nI (4 - j_)) = some (h', 0) ∧ pX h0 w_ L_ b_ o h') ∧ (ok_ = true → ∃ h', f_X9_clause_24 n_ h_ w_ (nI v_) (nI (4 - j_)) = cl4 h' w_ (nI v_) ∧ pX h0 w_ L_ b_ o h') := by
  intro j_
  induction j_ with
  | zero =>
    intro a_ h_ n_ h3 hn H_ b_ ok_ he
    obtain ⟨n_, rfl⟩ : ∃ m_, n_ = m_ + 1 := ⟨n_ - 1, by omega⟩
    obtain ⟨k1_, k2_, -⟩ := pX_base B_ H_
    have he : (a_, true) = (b_, ok_) := he
    obtain ⟨rfl, rfl⟩ := Prod.mk.inj he
    refine ⟨(fun hh => nomatch hh), fun _ => ⟨h_, ?_, H_⟩⟩
    rw [f_X9_clause_24, if_neg (show ¬ nI (4 - 0) < (4 : Int32) by decide), ckO_of k1_ k2_]; rfl
  | succ j_ ih_ =>
    intro a_ h_ n_ h3 hn H_ b_ ok_ he
    obtain ⟨n_, rfl⟩ : ∃ m_, n_ = m_ + 1 := ⟨n_ - 1, by omega⟩
    obtain ⟨k1_, k2_, -⟩ := pX_base B_ H_
    rw [pWd] at he
    have ha_ := X9_acc (ch_ := lets.getD (4 * v_ + (3 - j_)) 0) B_ H_ (lets_lt _ (by omega))
    have e1_ : nI v_ * (4 : Int32) + nI (4 - (j_ + 1)) = nI (4 * v_ + (3 - j_)) := by
      rw [show (4 : Int32) = nI 4 from rfl, pk_mul, nI_add]
      exact congrArg nI (by omega)
    have e2_ : nI (4 - (j_ + 1)) + (1 : Int32) = nI (4 - j_) := by rw [nI_1]; exact congrArg nI (by omega)
    have hd_ : f_X9_clause_24 (n_ + 1) h_ w_ (nI v_) (nI (4 - (j_ + 1))) = bnd (f_X9_accept h_ w_ (nI (lets.getD (4 * v_ + (3 - j_)) 0))) fun h17 r18 => if r18 = 0 then some (h17, (0 : Int32)) else f_X9_clause_24 n_ h17 w_ (nI v_) (nI (4 - j_)) := by
      rw [f_X9_clause_24, if_pos (show nI (4 - (j_ + 1)) < (4 : Int32) from nI_lt (b := 4) (by omega) (by decide)), e1_, show ∀ y_ : Option (hp × Int32), ckT 1 y_ = y_ from fun y_ => if_pos (by decide), bnd_of (X_charAt _ (by omega) h_), ckO_of k1_ k2_, e2_]
      rfl
    rw [hd_]
    by_cases hc_ : nx T L_ a_ = lets.getD (4 * v_ + (3 - j_)) 0
    · have hl := nx_le (T := T) (L := L_) (a := a_) (by have := lets_lt (4 * v_ + (3 - j_)) (by omega); omega)
      rw [if_pos hc_] at he ha_
      rw [bnd_of ha_, if_neg ne10]
      exact ih_ (a_ + 1) _ n_ (by omega) (by omega) (pX_at H_ hl) b_ ok_ he
    · rw [if_neg hc_] at he ha_
      rw [bnd_of ha_, if_pos rfl]
      obtain ⟨rfl, rfl⟩ := Prod.mk.inj he
      exact ⟨fun _ => ⟨h_, rfl, H_⟩, (fun hh => nomatch hh)⟩
theorem fV_lt {c_ v_ : Nat} (h_ : fV c_ = some v_) : v_ < 4 := by
  unfold fV at h_
  repeat' split at h_
  all_goals first | (have := Option.some.inj h_; omega) | cases h_
theorem pX_W {h0 h_ : hp} {w_ L_ a_ : Nat} {o : List Nat} (H_ : pX h0 w_ L_ a_ o h_) : agW w_ h0 h_ := agX_up (fun a_ ha_ => by omega) H_.1
theorem fV_999 {T : Nat → Nat} {L_ a_ v_ : Nat} (h_ : fV (nx T L_ a_) = some v_) : a_ < L_ := nx_le (fun e_ => by rw [e_] at h_; cases h_)
/-- a_ clause is_ read_, or not -/
theorem X9_clause {h00 : hp} {w_ : Nat} {T : Nat → Nat} {L_ a_ : Nat} {C_ : List cla} {h_ : hp} (B_ : bX h00 w_ T L_) (H_ : cX h00 w_ L_ a_ C_ h_) (hlen : C_.length < 10) {b_ : Nat} {oc : Option cla} (he : pCl T L_ a_ = (b_, oc)) : (oc = none → ∃ h', f_X9_clause h_ w_ = some (h', 0) ∧ agW w_ h00 h' ∧ hI h' w_ 8 = nI b_ ∧ hR h' w_ 7 = some 25) ∧ ∀ c_, oc = some c_ → ∃ h', f_X9_clause h_ w_ = some (h', 1) ∧ cX h00 w_ L_ b_ (C_ ++ [c_]) h' := by
  obtain ⟨x0_, x7, x3, x6, xr, x8, x5_, x4_, xL, xl⟩ := id H_
  have B1 := bX_ag B_ x0_ x7
  have P1_ := cX_p H_
  obtain ⟨k1_, k2_, -⟩ := pX_base B1 P1_
  have fail_ : ∀ {h' b' o'}, pX h_ w_ L_ b' o' h' → agW w_ h00 h' ∧ hI h' w_ 8 = nI b' ∧ hR h' w_ 7 = some 25 := fun {h' b' o'} hp => ⟨x0_.tr (pX_W hp), hp.2.2.2.1, by rw [hp.2.1]; exact x7⟩
  have f1_ := X9_one B1 P1_ (by decide) tab_V (by rfl) sm_V
  have hd_ : f_X9_clause h_ w_ = bnd (f_X9_acceptOneOf h_ w_ 0) fun h2 r3 => if r3 < 0 then f_X9_clause_20 h2 else ckO 1 h2 w_ 11 (if hI h2 w_ 3 < (10 : Int32) then f_X9_clause_24 2000 h2 w_ r3 (1 : Int32) else f_X9_clause_20 h2) := by
    unfold f_X9_clause
    rw [ckO_of k1_ k2_]
  unfold pCl at he
  cases hv : fV (nx T L_ a_) with
  | none =>
    rw [hv] at he f1_
    have he : (a_, none) = (b_, oc) := he
    obtain ⟨rfl, rfl⟩ := Prod.mk.inj he
    exact ⟨fun _ => ⟨h_, by rw [hd_, bnd_of f1_]; rfl, fail_ P1_⟩, (fun c_ hc_ => nomatch hc_)⟩
  | some v_ =>
    rw [hv] at he f1_
    have hv4 := fV_lt hv
    have hl := fV_999 hv
    have P2_ := pX_at P1_ hl
    obtain ⟨m1_, m2_, -⟩ := pX_base B1 P2_
    have g3_ : hI (sI h_ w_ 8 (nI (a_ + 1))) w_ 3 = nI C_.length := by rw [hI_sI, if_neg (by rintro ⟨-, hh⟩; exact absurd hh (by decide))]; exact x3
    rw [bnd_of f1_, if_neg (nI_pos (by omega)), ckO_of m1_ m2_, g3_, if_pos (show nI C_.length < (10 : Int32) from nI_lt (b := 10) hlen (by decide))] at hd_
    have he : (match pWd T L_ v_ 3 (a_ + 1) with
      | (b_, false) => (b_, none)
      | (b_, true) => if nx T L_ b_ = 32 then (match pNum T L_ (b_ + 1) with
        | (c_, none) => (c_, none)
        | (c_, some n_) => if v_ = 3 then (c_, some (3, n_, [])) else if nx T L_ c_ = 32 then (match pEi T L_ (pSi T L_ 4) (c_ + 1) with
          | (d_, none) => (d_, none)
          | (d_, some t_) => (d_, some (v_, n_, t_))) else (c_, none)) else (b_, none)) = (b_, oc) := he
    cases hw : pWd T L_ v_ 3 (a_ + 1) with
    | mk b1 ok_ =>
      rw [hw] at he
      obtain ⟨w1_, w2_⟩ := X9_word B1 hv4 3 (a_ + 1) _ 2000 (Nat.le_refl _) (by decide) P2_ b1 ok_ hw
      cases ok_ with
      | false =>
        have he : (b1, none) = (b_, oc) := he
        obtain ⟨he1, he2⟩ := Prod.mk.inj he
        obtain ⟨h', y1, y2⟩ := w1_ rfl
        exact ⟨fun _ => ⟨h', by rw [hd_]; exact y1, by rw [← he1]; exact fail_ y2⟩, fun c_ hc_ => by rw [← he2] at hc_; cases hc_⟩
      | true =>
        obtain ⟨h', y1, y2⟩ := w2_ rfl
        have hd_ : f_X9_clause h_ w_ = cl4 h' w_ (nI v_) := hd_.trans y1
        unfold cl4 at hd_
        obtain ⟨n1_, n2_, -⟩ := pX_base B1 y2
        have fa : f_X9_accept h' w_ (32 : Int32) = _ := X9_acc (ch_ := 32) B1 y2 (by decide)
        have he : (if nx T L_ b1 = 32 then (match pNum T L_ (b1 + 1) with
          | (c_, none) => (c_, none)
          | (c_, some n_) => if v_ = 3 then (c_, some (3, n_, [])) else if nx T L_ c_ = 32 then (match pEi T L_ (pSi T L_ 4) (c_ + 1) with
            | (d_, none) => (d_, none)
            | (d_, some t_) => (d_, some (v_, n_, t_))) else (c_, none)) else (b1, none)) = (b_, oc) := he
        by_cases c1_ : nx T L_ b1 = 32
        · have l2 := nx_le (T := T) (L := L_) (a := b1) (by omega)
          rw [if_pos c1_] at he fa
          have P3 := pX_at y2 l2
          obtain ⟨u1_, u2_, -⟩ := pX_base B1 P3
          rw [bnd_of fa, if_neg ne10, ckO_of u1_ u2_] at hd_
          cases hn : pNum T L_ (b1 + 1) with
          | mk b2 on_ =>
            rw [hn] at he
            obtain ⟨h2, z1, z2⟩ := X9_num B1 P3 hn
            obtain ⟨-, q2_⟩ := pNum_lt hn
            rw [bnd_of z1] at hd_
            cases on_ with
            | none =>
              have he : (b2, none) = (b_, oc) := he
              obtain ⟨he1, he2⟩ := Prod.mk.inj he
              exact ⟨fun _ => ⟨h2, by rw [hd_]; rfl, by rw [← he1]; exact fail_ z2⟩, fun c_ hc_ => by rw [← he2] at hc_; cases hc_⟩
            | some nn =>
              obtain ⟨-, -, q3_, -⟩ := q2_ nn rfl
              have he : (if v_ = 3 then (b2, some ((3, nn, []) : cla)) else if nx T L_ b2 = 32 then (match pEi T L_ (pSi T L_ 4) (b2 + 1) with
                | (d_, none) => (d_, none)
                | (d_, some t_) => (d_, some (v_, nn, t_))) else (b2, none)) = (b_, oc) := he
              obtain ⟨s1_, s2_, -⟩ := pX_base B1 z2
              have hd_ : f_X9_clause h_ w_ = f_X9_clause_71 h2 w_ (nI v_) (nI nn) := hd_
              unfold f_X9_clause_71 at hd_
              rw [if_neg (nI_pos (by omega))] at hd_
              by_cases v3 : v_ = 3
              · rw [if_pos v3] at he
                subst v3
                obtain ⟨he1, he2⟩ := Prod.mk.inj he
                rw [if_pos (show nI 3 = (3 : Int32) from rfl), ckO_of s1_ s2_, nm_eq] at hd_
                refine ⟨fun hh => by rw [← he2] at hh; (cases hh), fun c_ hc_ => ?_⟩
                rw [← he2] at hc_
                have hc_ := (Option.some.inj hc_).symm
                subst hc_
                obtain ⟨p1_, p2_, p3_, p4_, p5_, p6_, p7_, p8_⟩ := z2
                have fl_ : flat (C_ ++ [((3, nn, []) : cla)]) = flat C_ := by rw [flat_app]; exact List.append_nil _
                rw [hd_, ← he1]
                refine X9_110 (C_ := C_) (c_ := (3, nn, [])) B_.1 ((x0_.tr (pX_W ⟨p1_, p2_, p3_, p4_, p5_, p6_, p7_, p8_⟩)).tr (agX_sI (by omega))) ?_ ?_ hlen ?_ ?_ ?_ ?_ ?_ p7_ ?_
                · rw [hR_sI, p2_]; exact x7
                · rw [hI_sI, if_neg (by rintro ⟨-, hh⟩; exact absurd hh (by decide)), p3_ 3 (by decide) (by decide)]; exact x3
                · rw [hI_sI, if_pos ⟨rfl, rfl⟩, nearL_app]; rfl
                · intro k_ d_ hk
                  simp only [aI_sI]
                  rw [(p1_.2 (w_ + 1) (by omega)).2.2.1, (p1_.2 (w_ + 2) (by omega)).2.2.1, (p1_.2 (w_ + 3) (by omega)).2.2.1]
                  exact xr k_ d_ hk
                · rw [hI_sI, if_neg (by rintro ⟨-, hh⟩; exact absurd hh (by decide))]; exact p4_
                · rw [hI_sI, if_neg (by rintro ⟨-, hh⟩; exact absurd hh (by decide)), fl_]; exact p5_
                · rw [fl_]; simp only [aI_sI]; exact p6_
                · rw [fl_]; exact p8_
              · rw [if_neg v3] at he
                rw [if_neg (show ¬ nI v_ = (3 : Int32) from fun z_ => v3 ((nI_eq (b := 3) (by omega) (by decide)).mp z_)), ckO_of s1_ s2_] at hd_
                have fb : f_X9_accept h2 w_ (32 : Int32) = _ := X9_acc (ch_ := 32) B1 z2 (by decide)
                by_cases c2_ : nx T L_ b2 = 32
                · have l3 := nx_le (T := T) (L := L_) (a := b2) (by omega)
                  rw [if_pos c2_] at he fb
                  have P4 := pX_at z2 l3
                  obtain ⟨t1_, t2_, -⟩ := pX_base B1 P4
                  rw [bnd_of fb, if_neg ne10, ckO_of t1_ t2_] at hd_
                  obtain ⟨hD, hF⟩ := pSi_D (T := T) (L_ := L_) 4
                  have hE : SX h_ w_ L_ (f_X9_either (f_X9_single 6)) (pEi T L_ (pSi T L_ 4)) (0 : Int32) := X9_either_sp B1 (X9_both_sp B1 (X9_single_sp B1 4 6 (Nat.le_refl _) (by decide)) hD hF) (pBo_D (T := T) (ch_ := 38) (cd := 2002) hD hF (Or.inl rfl) (by decide)).1 (pBo_D (T := T) (ch_ := 38) (cd := 2002) hD hF (Or.inl rfl) (by decide)).2
                  cases hs : pEi T L_ (pSi T L_ 4) (b2 + 1) with
                  | mk b3 ot =>
                    rw [hs] at he
                    obtain ⟨e1_, e2_⟩ := hE (b2 + 1) (flat C_) _ P4 b3 ot hs
                    cases ot with
                    | none =>
                      have he : (b3, none) = (b_, oc) := he
                      obtain ⟨he1, he2⟩ := Prod.mk.inj he
                      obtain ⟨h3, o3_, y3, y4⟩ := e1_ rfl
                      exact ⟨fun _ => ⟨h3, by rw [hd_, bnd_of y3]; rfl, by rw [← he1]; exact fail_ y4⟩, fun c_ hc_ => by rw [← he2] at hc_; cases hc_⟩
                    | some tt =>
                      have he : (b3, some ((v_, nn, tt) : cla)) = (b_, oc) := he
                      obtain ⟨he1, he2⟩ := Prod.mk.inj he
                      obtain ⟨h3, y3, y4⟩ := e2_ tt rfl
                      refine ⟨fun hh => by rw [← he2] at hh; (cases hh), fun c_ hc_ => ?_⟩
                      rw [← he2] at hc_
                      have hc_ := (Option.some.inj hc_).symm
                      subst hc_
                      obtain ⟨p1_, p2_, p3_, p4_, p5_, p6_, p7_, p8_⟩ := y4
                      have fl_ : flat (C_ ++ [((v_, nn, tt) : cla)]) = flat C_ ++ tt := by rw [flat_app]; exact congrArg (flat C_ ++ ·) (List.append_nil _)
                      rw [hd_, bnd_of y3, if_neg ne10, ← he1]
                      refine X9_110 (C_ := C_) (c_ := (v_, nn, tt)) B_.1 (x0_.tr (pX_W ⟨p1_, p2_, p3_, p4_, p5_, p6_, p7_, p8_⟩)) ?_ ?_ hlen ?_ ?_ p4_ ?_ ?_ p7_ ?_
                      · rw [p2_]; exact x7
                      · rw [p3_ 3 (by decide) (by decide)]; exact x3
                      · rw [p3_ 6 (by decide) (by decide), nearL_app]
                        show _ = nI (if v_ = 3 then nn else nearL C_ 2)
                        rw [if_neg v3]; exact x6
                      · intro k_ d_ hk
                        rw [(p1_.2 (w_ + 1) (by omega)).2.2.1, (p1_.2 (w_ + 2) (by omega)).2.2.1, (p1_.2 (w_ + 3) (by omega)).2.2.1]
                        exact xr k_ d_ hk
                      · rw [fl_]; exact p5_
                      · rw [fl_]; exact p6_
                      · rw [fl_]; exact p8_
                · rw [if_neg c2_] at he fb
                  obtain ⟨he1, he2⟩ := Prod.mk.inj he
                  exact ⟨fun _ => ⟨h2, by rw [hd_, bnd_of fb]; rfl, by rw [← he1]; exact fail_ z2⟩, fun c_ hc_ => by rw [← he2] at hc_; cases hc_⟩
        · rw [if_neg c1_] at he fa
          obtain ⟨he1, he2⟩ := Prod.mk.inj he
          exact ⟨fun _ => ⟨h', by rw [hd_, bnd_of fa]; rfl, by rw [← he1]; exact fail_ y2⟩, fun c_ hc_ => by rw [← he2] at hc_; cases hc_⟩
