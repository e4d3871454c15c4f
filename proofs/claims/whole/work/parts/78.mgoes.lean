theorem pCl_none {T : Nat → Nat} {L_ a_ : Nat} (h_ : fV (nx T L_ a_) = none) : pCl T L_ a_ = (a_, none) := by unfold pCl; rw [h_]
theorem pCl_some {T : Nat → Nat} {L_ a_ v_ : Nat} (h_ : fV (nx T L_ a_) = some v_) : pCl T L_ a_ = (match pWd T L_ v_ 3 (a_ + 1) with
    | (b_, false) => (b_, none)
    | (b_, true) => if nx T L_ b_ = 32 then (match pNum T L_ (b_ + 1) with
      | (c_, none) => (c_, none)
      | (c_, some n_) => if v_ = 3 then (c_, some (3, n_, [])) else if nx T L_ c_ = 32 then (match pEi T L_ (pSi T L_ 4) (c_ + 1) with
        | (d_, none) => (d_, none)
        | (d_, some t_) => (d_, some (v_, n_, t_))) else (c_, none)) else (b_, none)) := by unfold pCl; rw [h_]; rfl
theorem M_clause {h00 : hp} {f_ L_ a_ : Nat} {T : Nat → Nat} {C_ : List cla} {h_ : hp} (hf : f_ < 6) (B00 : bM h00 T L_) (H_ : cM h00 f_ L_ a_ C_ h_) (hlen : C_.length < 10) {b_ : Nat} {oc : Option cla} (he : pCl T L_ a_ = (b_, oc)) : (oc = none → ∃ h', f_X12_takesClause h_ (nI (10 * f_ + C_.length)) = some (h', 0) ∧ agQ (QT f_) h00 h' ∧ hI h' 52 11 = nI b_) ∧ ∀ c_, oc = some c_ → ∃ h', f_X12_takesClause h_ (nI (10 * f_ + C_.length)) = some (h', 1) ∧ cM h00 f_ L_ b_ (C_ ++ [c_]) h' := by
  obtain ⟨x0_, x11, x21, xr, xs, xL, xl⟩ := id H_
  have hL := B00.2.2.2
  have B_ := bM_ag QT_no B00 x0_
  have hc60 : 10 * f_ + C_.length < 60 := by omega
  have ccl : (nI (10 * f_ + C_.length)).toNatClampNeg = 10 * f_ + C_.length := nI_clamp (by omega)
  have cin : vp_in (nI (10 * f_ + C_.length)) 60 := vp_in_nI hc60 (by decide)
  obtain ⟨v_, hv4, v1_, v2, h1, e1_, hd_⟩ := M_head hc60 B_ x11 xL
  have y1 : agQ (QT f_) h00 h1 := x0_.tr (by rw [e1_]; exact agQ_tI (Or.inr (Or.inl ⟨by omega, by omega⟩)))
  have B1 := bM_ag QT_no B00 y1
  have h1a : hI h1 52 11 = nI a_ := by rw [e1_]; exact x11
  have h1k : ∀ k_, hI h1 52 k_ = hI h_ 52 k_ := fun k_ => by rw [e1_]; rfl
  have a60 : aI h1 60 (10 * f_ + C_.length) = nI v_ := by rw [e1_, aI_tI, if_pos ⟨rfl, rfl⟩]
  have aoth : ∀ y_ k_, ¬ (y_ = 60 ∧ k_ = 10 * f_ + C_.length) → aI h1 y_ k_ = aI h_ y_ k_ := fun y_ k_ hk => by rw [e1_, aI_tI, if_neg hk]
  unfold f_X12_takesClause f_X12_takesClause_15 f_X12_takesClause_54 f_X12_takesClause_58 f_X12_takesClause_59
  cases hv : fV (nx T L_ a_) with
  | none =>
    rw [pCl_none hv] at he
    obtain ⟨he1, he2⟩ := Prod.mk.inj he
    have v3 := v2 hv
    have nw : ¬ nx T L_ a_ = lets.getD (4 * v_ + (3 - 3)) 0 := fun z_ => by
      have := (fV_let hv4).mp z_
      rw [hv] at this; cases this
    have hw : pWd T L_ v_ 4 a_ = (a_, false) := by rw [pWd, if_neg nw]
    obtain ⟨h', z1, z2, z3⟩ := M_word hv4 4 a_ h1 2000 (Nat.le_refl _) (by decide) B1 h1a xL a_ false hw
    have z3 : f_X12_takesWord_2 2000 h1 (nI (4 * v_)) (4 : Int32) (0 : Int32) = some (h', 0) := z3
    have z2 : hI h' 52 11 = nI a_ := z2
    rw [bnd_of z3, ckZ_b (Or.inl rfl)] at hd_
    refine ⟨fun _ => ⟨h', by rw [bnd_of hd_, if_pos rfl], y1.tr z1.q, by rw [← he1]; exact z2⟩, fun c_ hc_ => by rw [← he2] at hc_; cases hc_⟩
  | some w_ =>
    have hwv := v1_ w_ hv
    subst hwv
    rw [pCl_some hv] at he
    have yes_ : nx T L_ a_ = lets.getD (4 * w_ + (3 - 3)) 0 := (fV_let hv4).mpr hv
    cases hw3 : pWd T L_ w_ 3 (a_ + 1) with
    | mk b1 ok_ =>
      have hw : pWd T L_ w_ 4 a_ = (b1, ok_) := by rw [pWd, if_pos yes_]; exact hw3
      have wF := pWd_F hv4 3 (a_ + 1) (Nat.le_refl _) (fV_999 hv) b1 ok_ hw3
      obtain ⟨h', z1, z2, z3⟩ := M_word hv4 4 a_ h1 2000 (Nat.le_refl _) (by decide) B1 h1a xL b1 ok_ hw
      have z3 : f_X12_takesWord_2 2000 h1 (nI (4 * w_)) (4 : Int32) (0 : Int32) = some (h', if ok_ then (if nx T L_ b1 = 32 then 1 else 0) else 0) := z3
      rw [hw3] at he
      cases ok_ with
      | false =>
        have he : (b1, none) = (b_, oc) := he
        obtain ⟨he1, he2⟩ := Prod.mk.inj he
        have z2 : hI h' 52 11 = nI b1 := z2
        have z3 : f_X12_takesWord_2 2000 h1 (nI (4 * w_)) (4 : Int32) (0 : Int32) = some (h', 0) := z3
        rw [bnd_of z3, ckZ_b (Or.inl rfl)] at hd_
        exact ⟨fun _ => ⟨h', by rw [bnd_of hd_, if_pos rfl], y1.tr z1.q, by rw [← he1]; exact z2⟩, fun c_ hc_ => by rw [← he2] at hc_; cases hc_⟩
      | true =>
        have z2 : hI h' 52 11 = nI (if nx T L_ b1 = 32 then b1 + 1 else b1) := z2
        have z3 : f_X12_takesWord_2 2000 h1 (nI (4 * w_)) (4 : Int32) (0 : Int32) = some (h', if nx T L_ b1 = 32 then 1 else 0) := z3
        have he : (if nx T L_ b1 = 32 then (match pNum T L_ (b1 + 1) with
          | (c_, none) => (c_, none)
          | (c_, some n_) => if w_ = 3 then (c_, some (3, n_, [])) else if nx T L_ c_ = 32 then (match pEi T L_ (pSi T L_ 4) (c_ + 1) with
            | (d_, none) => (d_, none)
            | (d_, some t_) => (d_, some (w_, n_, t_))) else (c_, none)) else (b1, none)) = (b_, oc) := he
        by_cases c1_ : nx T L_ b1 = 32
        · have l2 := nx_le (T := T) (L := L_) (a := b1) (by omega)
          rw [if_pos c1_] at he z2 z3
          rw [bnd_of z3, ckZ_b (Or.inr rfl)] at hd_
          rw [bnd_of hd_, if_neg ne10]
          have B2 := z1.bM B1
          cases hn : pNum T L_ (b1 + 1) with
          | mk b2 on_ =>
            rw [hn] at he
            obtain ⟨n1_, n2_⟩ := M_num (Q_ := fun _ _ => False) B2 (fun _ => ⟨fun hh => hh, fun hh => hh⟩) z2 l2 hn
            obtain ⟨-, q2_⟩ := pNum_lt hn
            cases on_ with
            | none =>
              have he : (b2, none) = (b_, oc) := he
              obtain ⟨he1, he2⟩ := Prod.mk.inj he
              obtain ⟨m1_, m2_⟩ := n1_ rfl
              rw [bnd_of m1_, if_pos rfl]
              exact ⟨fun _ => ⟨h', rfl, y1.tr z1.q, by rw [← he1, m2_]; exact z2⟩, fun c_ hc_ => by rw [← he2] at hc_; cases hc_⟩
            | some nn =>
              obtain ⟨q1x, -, q3_, q4_⟩ := q2_ nn rfl
              obtain ⟨h5, m1_, m2_, m3_, m4_, m5_, m6_⟩ := n2_ nn rfl
              have he : (if w_ = 3 then (b2, some ((3, nn, []) : cla)) else if nx T L_ b2 = 32 then (match pEi T L_ (pSi T L_ 4) (b2 + 1) with
                | (d_, none) => (d_, none)
                | (d_, some t_) => (d_, some (w_, nn, t_))) else (b2, none)) = (b_, oc) := he
              have t5_ : agQ (QT f_) h00 h5 := (y1.tr z1.q).tr (agQ_up (fun _ _ hh => hh.elim) m2_)
              rw [bnd_of m1_, if_neg ne10, chk_of cin, nm_eq, ccl, m6_, chk_of cin]
              generalize hg : tI h5 61 (10 * f_ + C_.length) (nI nn) = g_
              have t6 : agQ (QT f_) h00 g_ := t5_.tr (by rw [← hg]; exact agQ_tI (Or.inr (Or.inl ⟨by omega, by omega⟩)))
              have ga : ∀ y_ k_, ¬ (y_ = 60 ∧ k_ = 10 * f_ + C_.length) → ¬ (y_ = 61 ∧ k_ = 10 * f_ + C_.length) → aI g_ y_ k_ = aI h_ y_ k_ := fun y_ k_ hk hk2 => by
                rw [← hg, aI_tI, if_neg hk2, m3_, z1.aI]; exact aoth y_ k_ hk
              have g60 : aI g_ 60 (10 * f_ + C_.length) = nI w_ := by
                rw [← hg, aI_tI, if_neg (by rintro ⟨hh, -⟩; exact absurd hh (by decide)), m3_, z1.aI]; exact a60
              have g61 : aI g_ 61 (10 * f_ + C_.length) = nI nn := by rw [← hg, aI_tI, if_pos ⟨rfl, rfl⟩]
              have g11 : hI g_ 52 11 = nI b2 := by rw [← hg]; exact m5_
              have g21 : hI g_ 52 21 = nI (100 * f_ + (flat C_).length) := by
                rw [← hg, hI_tI, m4_ 21 (by decide) (by decide), z1.2 21 (by decide), h1k]; exact x21
              have gs : ∀ i_ d_, (flat C_)[i_]? = some d_ → aI g_ 64 (100 * f_ + i_) = stepM d_ := fun i_ d_ hi_ => by
                rw [ga 64 _ (by omega) (by omega)]; exact xs i_ d_ hi_
              rw [g60]
              by_cases w3_ : w_ = 3
              · rw [if_pos w3_] at he
                subst w3_
                obtain ⟨he1, he2⟩ := Prod.mk.inj he
                rw [if_pos (show nI 3 = (3 : Int32) from rfl), ckZ_b (Or.inr rfl)]
                refine ⟨fun hh => by rw [← he2] at hh; (cases hh), fun c_ hc_ => ?_⟩
                rw [← he2] at hc_
                have hc_ := (Option.some.inj hc_).symm
                subst hc_
                have fl_ : flat (C_ ++ [((3, nn, []) : cla)]) = flat C_ := by rw [flat_app]; exact List.append_nil _
                rw [← he1]
                refine ⟨g_, rfl, t6, g11, by rw [fl_]; exact g21, fun k_ d_ hd2 => ?_, by rw [fl_]; exact gs, q4_, by rw [fl_]; omega⟩
                rcases snoc_at hd2 with ⟨u1_, u2_⟩ | ⟨u1_, u2_⟩
                · rw [ga 60 _ (by omega) (by omega), ga 61 _ (by omega) (by omega), ga 62 _ (by omega) (by omega), ga 63 _ (by omega) (by omega), offs_app C_ _ k_ (by omega), offs_app C_ _ (k_ + 1) u1_]
                  exact xr k_ d_ u2_
                · subst u1_ u2_
                  exact ⟨g60, g61, Or.inl rfl⟩
              · rw [if_neg w3_] at he
                rw [if_neg (show ¬ nI w_ = (3 : Int32) from fun z_ => w3_ ((nI_eq (b := 3) (by omega) (by decide)).mp z_))]
                have B3 := bM_ag QT_no B00 t6
                have ft : f_X12_takes g_ (32 : Int32) = _ := M_takes (ch_ := 32) B3 g11 q4_ (by decide)
                by_cases c2_ : nx T L_ b2 = 32
                · have l3 := nx_le (T := T) (L := L_) (a := b2) (by omega)
                  rw [if_pos c2_] at he ft
                  rw [bnd_of ft, if_neg ne10]
                  generalize hq : sI g_ 52 11 (nI (b2 + 1)) = g2
                  have aq : agA g_ g2 := by rw [← hq]; exact agA_sI
                  have k11 : hI g2 52 11 = nI (b2 + 1) := by rw [← hq, hI_sI, if_pos ⟨rfl, rfl⟩]
                  cases hs : pEi T L_ (pSi T L_ 4) (b2 + 1) with
                  | mk b3 ot =>
                    rw [hs] at he
                    obtain ⟨p1_, p2_⟩ := M_E (c_ := 10 * f_ + C_.length) (o := flat C_) hf hc60 (aq.bM B3) k11 (by rw [aq.2 21 (by decide)]; exact g21) (fun i_ d_ hi_ => by rw [aq.aI]; exact gs i_ d_ hi_) l3 (by omega) hs
                    cases ot with
                    | none =>
                      have he : (b3, none) = (b_, oc) := he
                      obtain ⟨he1, he2⟩ := Prod.mk.inj he
                      obtain ⟨h9, s1_, s2_, s3_⟩ := p1_ rfl
                      rw [bnd_of s1_, if_pos rfl, ckZ_b (Or.inl rfl)]
                      exact ⟨fun _ => ⟨h9, rfl, (t6.tr aq.q).tr (agQ_up (QC_T (by omega)) s2_), by rw [← he1]; exact s3_⟩, fun c_ hc_ => by rw [← he2] at hc_; cases hc_⟩
                    | some tt =>
                      have he : (b3, some ((w_, nn, tt) : cla)) = (b_, oc) := he
                      obtain ⟨he1, he2⟩ := Prod.mk.inj he
                      obtain ⟨h9, s1_, s2_, s3_, s4_, s5, s6_, s7, s8, s9, s10⟩ := p2_ tt rfl
                      rw [bnd_of s1_, if_neg ne10, ckZ_b (Or.inr rfl)]
                      refine ⟨fun hh => by rw [← he2] at hh; (cases hh), fun c_ hc_ => ?_⟩
                      rw [← he2] at hc_
                      have hc_ := (Option.some.inj hc_).symm
                      subst hc_
                      have fl_ : flat (C_ ++ [((w_, nn, tt) : cla)]) = flat C_ ++ tt := by rw [flat_app]; exact congrArg (flat C_ ++ ·) (List.append_nil _)
                      rw [← he1]
                      refine ⟨h9, rfl, (t6.tr aq.q).tr (agQ_up (QC_T (by omega)) s2_), s3_, by rw [fl_]; exact s4_, fun k_ d_ hd2 => ?_, by rw [fl_]; exact s7, s9, by rw [fl_]; exact s8⟩
                      have r60 : ∀ k_, aI h9 60 k_ = aI g_ 60 k_ := fun k_ => by rw [s10 60 k_ (by decide) (by decide) (by decide) (by decide), aq.aI]
                      have r61 : ∀ k_, aI h9 61 k_ = aI g_ 61 k_ := fun k_ => by rw [s10 61 k_ (by decide) (by decide) (by decide) (by decide), aq.aI]
                      rcases snoc_at hd2 with ⟨u1_, u2_⟩ | ⟨u1_, u2_⟩
                      · have nq : ∀ y_, 60 ≤ y_ ∧ y_ ≤ 63 → ¬ QC f_ (10 * f_ + C_.length) y_ (10 * f_ + k_) := fun y_ hy => by unfold QC; omega
                        rw [r60, r61, s2_.2.2.2 62 _ (nq 62 (by omega)), s2_.2.2.2 63 _ (nq 63 (by omega)), aq.aI, aq.aI, ga 60 _ (by omega) (by omega), ga 61 _ (by omega) (by omega), ga 62 _ (by omega) (by omega), ga 63 _ (by omega) (by omega), offs_app C_ _ k_ (by omega), offs_app C_ _ (k_ + 1) u1_]
                        exact xr k_ d_ u2_
                      · subst u1_ u2_
                        refine ⟨by rw [r60]; exact g60, by rw [r61]; exact g61, Or.inr ⟨?_, ?_⟩⟩
                        · rw [s5, offs_app C_ _ _ (Nat.le_refl _), offs_all]
                        · rw [s6_, show C_.length + 1 = (C_ ++ [((w_, nn, tt) : cla)]).length by simp, offs_all, fl_]
                · rw [if_neg c2_] at he ft
                  obtain ⟨he1, he2⟩ := Prod.mk.inj he
                  rw [bnd_of ft, if_pos rfl, ckZ_b (Or.inl rfl)]
                  exact ⟨fun _ => ⟨g_, rfl, t6, by rw [← he1]; exact g11⟩, fun c_ hc_ => by rw [← he2] at hc_; cases hc_⟩
        · rw [if_neg c1_] at he z2 z3
          obtain ⟨he1, he2⟩ := Prod.mk.inj he
          rw [bnd_of z3, ckZ_b (Or.inl rfl)] at hd_
          exact ⟨fun _ => ⟨h', by rw [bnd_of hd_, if_pos rfl], y1.tr z1.q, by rw [← he1]; exact z2⟩, fun c_ hc_ => by rw [← he2] at hc_; cases hc_⟩
theorem cM_59 {h00 : hp} {f_ L_ a_ : Nat} {C_ : List cla} {h_ : hp} {v_ : Int32} (H_ : cM h00 f_ L_ a_ C_ h_) : cM h00 f_ L_ a_ C_ (tI h_ 59 f_ v_) := by
  obtain ⟨x0_, x11, x21, xr, xs, xL, xl⟩ := H_
  exact ⟨x0_.tr (agQ_tI (Or.inl ⟨rfl, rfl⟩)), x11, x21, xr, xs, xL, xl⟩
theorem cM_wd {h00 : hp} {f_ L_ a_ : Nat} {C_ : List cla} {h_ : hp} (hL : L_ ≤ 100) (H_ : cM h00 f_ L_ a_ C_ h_) (h59 : aI h_ 59 f_ = nI C_.length) : wdM h_ f_ C_ := by
  obtain ⟨x0_, x11, x21, xr, xs, xL, xl⟩ := H_
  refine ⟨h59, fun k_ c_ hc_ => ?_⟩
  obtain ⟨r1_, r2, r3⟩ := xr k_ c_ hc_
  refine ⟨r1_, r2, r3.imp id (fun r3 => ⟨100 * f_ + offs C_ k_, ?_, r3.1, ?_, fun j_ d_ hd_ => ?_⟩)⟩
  · have h1 := offs_mono C_ (k_ + 1) (by have := (List.getElem?_eq_some_iff.mp hc_).1; omega)
    rw [offs_succ C_ k_ c_ hc_, offs_all] at h1
    omega
  · rw [r3.2, offs_succ C_ k_ c_ hc_]; exact congrArg nI (by omega)
  · rw [Nat.add_assoc]; exact xs _ d_ (flat_at C_ k_ j_ c_ d_ hc_ hd_)
def goI (oC : Option (List cla)) : Int32 := match oC with
  | none => 0
  | some _ => 1
/-- from a_ clause that is_ read_ on_ -/
theorem M_tx {h00 : hp} {f_ L_ : Nat} {T : Nat → Nat} (hf : f_ < 6) (B00 : bM h00 T L_) : ∀ k_ a_ C_ h_ n_, cM h00 f_ L_ a_ C_ h_ → C_.length + k_ = 10 → k_ < n_ → ∀ b1 oc, pCl T L_ a_ = (b1, oc) → ∀ b_ oC, (match (b1, oc) with
    | (b_, none) => (b_, none)
    | (b_, some c_) => pTx T L_ (k_ - 1) b_ (C_ ++ [c_])) = (b_, oC) → 0 < k_ → ∃ h', f_X12_goesText_15 n_ h_ (nI f_) (nI C_.length) = some (h', goI oC) ∧ agQ (QT f_) h00 h' ∧ hI h' 52 11 = nI b_ ∧ ∀ D_, oC = some D_ → wdM h' f_ D_ := by
  have hL := B00.2.2.2
  intro k_
  induction k_ with
  | zero => intro a_ C_ h_ n_ H_ hk hn b1 oc hc_ b_ oC he h0; omega
  | succ k_ ih_ =>
    intro a_ C_ h_ n_ H_ hk hn b1 oc hc_ b_ oC he h0
    obtain ⟨n_, rfl⟩ : ∃ m_, n_ = m_ + 1 := ⟨n_ - 1, by omega⟩
    obtain ⟨f1_, f2_⟩ := M_clause hf B00 H_ (by omega) hc_
    rw [f_X12_goesText_15, show (10 : Int32) * nI f_ = nI (10 * f_) from nI_10f, nI_add]
    cases oc with
    | none =>
      have he : (b1, none) = (b_, oC) := he
      obtain ⟨he1, he2⟩ := Prod.mk.inj he
      obtain ⟨h', y1, y2, y3⟩ := f1_ rfl
      rw [bnd_of y1, if_pos rfl, ← he1, ← he2]
      exact ⟨h', rfl, y2, y3, fun D_ hD => by cases hD⟩
    | some c_ =>
      have he : pTx T L_ k_ b1 (C_ ++ [c_]) = (b_, oC) := he
      obtain ⟨h', y1, y2⟩ := f2_ c_ rfl
      have y3 := cM_59 (v_ := nI (C_.length + 1)) y2
      obtain ⟨z0, z11, -, -, -, zL, -⟩ := id y3
      have B1 := bM_ag QT_no B00 z0
      have e59 : aI (tI h' 59 f_ (nI (C_.length + 1))) 59 f_ = nI (C_ ++ [c_]).length := by rw [aI_tI, if_pos ⟨rfl, rfl⟩]; simp
      rw [bnd_of y1, if_neg ne10, nI_1, nm_eq, chk_of (vp_in_nI (n := f_) (N := 6) hf (by decide)), nm_eq, nI_clamp (by omega), z11, B1.1]
      by_cases hl : b1 = L_
      · rw [if_pos (by rw [hl])]
        have n59 : ¬ nx T L_ b1 = 59 := by rw [nx_off (by omega)]; decide
        have hh : pTx T L_ k_ b1 (C_ ++ [c_]) = (b1, some (C_ ++ [c_])) := by
          cases k_ with
          | zero => rw [pTx, if_neg (by omega)]
          | succ k_ => rw [pTx, if_neg n59, if_neg (by omega)]
        rw [hh] at he
        obtain ⟨he1, he2⟩ := Prod.mk.inj he
        rw [← he1, ← he2]
        exact ⟨_, rfl, z0, z11, fun D_ hD => by rw [← Option.some.inj hD]; exact cM_wd hL y3 e59⟩
      · rw [if_neg (fun z_ => hl ((nI_eq (by omega) (by omega)).mp z_))]
        have hlt : b1 < L_ := by omega
        cases k_ with
        | zero =>
          rw [pTx, if_pos hlt] at he
          obtain ⟨he1, he2⟩ := Prod.mk.inj he
          rw [if_pos (show nI (C_.length + 1) = (10 : Int32) by rw [show C_.length + 1 = 10 by omega]; rfl), ← he1, ← he2]
          exact ⟨_, rfl, z0, z11, fun D_ hD => by cases hD⟩
        | succ k_ =>
          rw [if_neg (show ¬ nI (C_.length + 1) = (10 : Int32) from fun z_ => by have := (nI_eq (b := 10) (by omega) (by decide)).mp z_; omega)]
          have ft : f_X12_takes (tI h' 59 f_ (nI (C_.length + 1))) (59 : Int32) = _ := M_takes (ch_ := 59) B1 z11 zL (by decide)
          rw [pTx] at he
          by_cases c59 : nx T L_ b1 = 59
          · rw [if_pos c59] at he ft
            rw [bnd_of ft, if_neg ne10]
            have y4 : cM h00 f_ L_ (b1 + 1) (C_ ++ [c_]) (sI (tI h' 59 f_ (nI (C_.length + 1))) 52 11 (nI (b1 + 1))) := by
              obtain ⟨x0_, x11, x21, xr, xs, xL, xl⟩ := y3
              exact ⟨x0_.tr (agQ_sI (Or.inl rfl)), by rw [hI_sI, if_pos ⟨rfl, rfl⟩], by rw [hI_sI, if_neg (by rintro ⟨-, hh⟩; exact absurd hh (by decide))]; exact x21, xr, xs, hlt, by omega⟩
            cases hc2 : pCl T L_ (b1 + 1) with
            | mk b2 oc2 =>
              rw [hc2] at he
              have := ih_ (b1 + 1) (C_ ++ [c_]) _ n_ y4 (by simp only [List.length_append, List.length_cons, List.length_nil]; omega) (by omega) b2 oc2 hc2 b_ oC (by cases oc2 <;> exact he) (by omega)
              rw [show (C_ ++ [c_]).length = C_.length + 1 by simp] at this
              exact this
          · rw [if_neg c59, if_pos hlt] at he
            rw [if_neg c59] at ft
            obtain ⟨he1, he2⟩ := Prod.mk.inj he
            rw [bnd_of ft, if_pos rfl, ← he1, ← he2]
            exact ⟨_, rfl, z0, z11, fun D_ hD => by cases hD⟩
theorem M_goes {h_ : hp} {f_ L_ : Nat} {T : Nat → Nat} (hf : f_ < 6) (B_ : bM h_ T L_) {b_ : Nat} {oC : Option (List cla)} (he : pText T L_ = (b_, oC)) : ∃ h', f_X12_goesText h_ (nI f_) = some (h', goI oC) ∧ agQ (QT f_) h_ h' ∧ hI h' 52 11 = nI b_ ∧ ∀ D_, oC = some D_ → wdM h' f_ D_ := by
  unfold f_X12_goesText
  rw [nm_eq, nm_eq, show (100 : Int32) = nI 100 from rfl, pk_mul]
  generalize hg : sI (sI h_ 52 11 0) 52 21 (nI (100 * f_)) = g_
  have x0_ : agQ (QT f_) h_ g_ := by rw [← hg]; exact (agQ_sI (by omega)).tr (agQ_sI (by omega))
  have H_ : cM h_ f_ L_ 0 [] g_ := by
    refine ⟨x0_, ?_, ?_, fun k_ c_ hc_ => by simp at hc_, fun i_ d_ hi_ => by simp [flat] at hi_, Nat.zero_le _, Nat.le_refl _⟩
    · rw [← hg, hI_sI, if_neg (by rintro ⟨-, hh⟩; exact absurd hh (by decide)), hI_sI, if_pos ⟨rfl, rfl⟩]; rfl
    · rw [← hg, hI_sI, if_pos ⟨rfl, rfl⟩]; rfl
  unfold pText at he
  cases hc_ : pCl T L_ 0 with
  | mk b1 oc =>
    rw [hc_] at he
    exact M_tx hf B_ 10 0 [] g_ 2000 H_ rfl (by decide) b1 oc hc_ b_ oC (by cases oc <;> exact he) (by decide)
