-- ===== tests of_ clauses: the reference's way_ =====
theorem tab_P : ∀ c_, c_ < 128 → f_X12_place hp0 (nI c_) = some (ixI (fL c_)) := by decide +kernel
theorem M_place {h_ : hp} {c_ : Nat} (hc_ : c_ < 128 ∨ c_ = 999) : f_X12_place h_ (nxI c_) = some (ixI (fL c_)) := by
  rcases hc_ with hc_ | rfl
  · have e_ : nxI c_ = nI c_ := by unfold nxI; rw [if_neg (by omega)]
    rw [e_]; exact tab_P c_ hc_
  · rfl
theorem tab_B2 : ∀ c_, c_ < 128 → (nI c_ < (60 : Int32) ∨ (62 : Int32) < nI c_ ↔ ¬ (60 ≤ c_ ∧ c_ ≤ 62)) := by decide +kernel
def fM (h0 : hp) (f_ c_ b_ : Nat) (h' : hp) : Prop := agQ (QE f_ c_) h0 h' ∧ hI h' 52 11 = nI b_
theorem qM_fM {h0 : hp} {f_ c_ L_ a_ : Nat} {W o : List Nat} {h_ : hp} (H_ : qM h0 f_ c_ L_ a_ W o h_) : fM h0 f_ c_ a_ h_ := ⟨H_.1, H_.2.1⟩
theorem qM_at {h0 : hp} {f_ c_ L_ a_ b_ : Nat} {W o : List Nat} {h_ h' : hp} (H_ : qM h0 f_ c_ L_ a_ W o h_) (x_ : agQ (QE f_ c_) h_ h') (e_ : aI h' = aI h_) (k_ : ∀ j_, j_ ≠ 11 → j_ ≠ 12 → hI h' 52 j_ = hI h_ 52 j_) (eb : hI h' 52 11 = nI b_) (hb_ : a_ ≤ b_) (hL : b_ ≤ L_) : qM h0 f_ c_ L_ b_ W o h' := by
  obtain ⟨p1_, p2_, p3_, p4_, p5_, ⟨p6_, p6'⟩, p7_, p8_, p9_⟩ := H_
  exact ⟨p1_.tr x_, eb, by rw [k_ 21 (by decide) (by decide)]; exact p3_, by rw [k_ 22 (by decide) (by decide)]; exact p4_, by rw [k_ 23 (by decide) (by decide)]; exact p5_, ⟨plM_ag (by rw [e_]) p6_, p6'⟩, by rw [e_]; exact p7_, hL, by omega⟩
theorem qM_at1 {h0 : hp} {f_ c_ L_ a_ : Nat} {W o : List Nat} {h_ : hp} (H_ : qM h0 f_ c_ L_ a_ W o h_) (hL : a_ < L_) : qM h0 f_ c_ L_ (a_ + 1) W o (sI h_ 52 11 (nI (a_ + 1))) := qM_at H_ (agQ_sI (Or.inl rfl)) rfl (fun j_ j1 j2_ => by rw [hI_sI, if_neg (by rintro ⟨-, hh⟩; exact j1 hh)]) (by rw [hI_sI, if_pos ⟨rfl, rfl⟩]) (by omega) hL
theorem qM_emit2 {h0 : hp} {f_ c_ L_ a_ d_ : Nat} {W o : List Nat} {h_ : hp} (hf : f_ < 6) (hL : L_ ≤ 100) (H_ : qM h0 f_ c_ L_ a_ W o h_) (hlt : o.length + W.length < a_) : ∃ h', f_X12_emits h_ (stepM d_) = some (h', ()) ∧ qM h0 f_ c_ L_ a_ W (o ++ [d_]) h' := by
  obtain ⟨p1_, p2_, p3_, p4_, p5_, ⟨p6_, p6'⟩, p7_, p8_, p9_⟩ := H_
  unfold f_X12_emits
  rw [p3_, chk_of (vp_in_nI (n := 100 * f_ + o.length) (N := 600) (by omega) (by decide)), nm_eq, nI_clamp (by omega), nm_eq, hI_tI, p3_, nI_1]
  refine ⟨_, rfl, (p1_.tr (agQ_tI (Or.inr (Or.inl ⟨rfl, by omega⟩)))).tr (agQ_sI (by omega)), ?_, ?_, ?_, ?_, ⟨?_, p6'⟩, fun i_ e_ hi_ => ?_, p8_, ?_⟩
  · rw [hI_sI, if_neg (by rintro ⟨-, hh⟩; exact absurd hh (by decide)), hI_tI]; exact p2_
  · rw [hI_sI, if_pos ⟨rfl, rfl⟩, List.length_append]; rfl
  · rw [hI_sI, if_neg (by rintro ⟨-, hh⟩; exact absurd hh (by decide)), hI_tI]; exact p4_
  · rw [hI_sI, if_neg (by rintro ⟨-, hh⟩; exact absurd hh (by decide)), hI_tI]; exact p5_
  · refine plM_ag ?_ p6_
    funext i_
    rw [aI_sI, aI_tI, if_neg (by rintro ⟨hh, -⟩; exact absurd hh (by decide))]
  · rw [aI_sI, aI_tI]
    by_cases c1_ : i_ < o.length
    · rw [if_neg (by rintro ⟨-, hh⟩; omega)]
      rw [List.getElem?_append_left c1_] at hi_
      exact p7_ i_ e_ hi_
    · have c2_ : i_ = o.length := by
        have := (List.getElem?_eq_some_iff.mp hi_).1
        simp only [List.length_append, List.length_cons, List.length_nil] at this
        omega
      subst c2_
      rw [List.getElem?_append_right (Nat.le_refl _), Nat.sub_self] at hi_
      have : d_ = e_ := by simpa using hi_
      rw [if_pos ⟨rfl, rfl⟩, this]
  · simp only [List.length_append, List.length_cons, List.length_nil]; omega
theorem M_test {h0 : hp} {f_ c_ L_ a_ : Nat} {T : Nat → Nat} {W o : List Nat} {h_ : hp} (hf : f_ < 6) (B0 : bM h0 T L_) (H_ : qM h0 f_ c_ L_ a_ W o h_) {b_ : Nat} {ot : Option (List Nat)} (he : pTest T L_ a_ = (b_, ot)) : (ot = none → ∃ h', f_X12_takesTest h_ = some (h', 0) ∧ fM h0 f_ c_ b_ h') ∧ ∀ t_, ot = some t_ → ∃ h', f_X12_takesTest h_ = some (h', 1) ∧ qM h0 f_ c_ L_ b_ (strp W) (o ++ t_ ++ nots W) h' := by
  have B_ := bM_ag QE_no B0 H_.1
  have hL := B0.2.2.2
  have haL := H_.2.2.2.2.2.2.2.1
  have hlen := H_.2.2.2.2.2.2.2.2
  have n0_ := nx_lt (L_ := L_) (a_ := a_) (bM_T B_)
  have h6 := lt6_le (nx T L_ a_)
  have hd_ : f_X12_takesTest h_ = if ixI (fL (nx T L_ a_)) < 0 then some (h_, (0 : Int32)) else nm (sI h_ 52 11 (nI (a_ + 1))) fun h6 => bnr (f_X12_next h6) fun r7 => bnr (f_X12_in h6 r7 (60 : Int32) (62 : Int32)) fun r9 => if r9 = 0 then some (h6, (0 : Int32)) else nm (sI h6 52 11 ((hI h6 52 11) + (1 : Int32))) fun h12 => bnd (f_X12_takesNumber h12) fun h13 r14 => if r14 = 0 then some (h13, (0 : Int32)) else bnd (f_X12_emits h13 ((((1000 : Int32) * ixI (fL (nx T L_ a_))) + ((100 : Int32) * (r7 - (60 : Int32)))) + (hI h13 52 12))) fun h17 _ => bnd (f_X12_whole h17) fun h19 _ => some (h19, (1 : Int32)) := by
    unfold f_X12_takesTest
    rw [bnr_of (M_next B_ H_.2.1 haL), bnr_of (M_place n0_), H_.2.1, nI_1]
  unfold pTest at he
  by_cases c1_ : lt6 (nx T L_ a_) = 6
  · rw [if_pos c1_] at he
    have e1_ : fL (nx T L_ a_) = none := if_pos c1_
    obtain ⟨rfl, rfl⟩ := Prod.mk.inj he
    refine ⟨fun _ => ⟨h_, ?_, qM_fM H_⟩, (fun t_ ht => nomatch ht)⟩
    rw [hd_, e1_]; rfl
  · have l1 := nx_le (T := T) (L := L_) (a := a_) (fun e_ => c1_ (by rw [e_]; rfl))
    rw [if_neg c1_] at he
    have e1_ : fL (nx T L_ a_) = some (lt6 (nx T L_ a_)) := if_neg c1_
    have H1_ := qM_at1 H_ l1
    have B1 := bM_ag QE_no B0 H1_.1
    have n1_ := nx_lt (L_ := L_) (a_ := a_ + 1) (bM_T B_)
    rw [e1_, show ixI (some (lt6 (nx T L_ a_))) = nI (lt6 (nx T L_ a_)) from rfl, if_neg (nI_pos (by omega)), nm_eq, bnr_of (M_next B1 H1_.2.1 l1), bnr_of M_in] at hd_
    by_cases c2_ : 60 ≤ nx T L_ (a_ + 1) ∧ nx T L_ (a_ + 1) ≤ 62
    · have l2 := nx_le (T := T) (L := L_) (a := a_ + 1) (by omega)
      rw [if_pos c2_] at he
      have e2_ : nxI (nx T L_ (a_ + 1)) = nI (nx T L_ (a_ + 1)) := by unfold nxI; rw [if_neg (by omega)]
      have H2_ := qM_at1 H1_ l2
      have B2 := bM_ag QE_no B0 H2_.1
      rw [e2_, if_neg (fun z_ => (tab_B2 _ (by omega)).mp z_ c2_), if_neg ne10, nm_eq, H1_.2.1, nI_1] at hd_
      cases hn : pNum T L_ (a_ + 2) with
      | mk b1 on_ =>
        rw [hn] at he
        obtain ⟨q1_, q2_⟩ := M_num B2 QE_no H2_.2.1 l2 hn
        obtain ⟨-, z2⟩ := pNum_lt hn
        cases on_ with
        | none =>
          have he : (b1, none) = (b_, ot) := he
          obtain ⟨he1, he2⟩ := Prod.mk.inj he
          obtain ⟨x1_, x2_⟩ := q1_ rfl
          refine ⟨fun _ => ⟨_, by rw [hd_, bnd_of x1_, if_pos rfl], by rw [← he1, x2_]; exact qM_fM H2_⟩, fun t_ ht => by rw [← he2] at ht; cases ht⟩
        | some nn =>
          have he : (b1, some [300 * lt6 (nx T L_ a_) + 100 * (nx T L_ (a_ + 1) - 60) + nn]) = (b_, ot) := he
          obtain ⟨he1, he2⟩ := Prod.mk.inj he
          obtain ⟨z3, z4, z5, z6⟩ := z2 nn rfl
          obtain ⟨h', x1_, x2_, x3, x4_, x5_, x6⟩ := q2_ nn rfl
          have H3 := qM_at H2_ x2_ x3 x4_ x5_ (by omega) z6
          obtain ⟨h2, y1, y2⟩ := qM_emit2 (d_ := 300 * lt6 (nx T L_ a_) + 100 * (nx T L_ (a_ + 1) - 60) + nn) hf hL H3 (by omega)
          have ev_ : (((1000 : Int32) * nI (lt6 (nx T L_ a_))) + ((100 : Int32) * (nI (nx T L_ (a_ + 1)) - (60 : Int32)))) + nI nn = stepM (300 * lt6 (nx T L_ a_) + 100 * (nx T L_ (a_ + 1) - 60) + nn) := by
            rw [stepM_test (by omega), show (60 : Int32) = nI 60 from rfl, pk_sub (by omega), show (1000 : Int32) = nI 1000 from rfl, show (100 : Int32) = nI 100 from rfl, pk_mul, pk_mul, nI_add, nI_add]
            exact congrArg nI (by omega)
          obtain ⟨h3, w1_, w2_⟩ := M_whole hf hL W _ h2 2000 (by omega) y2
          have w1_ : f_X12_whole h2 = some (h3, ()) := w1_
          refine ⟨fun hh => by rw [← he2] at hh; (cases hh), fun t_ ht => ⟨h3, ?_, ?_⟩⟩
          · rw [hd_, bnd_of x1_, if_neg ne10, x6, ev_, bnd_of y1, bnd_of w1_]
          · rw [← he2] at ht
            rw [← Option.some.inj ht, ← he1]
            exact w2_
    · rw [if_neg c2_] at he
      obtain ⟨rfl, rfl⟩ := Prod.mk.inj he
      refine ⟨fun _ => ⟨sI h_ 52 11 (nI (a_ + 1)), ?_, qM_fM H1_⟩, (fun t_ ht => nomatch ht)⟩
      rw [hd_]
      rcases n1_ with n1_ | n1_
      · have e2_ : nxI (nx T L_ (a_ + 1)) = nI (nx T L_ (a_ + 1)) := by unfold nxI; rw [if_neg (by omega)]
        rw [e2_, if_pos ((tab_B2 _ n1_).mpr c2_), if_pos rfl]
      · rw [n1_]; rfl
theorem stl_len (b_ : Nat) : ∀ W o, (stl b_ W o).1.length ≤ W.length := by
  intro W
  induction W with
  | nil => intro o; exact Nat.le_refl _
  | cons x_ W ih_ =>
    intro o
    rw [stl]
    have i1_ := ih_ (o ++ [2002])
    have i2_ := ih_ (o ++ [2003])
    by_cases e1_ : x_ = 38
    · rw [if_pos e1_]; simp only [List.length_cons]; omega
    · rw [if_neg e1_]
      by_cases e2_ : x_ = 124
      · rw [if_pos e2_]
        by_cases e3_ : b_ = 38
        · rw [if_pos e3_]; exact Nat.le_refl _
        · rw [if_neg e3_]; simp only [List.length_cons]; omega
      · rw [if_neg e2_]; exact Nat.le_refl _
theorem stl_hd : ∀ W o x_ V, (stl 124 W o).1 = x_ :: V → x_ ≠ 38 ∧ x_ ≠ 124 := by
  intro W
  induction W with
  | nil => intro o x_ V h_; cases h_
  | cons y_ W ih_ =>
    intro o x_ V h_
    rw [stl] at h_
    by_cases e1_ : y_ = 38
    · rw [if_pos e1_] at h_; exact ih_ _ x_ V h_
    · rw [if_neg e1_] at h_
      by_cases e2_ : y_ = 124
      · rw [if_pos e2_, if_neg (by decide)] at h_; exact ih_ _ x_ V h_
      · rw [if_neg e2_] at h_
        have : y_ = x_ := (List.cons.inj h_).1
        rw [← this]; exact ⟨e1_, e2_⟩
/-- something comes on_ the pile -/
theorem qM_push {h0 : hp} {f_ c_ L_ a_ x_ : Nat} {W o : List Nat} {h_ : hp} (H_ : qM h0 f_ c_ L_ a_ W o h_) (hx : x_ = 33 ∨ x_ = 40 ∨ x_ = 38 ∨ x_ = 124) (hl : a_ < L_) {h2 : hp} (g1 : agQ (QE f_ c_) (tI h_ 65 W.length (nI x_)) h2) (g2 : aI h2 = aI (tI h_ 65 W.length (nI x_))) (g3_ : hI h2 52 11 = nI (a_ + 1)) (g4 : hI h2 52 21 = hI h_ 52 21) (g5_ : hI h2 52 22 = nI (W.length + 1)) (g6 : hI h2 52 23 = nI (brk (x_ :: W))) : qM h0 f_ c_ L_ (a_ + 1) (x_ :: W) o h2 := by
  obtain ⟨p1_, p2_, p3_, p4_, p5_, ⟨p6_, p6'⟩, p7_, p8_, p9_⟩ := H_
  refine ⟨(p1_.tr (agQ_tI (Or.inr (Or.inr rfl)))).tr g1, g3_, by rw [g4]; exact p3_, g5_, g6, ⟨plM_ag (by rw [g2]) (plM_set p6_), fun y_ hy => ?_⟩, fun i_ d_ hi_ => ?_, hl, by simp only [List.length_cons]; omega⟩
  · rcases List.mem_cons.mp hy with rfl | hy
    · exact hx
    · exact p6' y_ hy
  · rw [g2, aI_tI, if_neg (by rintro ⟨hh, -⟩; exact absurd hh (by decide))]; exact p7_ i_ d_ hi_
theorem M_run {h0 : hp} {f_ c_ L_ : Nat} {T : Nat → Nat} (hf : f_ < 6) (hc_ : c_ < 60) (B0 : bM h0 T L_) : ∀ n_ wants a_ W o h_, qM h0 f_ c_ L_ a_ W o h_ → ∀ ok_ b_ o', mrun T L_ n_ wants a_ W o = some (ok_, b_, o') → ∃ h', f_X12_takesE_22 n_ h_ (nI c_) (b01 wants) = some (h', b01 ok_) ∧ fM h0 f_ c_ b_ h' ∧ (ok_ = true → qM h0 f_ c_ L_ b_ [] o' h' ∧ aI h' 63 c_ = nI (100 * f_ + o'.length)) := by
  have hL := B0.2.2.2
  intro n_
  induction n_ with
  | zero => intro wants a_ W o h_ H_ ok_ b_ o' he; cases he
  | succ n_ ih_ =>
    intro wants a_ W o h_ H_ ok_ b_ o' he
    have B_ := bM_ag QE_no B0 H_.1
    have haL := H_.2.2.2.2.2.2.2.1
    have hlen := H_.2.2.2.2.2.2.2.2
    obtain ⟨p1_, p2_, p3_, p4_, p5_, ⟨p6_, p6'⟩, p7_, p8_, p9_⟩ := id H_
    have n0_ := nx_lt (L_ := L_) (a_ := a_) (bM_T B_)
    have N_ : ∀ ch_, ch_ < 128 → (nxI (nx T L_ a_) = nI ch_ ↔ nx T L_ a_ = ch_) := fun ch_ hch => nxI_eq n0_ hch
    cases wants with
    | true =>
      rw [f_X12_takesE_22, bnr_of (M_next B_ p2_ haL), if_neg (b01_not0 rfl)]
      rw [mrun] at he
      have push_ : ∀ x_, x_ = 33 ∨ x_ = 40 → nx T L_ a_ = x_ → ∃ h', f_X12_takesE_43 (f_X12_takesE_22 n_) h_ (nI c_) (b01 true) (nxI (nx T L_ a_)) = some (h', b01 ok_) ∧ fM h0 f_ c_ b_ h' ∧ (ok_ = true → qM h0 f_ c_ L_ b_ [] o' h' ∧ aI h' 63 c_ = nI (100 * f_ + o'.length)) := by
        intro x_ hx hxa
        have hl := nx_le (T := T) (L := L_) (a := a_) (by omega)
        have bl := brk_le W
        rw [if_pos (by omega)] at he
        unfold f_X12_takesE_43
        rw [p5_, (N_ x_ (by omega)).mpr hxa]
        by_cases b4 : brk W = 4
        · rw [if_pos b4] at he
          rw [if_pos (show nI (brk W) = (4 : Int32) by rw [b4]; rfl)]
          have he := Option.some.inj he
          obtain ⟨r1_, r2⟩ := Prod.mk.inj he
          obtain ⟨r2, r3⟩ := Prod.mk.inj r2
          refine ⟨h_, by rw [← r1_]; rfl, by rw [← r2]; exact qM_fM H_, fun hh => by rw [← r1_] at hh; cases hh⟩
        · rw [if_neg b4] at he
          rw [if_neg (show ¬ nI (brk W) = (4 : Int32) from fun z_ => b4 ((nI_eq (b := 4) (by omega) (by decide)).mp z_)), nI_1, nm_eq, hI_sI, if_neg (by rintro ⟨-, hh⟩; exact absurd hh (by decide)), p4_, chk_of (vp_in_nI (n := W.length) (N := 101) (by omega) (by decide)), nm_eq, nI_clamp (by omega), hI_tI, hI_sI, if_neg (by rintro ⟨-, hh⟩; exact absurd hh (by decide)), p4_, nI_1, nm_eq, hI_sI, if_neg (by rintro ⟨-, hh⟩; exact absurd hh (by decide)), hI_tI, hI_sI, if_neg (by rintro ⟨-, hh⟩; exact absurd hh (by decide)), p2_, nI_1, nm_eq]
          rw [hxa] at he
          refine ih_ true (a_ + 1) (x_ :: W) o _ (qM_push H_ (by omega) hl ?_ ?_ ?_ ?_ ?_ ?_) ok_ b_ o' he
          · exact ⟨rfl, rfl, fun y_ j_ hj => by rw [hI_sI, if_neg (by rintro ⟨rfl, rfl⟩; exact hj ⟨rfl, by omega⟩), hI_sI, if_neg (by rintro ⟨rfl, rfl⟩; exact hj ⟨rfl, by omega⟩), hI_tI, hI_sI, if_neg (by rintro ⟨rfl, rfl⟩; exact hj ⟨rfl, by omega⟩)]; rfl, fun _ _ _ => rfl⟩
          · rfl
          · rw [hI_sI, if_pos ⟨rfl, rfl⟩]
          · rw [hI_sI, if_neg (by rintro ⟨-, hh⟩; exact absurd hh (by decide)), hI_sI, if_neg (by rintro ⟨-, hh⟩; exact absurd hh (by decide)), hI_tI, hI_sI, if_neg (by rintro ⟨-, hh⟩; exact absurd hh (by decide))]
          · rw [hI_sI, if_neg (by rintro ⟨-, hh⟩; exact absurd hh (by decide)), hI_sI, if_pos ⟨rfl, rfl⟩]
          · rw [hI_sI, if_neg (by rintro ⟨-, hh⟩; exact absurd hh (by decide)), hI_sI, if_neg (by rintro ⟨-, hh⟩; exact absurd hh (by decide)), hI_tI, hI_sI, if_pos ⟨rfl, rfl⟩]
            show nI (brk W + 1) = nI ((if x_ = 33 ∨ x_ = 40 then 1 else 0) + brk W)
            rw [if_pos hx, Nat.add_comm]
      by_cases c33_ : nx T L_ a_ = 33
      · rw [if_pos (show nxI (nx T L_ a_) = (33 : Int32) from (N_ 33 (by decide)).mpr c33_)]
        exact push_ 33 (Or.inl rfl) c33_
      · rw [if_neg (show ¬ nxI (nx T L_ a_) = (33 : Int32) from fun z_ => c33_ ((N_ 33 (by decide)).mp z_))]
        by_cases c40_ : nx T L_ a_ = 40
        · rw [if_pos (show nxI (nx T L_ a_) = (40 : Int32) from (N_ 40 (by decide)).mpr c40_)]
          exact push_ 40 (Or.inr rfl) c40_
        · rw [if_neg (show ¬ nxI (nx T L_ a_) = (40 : Int32) from fun z_ => c40_ ((N_ 40 (by decide)).mp z_))]
          rw [if_neg (by rintro (hh | hh); exact c33_ hh; exact c40_ hh)] at he
          cases ht : pTest T L_ a_ with
          | mk b1 ot =>
            rw [ht] at he
            obtain ⟨t1_, t2_⟩ := M_test hf B0 H_ ht
            cases ot with
            | none =>
              have he : some (false, b1, o) = some (ok_, b_, o') := he
              have he := Option.some.inj he
              obtain ⟨r1_, r2⟩ := Prod.mk.inj he
              obtain ⟨r2, r3⟩ := Prod.mk.inj r2
              obtain ⟨h', x1_, x2_⟩ := t1_ rfl
              rw [bnd_of x1_, if_pos rfl]
              exact ⟨h', by rw [← r1_]; rfl, by rw [← r2]; exact x2_, fun hh => by rw [← r1_] at hh; cases hh⟩
            | some tt =>
              have he : mrun T L_ n_ false b1 (strp W) (o ++ tt ++ nots W) = some (ok_, b_, o') := he
              obtain ⟨h', x1_, x2_⟩ := t2_ tt rfl
              rw [bnd_of x1_, if_neg ne10]
              exact ih_ false b1 (strp W) (o ++ tt ++ nots W) h' x2_ ok_ b_ o' he
    | false =>
      rw [f_X12_takesE_22, bnr_of (M_next B_ p2_ haL), if_pos (b01_is0 rfl)]
      rw [mrun] at he
      have wl : W.length < 2000 := by omega
      have push_ : ∀ x_, x_ = 38 ∨ x_ = 124 → nx T L_ a_ = x_ → ∃ h', f_X12_takesE_122 (f_X12_takesE_22 n_) h_ (nI c_) (nxI (nx T L_ a_)) = some (h', b01 ok_) ∧ fM h0 f_ c_ b_ h' ∧ (ok_ = true → qM h0 f_ c_ L_ b_ [] o' h' ∧ aI h' 63 c_ = nI (100 * f_ + o'.length)) := by
        intro x_ hx hxa
        have hl := nx_le (T := T) (L := L_) (a := a_) (by omega)
        rw [if_pos (by omega), hxa] at he
        obtain ⟨h1, s1_, s2_⟩ := M_settle (b_ := x_) hf hL hx W o h_ 2000 wl H_
        have s1_ : f_X12_settle h_ (nI x_) = some (h1, ()) := s1_
        obtain ⟨u1_, u2_, u3, u4_, u5, u6, u7, u8, u9⟩ := id s2_
        have wl2 := stl_len x_ W o
        unfold f_X12_takesE_122
        rw [(N_ x_ (by omega)).mpr hxa, bnd_of s1_, u4_, chk_of (vp_in_nI (n := (stl x_ W o).1.length) (N := 101) (by omega) (by decide)), nm_eq, nI_clamp (by omega), hI_tI, u4_, nI_1, nm_eq, hI_sI, if_neg (by rintro ⟨-, hh⟩; exact absurd hh (by decide)), hI_tI, u2_, nI_1, nm_eq]
        refine ih_ true (a_ + 1) (x_ :: (stl x_ W o).1) (stl x_ W o).2 _ (qM_push s2_ (by omega) hl ?_ ?_ ?_ ?_ ?_ ?_) ok_ b_ o' he
        · exact (agQ_sI (by omega)).tr (agQ_sI (by omega))
        · rfl
        · rw [hI_sI, if_pos ⟨rfl, rfl⟩]
        · rw [hI_sI, if_neg (by rintro ⟨-, hh⟩; exact absurd hh (by decide)), hI_sI, if_neg (by rintro ⟨-, hh⟩; exact absurd hh (by decide)), hI_tI]
        · rw [hI_sI, if_neg (by rintro ⟨-, hh⟩; exact absurd hh (by decide)), hI_sI, if_pos ⟨rfl, rfl⟩]
        · rw [hI_sI, if_neg (by rintro ⟨-, hh⟩; exact absurd hh (by decide)), hI_sI, if_neg (by rintro ⟨-, hh⟩; exact absurd hh (by decide)), hI_tI, u5]
          show nI (brk (stl x_ W o).1) = nI ((if x_ = 33 ∨ x_ = 40 then 1 else 0) + brk (stl x_ W o).1)
          rw [if_neg (by omega), Nat.zero_add]
      by_cases c38 : nx T L_ a_ = 38
      · rw [if_pos (show nxI (nx T L_ a_) = (38 : Int32) from (N_ 38 (by decide)).mpr c38)]
        exact push_ 38 (Or.inl rfl) c38
      · rw [if_neg (show ¬ nxI (nx T L_ a_) = (38 : Int32) from fun z_ => c38 ((N_ 38 (by decide)).mp z_))]
        by_cases c124 : nx T L_ a_ = 124
        · rw [if_pos (show nxI (nx T L_ a_) = (124 : Int32) from (N_ 124 (by decide)).mpr c124)]
          exact push_ 124 (Or.inr rfl) c124
        · rw [if_neg (show ¬ nxI (nx T L_ a_) = (124 : Int32) from fun z_ => c124 ((N_ 124 (by decide)).mp z_))]
          rw [if_neg (by rintro (hh | hh); exact c38 hh; exact c124 hh)] at he
          obtain ⟨h1, s1_, s2_⟩ := M_settle (b_ := 124) hf hL (Or.inr rfl) W o h_ 2000 wl H_
          have s1_ : f_X12_settle h_ (124 : Int32) = some (h1, ()) := s1_
          have okk := s2_.2.2.2.2.2.1.2
          have wl2 := stl_len 124 W o
          have hdd := stl_hd W o
          rw [bnd_of s1_, chk_of (vp_in_nI (n := c_) (N := 60) hc_ (by decide)), nm_eq, nI_clamp (by omega), hI_tI]
          generalize hst : stl 124 W o = st_ at s2_ he okk wl2 hdd
          obtain ⟨V0_, o2⟩ := st_
          clear hst
          have s2_ : qM h0 f_ c_ L_ a_ V0_ o2 h1 := s2_
          have s3_ : qM h0 f_ c_ L_ a_ V0_ o2 (tI h1 63 c_ (nI (100 * f_ + o2.length))) := by
            obtain ⟨u1_, u2_, u3, u4_, u5, ⟨u6, u6'⟩, u7, u8, u9⟩ := s2_
            refine ⟨u1_.tr (agQ_tI (Or.inl ⟨rfl, rfl⟩)), u2_, u3, u4_, u5, ⟨plM_ag ?_ u6, u6'⟩, fun i_ d_ hi_ => ?_, u8, u9⟩
            · funext i_; rw [aI_tI, if_neg (by rintro ⟨hh, -⟩; exact absurd hh (by decide))]
            · rw [aI_tI, if_neg (by rintro ⟨hh, -⟩; exact absurd hh (by decide))]; exact u7 i_ d_ hi_
          rw [show hI h1 52 21 = nI (100 * f_ + o2.length) from s2_.2.2.1, show hI h1 52 22 = nI V0_.length from s2_.2.2.2.1]
          generalize hg : tI h1 63 c_ (nI (100 * f_ + o2.length)) = g_ at s3_
          have g63 : aI g_ 63 c_ = nI (100 * f_ + o2.length) := by rw [← hg, aI_tI, if_pos ⟨rfl, rfl⟩]
          cases V0_ with
          | nil =>
            have he : some (true, a_, o2) = some (ok_, b_, o') := he
            have he := Option.some.inj he
            obtain ⟨r1_, r2⟩ := Prod.mk.inj he
            obtain ⟨r2, r3⟩ := Prod.mk.inj r2
            rw [if_pos (show nI ([] : List Nat).length = 0 from rfl)]
            exact ⟨g_, by rw [← r1_]; rfl, by rw [← r2]; exact qM_fM s3_, fun _ => by rw [← r2, ← r3]; exact ⟨s3_, g63⟩⟩
          | cons x_ V =>
            have he : (if nx T L_ a_ = 41 then mrun T L_ n_ false (a_ + 1) (strp V) (o2 ++ nots V) else some (false, a_, o2)) = some (ok_, b_, o') := he
            simp only [List.length_cons] at wl2 ⊢
            rw [if_neg (show ¬ nI (V.length + 1) = 0 from nI_ne0 (by omega) (by omega))]
            by_cases c41 : nx T L_ a_ = 41
            · have hl := nx_le (T := T) (L := L_) (a := a_) (by omega)
              rw [if_pos c41] at he
              obtain ⟨hx1, hx2⟩ := hdd x_ V rfl
              have hx3 := (okW_hd okk).1
              have bv1 : brk (x_ :: V) = brk V + 1 := by show (if x_ = 33 ∨ x_ = 40 then 1 else 0) + brk V = _; rw [if_pos (by omega), Nat.add_comm]
              have bl := brk_le V
              obtain ⟨u1_, u2_, u3, u4_, u5, ⟨u6, u6'⟩, u7, u8, u9⟩ := s3_
              simp only [List.length_cons] at u4_ u9
              rw [if_pos (show nxI (nx T L_ a_) = (41 : Int32) from (N_ 41 (by decide)).mpr c41), nI_pred, nm_eq, hI_sI, if_neg (by rintro ⟨-, hh⟩; exact absurd hh (by decide)), u5, bv1, nI_pred, nm_eq, hI_sI, if_neg (by rintro ⟨-, hh⟩; exact absurd hh (by decide)), hI_sI, if_neg (by rintro ⟨-, hh⟩; exact absurd hh (by decide)), u2_, nI_1, nm_eq]
              have s4_ : qM h0 f_ c_ L_ (a_ + 1) V o2 (sI (sI (sI g_ 52 22 (nI V.length)) 52 23 (nI (brk V))) 52 11 (nI (a_ + 1))) := by
                refine ⟨((u1_.tr (agQ_sI (by omega))).tr (agQ_sI (by omega))).tr (agQ_sI (by omega)), ?_, ?_, ?_, ?_, ⟨plM_tail u6, (okW_hd u6').2⟩, u7, hl, by omega⟩
                · rw [hI_sI, if_pos ⟨rfl, rfl⟩]
                · rw [hI_sI, if_neg (by rintro ⟨-, hh⟩; exact absurd hh (by decide)), hI_sI, if_neg (by rintro ⟨-, hh⟩; exact absurd hh (by decide)), hI_sI, if_neg (by rintro ⟨-, hh⟩; exact absurd hh (by decide))]; exact u3
                · rw [hI_sI, if_neg (by rintro ⟨-, hh⟩; exact absurd hh (by decide)), hI_sI, if_neg (by rintro ⟨-, hh⟩; exact absurd hh (by decide)), hI_sI, if_pos ⟨rfl, rfl⟩]
                · rw [hI_sI, if_neg (by rintro ⟨-, hh⟩; exact absurd hh (by decide)), hI_sI, if_pos ⟨rfl, rfl⟩]
              obtain ⟨h3, w1_, w2_⟩ := M_whole hf hL V o2 _ 2000 (by omega) s4_
              have w1_ : f_X12_whole _ = some (h3, ()) := w1_
              rw [bnd_of w1_]
              exact ih_ false (a_ + 1) (strp V) (o2 ++ nots V) h3 w2_ ok_ b_ o' he
            · rw [if_neg c41] at he
              rw [if_neg (show ¬ nxI (nx T L_ a_) = (41 : Int32) from fun z_ => c41 ((N_ 41 (by decide)).mp z_))]
              have he := Option.some.inj he
              obtain ⟨r1_, r2⟩ := Prod.mk.inj he
              obtain ⟨r2, r3⟩ := Prod.mk.inj r2
              exact ⟨g_, by rw [← r1_]; rfl, by rw [← r2]; exact qM_fM s3_, fun hh => by rw [← r1_] at hh; cases hh⟩
