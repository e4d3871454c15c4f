-- ===== reading a_ text: the reference's way_ =====
def agQ (Q_ : Nat → Nat → Prop) (h_ h' : hp) : Prop := h'.2.1 = h_.2.1 ∧ h'.2.2.2 = h_.2.2.2 ∧ (∀ a_ k_, ¬ (a_ = 52 ∧ (k_ = 11 ∨ k_ = 12 ∨ k_ = 21 ∨ k_ = 22 ∨ k_ = 23)) → hI h' a_ k_ = hI h_ a_ k_) ∧ ∀ a_ k_, ¬ Q_ a_ k_ → aI h' a_ k_ = aI h_ a_ k_
theorem agQ.rf {Q_ : Nat → Nat → Prop} {h_ : hp} : agQ Q_ h_ h_ := ⟨rfl, rfl, fun _ _ _ => rfl, fun _ _ _ => rfl⟩
theorem agQ.tr {Q_ : Nat → Nat → Prop} {h_ h1 h2 : hp} (x_ : agQ Q_ h_ h1) (y_ : agQ Q_ h1 h2) : agQ Q_ h_ h2 := ⟨y_.1.trans x_.1, y_.2.1.trans x_.2.1, fun a_ k_ hk => (y_.2.2.1 a_ k_ hk).trans (x_.2.2.1 a_ k_ hk), fun a_ k_ hk => (y_.2.2.2 a_ k_ hk).trans (x_.2.2.2 a_ k_ hk)⟩
theorem agQ_up {Q_ R_ : Nat → Nat → Prop} {h_ h' : hp} (hQ : ∀ a_ k_, Q_ a_ k_ → R_ a_ k_) (x_ : agQ Q_ h_ h') : agQ R_ h_ h' := ⟨x_.1, x_.2.1, x_.2.2.1, fun a_ k_ hk => x_.2.2.2 a_ k_ (fun hc_ => hk (hQ a_ k_ hc_))⟩
theorem agQ_sI {Q_ : Nat → Nat → Prop} {h_ : hp} {k_ : Nat} {v_ : Int32} (hk : k_ = 11 ∨ k_ = 12 ∨ k_ = 21 ∨ k_ = 22 ∨ k_ = 23) : agQ Q_ h_ (sI h_ 52 k_ v_) := ⟨rfl, rfl, fun a_ j_ hj => by rw [hI_sI, if_neg (by rintro ⟨rfl, rfl⟩; exact hj ⟨rfl, hk⟩)], fun _ _ _ => rfl⟩
theorem agQ_tI {Q_ : Nat → Nat → Prop} {h_ : hp} {a_ k_ : Nat} {v_ : Int32} (hq : Q_ a_ k_) : agQ Q_ h_ (tI h_ a_ k_ v_) := ⟨rfl, rfl, fun _ _ _ => rfl, fun b_ j_ hj => by rw [aI_tI, if_neg (by rintro ⟨rfl, rfl⟩; exact hj hq)]⟩
def bM (h_ : hp) (T : Nat → Nat) (L_ : Nat) : Prop := hI h_ 52 10 = nI L_ ∧ (∀ k_, k_ < L_ → aI h_ 58 k_ = nI (T k_) ∧ T k_ < 128) ∧ (∀ k_ b_, lets[k_]? = some b_ → aI h_ 66 k_ = nI b_) ∧ L_ ≤ 100
theorem bM_ag {Q_ : Nat → Nat → Prop} {h_ h' : hp} {T : Nat → Nat} {L_ : Nat} (hQ : ∀ k_, ¬ Q_ 58 k_ ∧ ¬ Q_ 66 k_) (B_ : bM h_ T L_) (x_ : agQ Q_ h_ h') : bM h' T L_ := by
  obtain ⟨b1, b2, b3, b4⟩ := B_
  refine ⟨by rw [x_.2.2.1 52 10 (by omega)]; exact b1, fun k_ hk => by rw [x_.2.2.2 58 k_ (hQ k_).1]; exact b2 k_ hk, fun k_ b_ hb_ => by rw [x_.2.2.2 66 k_ (hQ k_).2]; exact b3 k_ b_ hb_, b4⟩
def nxI (c_ : Nat) : Int32 := if c_ = 999 then -1 else nI c_
theorem nx_lt {T : Nat → Nat} {L_ a_ : Nat} (hT_ : ∀ k_, k_ < L_ → T k_ < 128) : nx T L_ a_ < 128 ∨ nx T L_ a_ = 999 := by
  by_cases hl : a_ < L_
  · left; rw [nx_at hl]; exact hT_ a_ hl
  · right; exact nx_off hl
theorem M_next {h_ : hp} {T : Nat → Nat} {L_ a_ : Nat} (B_ : bM h_ T L_) (ha_ : hI h_ 52 11 = nI a_) (haL : a_ ≤ L_) : f_X12_next h_ = some (nxI (nx T L_ a_)) := by
  obtain ⟨b1, b2, -, b4⟩ := B_
  unfold f_X12_next f_X12_next_24
  rw [ha_, b1]
  by_cases hl : a_ < L_
  · obtain ⟨t1_, t2_⟩ := b2 a_ hl
    rw [if_pos (nI_lt hl (by omega)), chk_of (vp_in_nI (n := a_) (N := 100) (by omega) (by decide)), nI_clamp (by omega), t1_, nx_at hl]
    unfold nxI
    rw [if_neg (by omega)]
  · rw [if_neg (nI_nlt (by omega) (by omega)), nx_off hl]; rfl
theorem nxI_eq {c_ ch_ : Nat} (hc_ : c_ < 128 ∨ c_ = 999) (hch : ch_ < 128) : nxI c_ = nI ch_ ↔ c_ = ch_ := by
  unfold nxI
  rcases hc_ with hc_ | hc_
  · rw [if_neg (by omega)]; exact nI_eq (by omega) (by omega)
  · rw [if_pos hc_]
    constructor
    · intro z_
      have := congrArg Int32.toInt z_
      rw [nI_toInt (by omega)] at this
      have h0 : ((-1 : Int32)).toInt = -1 := rfl
      omega
    · intro z_; omega
theorem bM_T {h_ : hp} {T : Nat → Nat} {L_ : Nat} (B_ : bM h_ T L_) : ∀ k_, k_ < L_ → T k_ < 128 := fun k_ hk => (B_.2.1 k_ hk).2
theorem M_takes {h_ : hp} {T : Nat → Nat} {L_ a_ ch_ : Nat} (B_ : bM h_ T L_) (ha_ : hI h_ 52 11 = nI a_) (haL : a_ ≤ L_) (hch : ch_ < 128) : f_X12_takes h_ (nI ch_) = if nx T L_ a_ = ch_ then some (sI h_ 52 11 (nI (a_ + 1)), 1) else some (h_, 0) := by
  have hl := nx_lt (L_ := L_) (a_ := a_) (bM_T B_)
  unfold f_X12_takes
  rw [bnr_of (M_next B_ ha_ haL), ha_, nI_1]
  by_cases hc_ : nx T L_ a_ = ch_
  · rw [if_pos ((nxI_eq hl hch).mpr hc_), if_pos hc_, nm_eq]
  · rw [if_neg (fun z_ => hc_ ((nxI_eq hl hch).mp z_)), if_neg hc_]
theorem M_isDigit {h_ : hp} {T : Nat → Nat} {L_ a_ : Nat} (B_ : bM h_ T L_) (ha_ : hI h_ 52 11 = nI a_) (haL : a_ ≤ L_) : f_X12_isDigit h_ = some (if dg (nx T L_ a_) then 1 else 0) := by
  have hl := nx_lt (L_ := L_) (a_ := a_) (bM_T B_)
  have tb_ : ∀ c_, c_ < 128 → (nI c_ < (48 : Int32) ∨ (57 : Int32) < nI c_ ↔ ¬ (dg c_ = true)) := by decide +kernel
  unfold f_X12_isDigit
  rw [bnr_of (M_next B_ ha_ haL), bnr_of M_in, ckZ_01]
  rcases hl with hl | hl
  · have e_ : nxI (nx T L_ a_) = nI (nx T L_ a_) := by unfold nxI; rw [if_neg (by omega)]
    rw [e_]
    by_cases hd_ : dg (nx T L_ a_) = true
    · rw [if_neg (fun z_ => (tb_ _ hl).mp z_ hd_), if_pos hd_]
    · rw [if_pos ((tb_ _ hl).mpr hd_), if_neg hd_]
  · rw [hl]; rfl
/-- the digits' loop_ -/
theorem M_num {h_ : hp} {T : Nat → Nat} {L_ a_ : Nat} {Q_ : Nat → Nat → Prop} (B_ : bM h_ T L_) (hQ : ∀ k_, ¬ Q_ 58 k_ ∧ ¬ Q_ 66 k_) (ha_ : hI h_ 52 11 = nI a_) (haL : a_ ≤ L_) {b_ : Nat} {on_ : Option Nat} (he : pNum T L_ a_ = (b_, on_)) : (on_ = none → f_X12_takesNumber h_ = some (h_, 0) ∧ b_ = a_) ∧ ∀ n_, on_ = some n_ → ∃ h', f_X12_takesNumber h_ = some (h', 1) ∧ agQ Q_ h_ h' ∧ aI h' = aI h_ ∧ (∀ k_, k_ ≠ 11 → k_ ≠ 12 → hI h' 52 k_ = hI h_ 52 k_) ∧ hI h' 52 11 = nI b_ ∧ hI h' 52 12 = nI n_ := by
  unfold pNum at he
  unfold f_X12_takesNumber
  rw [bnr_of (M_isDigit B_ ha_ haL)]
  by_cases c1_ : dg (nx T L_ a_) = true
  · have d1_ : 48 ≤ nx T L_ a_ ∧ nx T L_ a_ ≤ 57 := of_decide_eq_true c1_
    have l1 := nx_le (T := T) (L := L_) (a := a_) (by omega)
    rw [if_pos c1_] at he
    rw [if_pos c1_, if_neg ne10, nm_eq]
    generalize e0_ : sI h_ 52 12 0 = h0
    have x0_ : agQ Q_ h_ h0 := by rw [← e0_]; exact agQ_sI (by omega)
    have a0_ : aI h0 = aI h_ := by rw [← e0_]; rfl
    have k0_ : ∀ k_, k_ ≠ 12 → hI h0 52 k_ = hI h_ 52 k_ := fun k_ hk => by rw [← e0_, hI_sI, if_neg (by rintro ⟨-, hh⟩; exact hk hh)]
    have f0_ : hI h0 52 12 = nI 0 := by rw [← e0_]; rfl
    have B0 := bM_ag hQ B_ x0_
    have ha0 : hI h0 52 11 = nI a_ := by rw [k0_ 11 (by decide)]; exact ha_
    have n0_ := M_next B0 ha0 haL
    have nn : nxI (nx T L_ a_) = nI (nx T L_ a_) := by unfold nxI; rw [if_neg (by omega)]
    rw [f_X12_takesNumber_16, if_pos (by decide), bnr_of (M_isDigit B0 ha0 haL), if_pos c1_, if_neg ne10, bnr_of n0_, nn, f0_, nm_eq]
    have ev_ : ((10 : Int32) * nI 0 + nI (nx T L_ a_)) - (48 : Int32) = nI (nx T L_ a_ - 48) := by
      rw [show (10 : Int32) * nI 0 = nI 0 from rfl, nI_add, show (48 : Int32) = nI 48 from rfl, pk_sub (by omega)]
      exact congrArg nI (by omega)
    rw [ev_]
    generalize e1_ : sI h0 52 12 (nI (nx T L_ a_ - 48)) = h1
    have x1_ : agQ Q_ h0 h1 := by rw [← e1_]; exact agQ_sI (by omega)
    have a1_ : aI h1 = aI h0 := by rw [← e1_]; rfl
    have k1_ : ∀ k_, k_ ≠ 12 → hI h1 52 k_ = hI h0 52 k_ := fun k_ hk => by rw [← e1_, hI_sI, if_neg (by rintro ⟨-, hh⟩; exact hk hh)]
    have f1_ : hI h1 52 12 = nI (nx T L_ a_ - 48) := by rw [← e1_]; rfl
    rw [k1_ 11 (by decide), ha0, nI_1, nm_eq]
    generalize e2_ : sI h1 52 11 (nI (a_ + 1)) = h2
    have x2_ : agQ Q_ h1 h2 := by rw [← e2_]; exact agQ_sI (by omega)
    have a2 : aI h2 = aI h1 := by rw [← e2_]; rfl
    have k2_ : ∀ k_, k_ ≠ 11 → hI h2 52 k_ = hI h1 52 k_ := fun k_ hk => by rw [← e2_, hI_sI, if_neg (by rintro ⟨-, hh⟩; exact hk hh)]
    have f2_ : hI h2 52 11 = nI (a_ + 1) := by rw [← e2_]; rfl
    have g2 : hI h2 52 12 = nI (nx T L_ a_ - 48) := by rw [k2_ 12 (by decide)]; exact f1_
    have x02 : agQ Q_ h_ h2 := (x0_.tr x1_).tr x2_
    have B2 := bM_ag hQ B_ x02
    rw [nm_eq, f_X12_takesNumber_16, if_pos (by decide), bnr_of (M_isDigit B2 f2_ l1)]
    by_cases c2_ : dg (nx T L_ (a_ + 1)) = true
    · have d2_ : 48 ≤ nx T L_ (a_ + 1) ∧ nx T L_ (a_ + 1) ≤ 57 := of_decide_eq_true c2_
      have l2 := nx_le (T := T) (L := L_) (a := a_ + 1) (by omega)
      rw [if_pos c2_] at he
      have nn2 : nxI (nx T L_ (a_ + 1)) = nI (nx T L_ (a_ + 1)) := by unfold nxI; rw [if_neg (by omega)]
      have ev2 : ((10 : Int32) * nI (nx T L_ a_ - 48) + nI (nx T L_ (a_ + 1))) - (48 : Int32) = nI ((nx T L_ a_ - 48) * 10 + (nx T L_ (a_ + 1) - 48)) := by
        rw [show (10 : Int32) = nI 10 from rfl, pk_mul, nI_add, show (48 : Int32) = nI 48 from rfl, pk_sub (by omega)]
        exact congrArg nI (by omega)
      rw [if_pos c2_, if_neg ne10, bnr_of (M_next B2 f2_ l1), nn2, g2, ev2, nm_eq, hI_sI, if_neg (by rintro ⟨-, hh⟩; exact absurd hh (by decide)), f2_, nI_1, nm_eq, nm_eq, f_X12_takesNumber_16, if_neg (by decide)]
      obtain ⟨rfl, rfl⟩ := Prod.mk.inj he
      refine ⟨(fun hh => nomatch hh), fun n_ hn => ?_⟩
      have hn := (Option.some.inj hn).symm
      subst hn
      refine ⟨_, rfl, (x02.tr (agQ_sI (by omega))).tr (agQ_sI (by omega)), (a2.trans a1_).trans a0_, fun k_ k11 k12 => ?_, ?_, ?_⟩
      · rw [hI_sI, if_neg (by rintro ⟨-, hh⟩; exact k11 hh), hI_sI, if_neg (by rintro ⟨-, hh⟩; exact k12 hh), k2_ k_ k11, k1_ k_ k12, k0_ k_ k12]
      · rw [hI_sI, if_pos ⟨rfl, rfl⟩]
      · rw [hI_sI, if_neg (by rintro ⟨-, hh⟩; exact absurd hh (by decide)), hI_sI, if_pos ⟨rfl, rfl⟩]
    · rw [if_neg c2_] at he
      rw [if_neg c2_, if_pos rfl]
      obtain ⟨rfl, rfl⟩ := Prod.mk.inj he
      refine ⟨(fun hh => nomatch hh), fun n_ hn => ?_⟩
      have hn := (Option.some.inj hn).symm
      subst hn
      exact ⟨h2, rfl, x02, (a2.trans a1_).trans a0_, fun k_ k11 k12 => by rw [k2_ k_ k11, k1_ k_ k12, k0_ k_ k12], f2_, g2⟩
  · rw [if_neg c1_] at he
    rw [if_neg c1_, if_pos rfl]
    obtain ⟨rfl, rfl⟩ := Prod.mk.inj he
    exact ⟨fun _ => ⟨rfl, rfl⟩, (fun n_ hn => nomatch hn)⟩
-- the pile of_ what waits
def plM (h_ : hp) (W : List Nat) : Prop := ∀ i_, i_ < W.length → aI h_ 65 i_ = nI (W.getD (W.length - 1 - i_) 0)
theorem plM_tail {h_ : hp} {c_ : Nat} {W : List Nat} (hp : plM h_ (c_ :: W)) : plM h_ W := by
  intro i_ hi_
  have := hp i_ (by simp only [List.length_cons]; omega)
  rw [this]
  obtain ⟨m_, hm_⟩ : ∃ m_, W.length - i_ = m_ + 1 := ⟨W.length - i_ - 1, by omega⟩
  have e1_ : (c_ :: W).length - 1 - i_ = m_ + 1 := by simp only [List.length_cons]; omega
  have e2_ : W.length - 1 - i_ = m_ := by omega
  rw [e1_, e2_]; rfl
theorem plM_top {h_ : hp} {c_ : Nat} {W : List Nat} (hp : plM h_ (c_ :: W)) : aI h_ 65 W.length = nI c_ := by
  have := hp W.length (by simp)
  rw [this, show (c_ :: W).length - 1 - W.length = 0 by simp only [List.length_cons]; omega]; rfl
theorem plM_set {h_ : hp} {c_ : Nat} {W : List Nat} (hp : plM h_ W) : plM (tI h_ 65 W.length (nI c_)) (c_ :: W) := by
  intro i_ hi_
  simp only [List.length_cons] at hi_
  rw [aI_tI]
  by_cases h1 : i_ = W.length
  · subst h1
    rw [if_pos ⟨rfl, rfl⟩, show (c_ :: W).length - 1 - W.length = 0 by simp only [List.length_cons]; omega]; rfl
  · rw [if_neg (by rintro ⟨-, h_⟩; exact h1 h_), hp i_ (by omega)]
    obtain ⟨m_, hm_⟩ : ∃ m_, W.length - i_ = m_ + 1 := ⟨W.length - i_ - 1, by omega⟩
    have e1_ : (c_ :: W).length - 1 - i_ = m_ + 1 := by simp only [List.length_cons]; omega
    have e2_ : W.length - 1 - i_ = m_ := by omega
    rw [e1_, e2_]; rfl
theorem plM_ag {h_ h' : hp} {W : List Nat} (e_ : aI h' 65 = aI h_ 65) (hp : plM h_ W) : plM h' W := fun i_ hi_ => by rw [e_]; exact hp i_ hi_
def okW (W : List Nat) : Prop := ∀ c_ ∈ W, c_ = 33 ∨ c_ = 40 ∨ c_ = 38 ∨ c_ = 124
theorem okW_hd {c_ : Nat} {W : List Nat} (h_ : okW (c_ :: W)) : (c_ = 33 ∨ c_ = 40 ∨ c_ = 38 ∨ c_ = 124) ∧ okW W := ⟨h_ c_ List.mem_cons_self, fun x_ hx => h_ x_ (List.mem_cons_of_mem _ hx)⟩
def QE (f_ c_ : Nat) (a_ k_ : Nat) : Prop := (a_ = 63 ∧ k_ = c_) ∨ (a_ = 64 ∧ 100 * f_ ≤ k_) ∨ a_ = 65
theorem QE_no {f_ c_ : Nat} : ∀ k_, ¬ QE f_ c_ 58 k_ ∧ ¬ QE f_ c_ 66 k_ := fun k_ => ⟨by unfold QE; omega, by unfold QE; omega⟩
/-- the reader's state within a_ test_ -/
def qM (h0 : hp) (f_ c_ L_ a_ : Nat) (W o : List Nat) (h_ : hp) : Prop := agQ (QE f_ c_) h0 h_ ∧ hI h_ 52 11 = nI a_ ∧ hI h_ 52 21 = nI (100 * f_ + o.length) ∧ hI h_ 52 22 = nI W.length ∧ hI h_ 52 23 = nI (brk W) ∧ (plM h_ W ∧ okW W) ∧ (∀ i_ d_, o[i_]? = some d_ → aI h_ 64 (100 * f_ + i_) = stepM d_) ∧ a_ ≤ L_ ∧ o.length + W.length ≤ a_
theorem brk_le : ∀ W, brk W ≤ W.length := by
  intro W
  induction W with
  | nil => exact Nat.le_refl _
  | cons c_ W ih_ => show (if c_ = 33 ∨ c_ = 40 then 1 else 0) + brk W ≤ W.length + 1; split <;> omega
/-- a_ step_ is_ written, and something waits less_ -/
theorem qM_emit {h0 : hp} {f_ c_ L_ a_ x_ d_ : Nat} {W o : List Nat} {h_ : hp} (hf : f_ < 6) (hL : L_ ≤ 100) (H_ : qM h0 f_ c_ L_ a_ (x_ :: W) o h_) : (∃ h', f_X12_emits h_ (stepM d_) = some (h', ()) ∧ h' = sI (tI h_ 64 (100 * f_ + o.length) (stepM d_)) 52 21 (nI (100 * f_ + (o ++ [d_]).length))) ∧ ∀ h2, agQ (QE f_ c_) (sI (tI h_ 64 (100 * f_ + o.length) (stepM d_)) 52 21 (nI (100 * f_ + (o ++ [d_]).length))) h2 → aI h2 = aI (tI h_ 64 (100 * f_ + o.length) (stepM d_)) → (∀ k_, k_ = 11 ∨ k_ = 21 → hI h2 52 k_ = hI (sI (tI h_ 64 (100 * f_ + o.length) (stepM d_)) 52 21 (nI (100 * f_ + (o ++ [d_]).length))) 52 k_) → hI h2 52 22 = nI W.length → hI h2 52 23 = nI (brk W) → qM h0 f_ c_ L_ a_ W (o ++ [d_]) h2 := by
  obtain ⟨p1_, p2_, p3_, p4_, p5_, ⟨p6_, p6'⟩, p7_, p8_, p9_⟩ := H_
  simp only [List.length_cons] at p9_
  constructor
  · refine ⟨_, ?_, rfl⟩
    unfold f_X12_emits
    rw [p3_, chk_of (vp_in_nI (n := 100 * f_ + o.length) (N := 600) (by omega) (by decide)), nm_eq, nI_clamp (by omega), nm_eq, hI_tI, p3_, nI_1, List.length_append]; rfl
  · intro h2 g1 g2 g3_ g4 g5_
    have ab : agQ (QE f_ c_) h_ (sI (tI h_ 64 (100 * f_ + o.length) (stepM d_)) 52 21 (nI (100 * f_ + (o ++ [d_]).length))) := (agQ_tI (Or.inr (Or.inl ⟨rfl, by omega⟩))).tr (agQ_sI (by omega))
    refine ⟨(p1_.tr ab).tr g1, ?_, ?_, g4, g5_, ⟨?_, (okW_hd p6').2⟩, fun i_ e_ hi_ => ?_, p8_, ?_⟩
    · rw [g3_ 11 (Or.inl rfl), hI_sI, if_neg (by rintro ⟨-, hh⟩; exact absurd hh (by decide)), hI_tI]; exact p2_
    · rw [g3_ 21 (Or.inr rfl), hI_sI, if_pos ⟨rfl, rfl⟩]
    · refine plM_ag ?_ (plM_tail p6_)
      rw [g2]
      funext i_
      rw [aI_tI, if_neg (by rintro ⟨hh, -⟩; exact absurd hh (by decide))]
    · rw [g2, aI_tI]
      by_cases c1_ : i_ < o.length
      · rw [if_neg (by rintro ⟨-, hh⟩; omega)]
        rw [List.getElem?_append_left c1_] at hi_
        exact p7_ i_ e_ hi_
      · have c2_ : i_ = o.length := by
          have := (List.getElem?_eq_some_iff.mp hi_).1
          simp only [List.length_append, List.length_cons, List.length_nil] at this
          omega
        subst c2_
        rw [List.getElem?_append_right (Nat.le_refl _), Nat.sub_self] at hi_
        have : d_ = e_ := by simpa using hi_
        rw [if_pos ⟨rfl, rfl⟩, this]
    · simp only [List.length_append, List.length_cons, List.length_nil]; omega
theorem M_whole {h0 : hp} {f_ c_ L_ a_ : Nat} (hf : f_ < 6) (hL : L_ ≤ 100) : ∀ W o h_ n_, W.length < n_ → qM h0 f_ c_ L_ a_ W o h_ → ∃ h', f_X12_whole_0 n_ h_ = some (h', ()) ∧ qM h0 f_ c_ L_ a_ (strp W) (o ++ nots W) h' := by
  intro W
  induction W with
  | nil =>
    intro o h_ n_ hn H_
    obtain ⟨n_, rfl⟩ : ∃ m_, n_ = m_ + 1 := ⟨n_ - 1, by omega⟩
    have p4_ := H_.2.2.2.1
    refine ⟨h_, ?_, by show qM h0 f_ c_ L_ a_ [] (o ++ []) h_; rw [List.append_nil]; exact H_⟩
    rw [f_X12_whole_0, p4_, if_neg (by decide)]; rfl
  | cons x_ W ih_ =>
    intro o h_ n_ hn H_
    obtain ⟨n_, rfl⟩ : ∃ m_, n_ = m_ + 1 := ⟨n_ - 1, by omega⟩
    obtain ⟨p1_, p2_, p3_, p4_, p5_, ⟨p6_, p6'⟩, p7_, p8_, p9_⟩ := id H_
    simp only [List.length_cons] at p4_ p9_ hn
    have hx := (okW_hd p6').1
    have bl := brk_le W
    rw [f_X12_whole_0, p4_, if_pos (show 0 < nI (W.length + 1) from nI_lt (a := 0) (by omega) (by omega)), nI_pred, chk_of (vp_in_nI (n := W.length) (N := 101) (by omega) (by decide)), nI_clamp (by omega), plM_top p6_]
    by_cases e33_ : x_ = 33
    · subst e33_
      obtain ⟨⟨h1, e1_, e2_⟩, e3_⟩ := qM_emit (d_ := 2001) hf hL H_
      have e1_ : f_X12_emits h_ (-33 : Int32) = _ := e1_
      rw [if_pos (show nI 33 = (33 : Int32) from rfl), bnd_of e1_, nm_eq, nm_eq, e2_, hI_sI, if_neg (by rintro ⟨-, hh⟩; exact absurd hh (by decide)), hI_tI, p4_, nI_pred, hI_sI, if_neg (by rintro ⟨-, hh⟩; exact absurd hh (by decide)), hI_sI, if_neg (by rintro ⟨-, hh⟩; exact absurd hh (by decide)), hI_tI, p5_, show brk (33 :: W) = brk W + 1 by show 1 + brk W = _; omega, nI_pred, strp, if_pos rfl, nots, if_pos rfl]
      rw [show o ++ 2001 :: nots W = (o ++ [2001]) ++ nots W by simp only [List.append_assoc, List.cons_append, List.nil_append]]
      refine ih_ (o ++ [2001]) _ n_ (by omega) (e3_ _ ((agQ_sI (by omega)).tr (agQ_sI (by omega))) rfl (fun k_ hk => ?_) ?_ ?_)
      · rw [hI_sI, if_neg (by rintro ⟨-, hh⟩; omega), hI_sI, if_neg (by rintro ⟨-, hh⟩; omega)]
      · rw [hI_sI, if_neg (by rintro ⟨-, hh⟩; exact absurd hh (by decide)), hI_sI, if_pos ⟨rfl, rfl⟩]
      · rw [hI_sI, if_pos ⟨rfl, rfl⟩]
    · rw [if_neg (show ¬ nI x_ = (33 : Int32) from fun z_ => e33_ ((nI_eq (b := 33) (by omega) (by decide)).mp z_)), strp, if_neg e33_, nots, if_neg e33_, List.append_nil]
      exact ⟨h_, rfl, H_⟩
theorem M_settle {h0 : hp} {f_ c_ L_ a_ b_ : Nat} (hf : f_ < 6) (hL : L_ ≤ 100) (hb_ : b_ = 38 ∨ b_ = 124) : ∀ W o h_ n_, W.length < n_ → qM h0 f_ c_ L_ a_ W o h_ → ∃ h', f_X12_settle_0 n_ h_ (nI b_) = some (h', ()) ∧ qM h0 f_ c_ L_ a_ (stl b_ W o).1 (stl b_ W o).2 h' := by
  intro W
  induction W with
  | nil =>
    intro o h_ n_ hn H_
    obtain ⟨n_, rfl⟩ : ∃ m_, n_ = m_ + 1 := ⟨n_ - 1, by omega⟩
    have p4_ := H_.2.2.2.1
    refine ⟨h_, ?_, H_⟩
    rw [f_X12_settle_0, p4_, if_neg (by decide)]; rfl
  | cons x_ W ih_ =>
    intro o h_ n_ hn H_
    obtain ⟨n_, rfl⟩ : ∃ m_, n_ = m_ + 1 := ⟨n_ - 1, by omega⟩
    obtain ⟨p1_, p2_, p3_, p4_, p5_, ⟨p6_, p6'⟩, p7_, p8_, p9_⟩ := id H_
    simp only [List.length_cons] at p4_ p9_ hn
    have hx := (okW_hd p6').1
    have bl := brk_le W
    have pop : ∀ d_, (x_ = 38 ∨ x_ = 124) → -(nI x_) = stepM d_ → ∃ h', f_X12_settle_45 (f_X12_settle_0 n_) h_ (nI b_) = f_X12_settle_0 n_ h' (nI b_) ∧ qM h0 f_ c_ L_ a_ W (o ++ [d_]) h' := by
      intro d_ hxd hd_
      have bx : brk (x_ :: W) = brk W := by show (if x_ = 33 ∨ x_ = 40 then 1 else 0) + brk W = _; rw [if_neg (by omega)]; omega
      have H1_ : qM h0 f_ c_ L_ a_ (x_ :: W) o (sI h_ 52 22 (nI W.length)) → True := fun _ => trivial
      unfold f_X12_settle_45
      rw [p4_, nI_pred, nm_eq, hI_sI, if_pos ⟨rfl, rfl⟩, chk_of (vp_in_nI (n := W.length) (N := 101) (by omega) (by decide)), nI_clamp (by omega), aI_sI, plM_top p6_, hd_]
      unfold f_X12_emits
      rw [hI_sI, if_neg (by rintro ⟨-, hh⟩; exact absurd hh (by decide)), p3_, chk_of (vp_in_nI (n := 100 * f_ + o.length) (N := 600) (by omega) (by decide)), nm_eq, nI_clamp (by omega), nm_eq, hI_tI, hI_sI, if_neg (by rintro ⟨-, hh⟩; exact absurd hh (by decide)), p3_, nI_1]
      refine ⟨sI (tI (sI h_ 52 22 (nI W.length)) 64 (100 * f_ + o.length) (stepM d_)) 52 21 (nI (100 * f_ + o.length + 1)), rfl, ?_⟩
      refine ⟨((p1_.tr (agQ_sI (by omega))).tr (agQ_tI (Or.inr (Or.inl ⟨rfl, by omega⟩)))).tr (agQ_sI (by omega)), ?_, ?_, ?_, ?_, ⟨?_, (okW_hd p6').2⟩, fun i_ e_ hi_ => ?_, p8_, ?_⟩
      · rw [hI_sI, if_neg (by rintro ⟨-, hh⟩; exact absurd hh (by decide)), hI_tI, hI_sI, if_neg (by rintro ⟨-, hh⟩; exact absurd hh (by decide))]; exact p2_
      · rw [hI_sI, if_pos ⟨rfl, rfl⟩, List.length_append]; rfl
      · rw [hI_sI, if_neg (by rintro ⟨-, hh⟩; exact absurd hh (by decide)), hI_tI, hI_sI, if_pos ⟨rfl, rfl⟩]
      · rw [hI_sI, if_neg (by rintro ⟨-, hh⟩; exact absurd hh (by decide)), hI_tI, hI_sI, if_neg (by rintro ⟨-, hh⟩; exact absurd hh (by decide)), p5_, bx]
      · refine plM_ag ?_ (plM_tail p6_)
        funext i_
        rw [aI_sI, aI_tI, if_neg (by rintro ⟨hh, -⟩; exact absurd hh (by decide)), aI_sI]
      · rw [aI_sI, aI_tI]
        by_cases c1_ : i_ < o.length
        · rw [if_neg (by rintro ⟨-, hh⟩; omega), aI_sI]
          rw [List.getElem?_append_left c1_] at hi_
          exact p7_ i_ e_ hi_
        · have c2_ : i_ = o.length := by
            have := (List.getElem?_eq_some_iff.mp hi_).1
            simp only [List.length_append, List.length_cons, List.length_nil] at this
            omega
          subst c2_
          rw [List.getElem?_append_right (Nat.le_refl _), Nat.sub_self] at hi_
          have : d_ = e_ := by simpa using hi_
          rw [if_pos ⟨rfl, rfl⟩, this]
      · simp only [List.length_append, List.length_cons, List.length_nil]; omega
    rw [f_X12_settle_0, p4_, if_pos (show 0 < nI (W.length + 1) from nI_lt (a := 0) (by omega) (by omega)), nI_pred, chk_of (vp_in_nI (n := W.length) (N := 101) (by omega) (by decide)), nI_clamp (by omega), plM_top p6_, chk_of (vp_in_nI (n := W.length) (N := 101) (by omega) (by decide))]
    by_cases e38 : x_ = 38
    · obtain ⟨h', y1, y2⟩ := pop 2002 (Or.inl e38) (by rw [e38]; rfl)
      rw [if_pos (show nI x_ = (38 : Int32) by rw [e38]; rfl), y1, stl, if_pos e38]
      exact ih_ (o ++ [2002]) h' n_ (by omega) y2
    · rw [if_neg (show ¬ nI x_ = (38 : Int32) from fun z_ => e38 ((nI_eq (b := 38) (by omega) (by decide)).mp z_)), stl, if_neg e38]
      by_cases e124 : x_ = 124
      · rw [if_pos (show nI x_ = (124 : Int32) by rw [e124]; rfl), if_pos e124]
        by_cases b38 : b_ = 38
        · rw [if_pos (show nI b_ = (38 : Int32) by rw [b38]; rfl), if_pos b38]
          exact ⟨h_, rfl, H_⟩
        · obtain ⟨h', y1, y2⟩ := pop 2003 (Or.inr e124) (by rw [e124]; rfl)
          rw [if_neg (show ¬ nI b_ = (38 : Int32) from fun z_ => b38 ((nI_eq (b := 38) (by omega) (by decide)).mp z_)), if_neg b38, y1]
          exact ih_ (o ++ [2003]) h' n_ (by omega) y2
      · rw [if_neg (show ¬ nI x_ = (124 : Int32) from fun z_ => e124 ((nI_eq (b := 124) (by omega) (by decide)).mp z_)), if_neg e124]
        exact ⟨h_, rfl, H_⟩
