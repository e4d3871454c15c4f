-- ===== call: passed. The least over all orders =====
theorem keepN {Q_ : hp → Prop} (hQ : ∀ h_ k_ v_, Q_ h_ → Q_ (tI h_ 37 k_ v_)) {h_ : hp} {a_ : Int32} (H_ : Q_ h_) : kpQ Q_ (f_X11_nextOrder h_ a_) := by
  have hsw : ∀ h_ a_ b_, Q_ h_ → kpQ Q_ (f_X11_swapInOrder h_ a_ b_) := by
    intro h_ a_ b_ H_
    unfold f_X11_swapInOrder
    exact kp_chk (kp_nm (kp_chk (kp_chk (kp_nm (kp_chk (kp_nm (kp_some (hQ _ _ _ (hQ _ _ _ H_)))))))))
  have h83 : ∀ n_ h_ a_ b_, Q_ h_ → kpQ Q_ (f_X11_nextOrder_83 n_ h_ a_ b_) := by
    intro n_
    induction n_ with
    | zero => intro h_ a_ b_ H_; exact kp_none
    | succ n_ ih_ =>
      intro h_ a_ b_ H_
      rw [f_X11_nextOrder_83]
      exact kp_ite (kp_bnd (hsw _ _ _ H_) fun h2_ x_ H2_ => kp_nm (kp_nm (ih_ _ _ _ H2_))) (kp_some H_)
  have h67 : ∀ h_ a_ b_ c_, Q_ h_ → kpQ Q_ (f_X11_nextOrder_67 h_ a_ b_ c_) := by
    intro h_ a_ b_ c_ H_
    unfold f_X11_nextOrder_67
    exact kp_bnd (hsw _ _ _ H_) fun h2_ x_ H2_ => kp_nm (kp_nm (h83 _ _ _ _ H2_))
  have h41 : ∀ n_ h_ a_ b_ c_, Q_ h_ → kpQ Q_ (f_X11_nextOrder_41 n_ h_ a_ b_ c_) := by
    intro n_
    induction n_ with
    | zero => intro h_ a_ b_ c_ H_; exact kp_none
    | succ n_ ih_ =>
      intro h_ a_ b_ c_ H_
      rw [f_X11_nextOrder_41]
      exact kp_ite (kp_chk (kp_chk (kp_ite (kp_nm (ih_ _ _ _ _ H_)) (h67 _ _ _ _ H_)))) (h67 _ _ _ _ H_)
  have h31 : ∀ h_ a_ b_, Q_ h_ → kpQ Q_ (f_X11_nextOrder_31 h_ a_ b_) := by
    intro h_ a_ b_ H_
    unfold f_X11_nextOrder_31
    exact kp_ite (kp_some H_) (kp_nm (h41 _ _ _ _ _ H_))
  have h4 : ∀ n_ h_ a_ b_, Q_ h_ → kpQ Q_ (f_X11_nextOrder_4 n_ h_ a_ b_) := by
    intro n_
    induction n_ with
    | zero => intro h_ a_ b_ H_; exact kp_none
    | succ n_ ih_ =>
      intro h_ a_ b_ H_
      rw [f_X11_nextOrder_4]
      exact kp_ite (h31 _ _ _ H_) (kp_chk (kp_chk (kp_ite (kp_nm (ih_ _ _ _ H_)) (h31 _ _ _ H_))))
  unfold f_X11_nextOrder
  exact kp_nm (h4 _ _ _ _ H_)
theorem keepLay {Q_ : hp → Prop} (hQ : ∀ h_ k_ v_, Q_ h_ → Q_ (tI h_ 69 k_ v_)) {h_ : hp} {a_ : Int32} (H_ : Q_ h_) : kpQ Q_ (f_X12_layTurn h_ a_) := by
  have h12 : ∀ n_ h_ a_ b_ c_, Q_ h_ → kpQ Q_ (f_X12_layTurn_12 n_ h_ a_ b_ c_) := by
    intro n_
    induction n_ with
    | zero => intro h_ a_ b_ c_ H_; exact kp_none
    | succ n_ ih_ =>
      intro h_ a_ b_ c_ H_
      rw [f_X12_layTurn_12]
      unfold f_X12_layTurn_60
      have H2_ := hQ h_ (c_).toNatClampNeg (a_ - a_ / (5 : Int32) * (5 : Int32)) H_
      repeat' first
        | with_reducible exact kp_none
        | with_reducible exact kp_some H_
        | with_reducible exact kp_some H2_
        | with_reducible exact ih_ _ _ _ _ H2_
        | with_reducible apply kp_ite
        | with_reducible apply kp_chk
        | with_reducible apply kp_nz
        | with_reducible (refine kp_bnr fun _ => ?_)
        | rw [nm_eq]
  unfold f_X12_layTurn
  exact kp_nm (h12 _ _ _ _ _ H_)
def okOr (n : Nat) : List Nat → Nat → Bool
  | _, 0 => true
  | L, k + 1 => match f_X11_nextOrder (z37 L) (nI n) with
    | none => false
    | some (h, r) => (List.range 5).all (fun j => decide (aI h 37 j = nI (aI h 37 j).toNatClampNeg)) && (decide (r = 0) || okOr n ([0, 1, 2, 3, 4].map fun j => (aI h 37 j).toNatClampNeg) k)
def inO (n : Nat) (L : List Nat) : Bool := decide (5 ≤ L.length) && (List.range n).all fun j => decide (L.getD j 0 < n)
theorem okO_all : ∀ n, n ≤ 5 → okOr n [0, 1, 2, 3, 4] 120 = true := by decide +kernel
theorem inO_all : ∀ n, n ≤ 5 → (ords n [0, 1, 2, 3, 4] 120).all (inO n) = true := by decide +kernel
theorem inO_at {n : Nat} {L : List Nat} (H : inO n L = true) : 5 ≤ L.length ∧ ∀ j, j < n → L.getD j 0 < n := by
  unfold inO at H
  rw [Bool.and_eq_true] at H
  refine ⟨of_decide_eq_true H.1, fun j hj => ?_⟩
  exact of_decide_eq_true (List.all_eq_true.mp H.2 j (List.mem_range.mpr hj))
/-- the least of all: the first that is smaller takes -/
def bstL (f : List Nat → Nat) : List (List Nat) → Nat × List Nat → Nat × List Nat
  | [], a => a
  | L :: Ls, a => bstL f Ls (if f L < a.1 then (f L, L) else a)
def dst (σ : scn) (s : Nat) (L : List Nat) : Nat := pop 10 (s ^^^ hand σ L s)
theorem X_next {hx0 : hp} {S : sst} (hX0 : RX hx0 S) {L : List Nat} {k : Nat} {hx : hp} (sx : scrX hx0 hx) (ag : ag37 hx (z37 L)) (ok : okOr (sp S.1) L (k + 1) = true) : ∃ h2 r, f_X11_nextOrder hx (hI hx 1 2) = some (h2, r) ∧ scrX hx0 h2 ∧ aI h2 38 = aI hx 38 ∧ ((r = 0 ∧ ords (sp S.1) L (k + 1) = [L]) ∨ (¬ r = 0 ∧ ∃ L', ag37 h2 (z37 L') ∧ okOr (sp S.1) L' k = true ∧ ords (sp S.1) L (k + 1) = L :: ords (sp S.1) L' k)) := by
  have e1 : hI hx 1 2 = nI (sp S.1) := (RX_scr sx hX0).1.1.2.1.1
  rw [e1]
  rw [okOr] at ok
  rcases rl_next (a := nI (sp S.1)) ag with ⟨k1, k2⟩ | ⟨h2, g, r, k1, k2, k3⟩
  · rw [k2] at ok; exact absurd ok Bool.false_ne_true
  · rw [k2] at ok
    have ok2 : ((List.range 5).all (fun j => decide (aI g 37 j = nI (aI g 37 j).toNatClampNeg)) && (decide (r = 0) || okOr (sp S.1) ([0, 1, 2, 3, 4].map fun j => (aI g 37 j).toNatClampNeg) k)) = true := ok
    rw [Bool.and_eq_true, Bool.or_eq_true] at ok2
    have s2 : scrX hx0 h2 := keepN (Q_ := fun h => scrX hx0 h) (fun h k v H => H.tr (scrX_tI (Or.inr (Or.inl rfl)))) sx _ _ k1
    have k38 : aI h2 38 = aI hx 38 := keepN (Q_ := fun h => aI h 38 = aI hx 38) (fun h k v H => by rw [← H]; funext j; rw [aI_tI, if_neg (by omega)]) rfl _ _ k1
    refine ⟨h2, r, k1, s2, k38, ?_⟩
    by_cases hr : r = 0
    · refine Or.inl ⟨hr, ?_⟩
      have hnx : nx37 (sp S.1) L = some ([0, 1, 2, 3, 4].map fun j => (aI g 37 j).toNatClampNeg, false) := by
        unfold nx37; rw [k2, hr]; rfl
      rw [ords, hnx]
    · refine Or.inr ⟨hr, [0, 1, 2, 3, 4].map fun j => (aI g 37 j).toNatClampNeg, ?_, ?_, ?_⟩
      · intro j hj
        rw [k3 j hj, of_decide_eq_true (List.all_eq_true.mp ok2.1 j (List.mem_range.mpr hj))]
        show nI _ = nI _
        rcases (show j = 0 ∨ j = 1 ∨ j = 2 ∨ j = 3 ∨ j = 4 by omega) with rfl | rfl | rfl | rfl | rfl <;> rfl
      · rcases ok2.2 with h | h
        · exact absurd (of_decide_eq_true h) hr
        · exact h
      · have hnx : nx37 (sp S.1) L = some ([0, 1, 2, 3, 4].map fun j => (aI g 37 j).toNatClampNeg, true) := by
          unfold nx37; rw [k2]
          show some (_, decide (r ≠ 0)) = _
          rw [decide_eq_true hr]
        rw [ords, hnx]
theorem X_ldone {h : hp} {a d c : Int32} {n : Nat} : f_X11_leastPassed_28 (n + 1) h a d 0 c = some (h, d) := by
  rw [f_X11_leastPassed_28]
  by_cases hc : c < (120 : Int32)
  · rw [if_pos hc, if_pos rfl]; rfl
  · rw [if_neg hc]; rfl
theorem X_28 {hx0 hm0 : hp} {S : sst} (hX0 : RX hx0 S) (hM0 : RM hm0 S) (hok : SOK S) {s : Nat} (hs : s < 1024) : ∀ k L i n hx d B (r : Int32), scrX hx0 hx → ag37 hx (z37 L) → okOr (sp S.1) L k = true → (∀ M, M ∈ ords (sp S.1) L k → inO (sp S.1) M = true) → i + k = 120 → k < n → d ≤ 11 → (d = 11 ∨ ∀ j, j < 5 → aI hx 38 j = nI (B.getD j 0)) → ¬ r = 0 → ∃ hx' e C, f_X11_leastPassed_28 n hx (nI s) (nI d) r (nI i) = some (hx', nI e) ∧ bstL (fun M => dst S.1 s (M.take (sp S.1))) (ords (sp S.1) L k) (d, B) = (e, C) ∧ scrX hx0 hx' ∧ (e = 11 ∨ ∀ j, j < 5 → aI hx' 38 j = nI (C.getD j 0)) := by
  have hp5 := hok.1.1.2.1.1
  intro k
  induction k with
  | zero =>
    intro L i n hx d B r sx ag ok hin h1 h2 hd hB hr
    obtain ⟨n, rfl⟩ : ∃ j, n = j + 1 := ⟨n - 1, by omega⟩
    have hi : i = 120 := by omega
    subst hi
    rw [f_X11_leastPassed_28, if_neg (show ¬ nI 120 < (120 : Int32) by decide)]
    exact ⟨hx, d, B, rfl, rfl, sx, hB⟩
  | succ k ih =>
    intro L i n hx d B r sx ag ok hin h1 h2 hd hB hr
    obtain ⟨n, rfl⟩ : ∃ j, n = j + 1 := ⟨n - 1, by omega⟩
    have hL := hin L (by rw [ords]; exact List.mem_cons_self)
    obtain ⟨hl5, hlt⟩ := inO_at hL
    have hlen : (L.take (sp S.1)).length = sp S.1 := by rw [List.length_take]; omega
    obtain ⟨h1', z1, z2, z3, z4, z5⟩ := X_handed hX0 hM0 hok (L.take (sp S.1)) 0 2000 hx s sx hs (by omega) (fun j p hj => by
      have hj' : j < sp S.1 := by
        have := (List.getElem?_eq_some_iff.mp hj).1
        omega
      have e2 : L.getD j 0 = p := by
        rw [List.getElem?_take_of_lt hj'] at hj
        rw [List.getD_eq_getElem?_getD, hj]; rfl
      rw [Nat.zero_add, ag j (by omega)]
      refine ⟨?_, by rw [← e2]; exact hlt j hj'⟩
      show nI (L.getD j 0) = nI p
      rw [e2]) (by omega)
    have zh : f_X11_handedOn hx (nI s) = some (h1', nI (hand S.1 (L.take (sp S.1)) s)) := z1
    have hq : dst S.1 s (L.take (sp S.1)) ≤ 10 := pop_le _ _
    have ag1 : ag37 h1' (z37 L) := fun j hj => by rw [z4]; exact ag j hj
    have e120 : nI i < (120 : Int32) := nI_lt (b := 120) (by omega) (by decide)
    rw [f_X11_leastPassed_28, if_pos e120, if_neg hr, bnd_of zh, bnr_of (X_apart hs z3)]
    have fin : ∀ (h2 : hp) (e : Nat) (C : List Nat), scrX hx0 h2 → ag37 h2 (z37 L) → e ≤ 11 → (e = 11 ∨ ∀ j, j < 5 → aI h2 38 j = nI (C.getD j 0)) → (e, C) = (if dst S.1 s (L.take (sp S.1)) < d then (dst S.1 s (L.take (sp S.1)), L) else (d, B)) → ∃ hx' e' C', f_X11_leastPassed_73 (f_X11_leastPassed_28 n) h2 (nI s) (nI e) (nI i) = some (hx', nI e') ∧ bstL (fun M => dst S.1 s (M.take (sp S.1))) (ords (sp S.1) L (k + 1)) (d, B) = (e', C') ∧ scrX hx0 hx' ∧ (e' = 11 ∨ ∀ j, j < 5 → aI hx' 38 j = nI (C'.getD j 0)) := by
      intro h2 e C s2 ag2 he hC hE
      obtain ⟨h3, r3, y1, y2, y3, y4⟩ := X_next hX0 s2 ag2 ok
      unfold f_X11_leastPassed_73
      rw [bnd_of y1, nm_eq, nI_1]
      rcases y4 with ⟨y4, y5⟩ | ⟨y4, L', y5, y6, y7⟩
      · obtain ⟨n, rfl⟩ : ∃ j, n = j + 1 := ⟨n - 1, by omega⟩
        rw [y4, X_ldone, y5]
        refine ⟨h3, e, C, rfl, ?_, y2, ?_⟩
        · rw [bstL, bstL, ← hE]
        · rw [y3]; exact hC
      · obtain ⟨hx', e', C', w1, w2, w3, w4⟩ := ih L' (i + 1) n h3 e C r3 y2 y5 y6 (fun M hM => hin M (by rw [y7]; exact List.mem_cons_of_mem _ hM)) (by omega) (by omega) he (by rw [y3]; exact hC) y4
        refine ⟨hx', e', C', w1, ?_, w3, w4⟩
        rw [y7, bstL, ← hE]; exact w2
    by_cases hc : dst S.1 s (L.take (sp S.1)) < d
    · rw [if_pos (show nI (pop 10 (s ^^^ hand S.1 (L.take (sp S.1)) s)) < nI d from nI_lt hc (by omega))]
      have eC : ∀ a : Option (hp × Int32), ckC (0 : Int32) (0 : Int32) (5 : Int32) 5 5 a = a := fun a => ckC_of (p_ := 0) (q_ := 0) (n_ := 5) (by decide) (by decide) ⟨by decide, by decide, by decide⟩
      have k0 : ((0 : Int32)).toNatClampNeg = 0 := rfl
      have k5 : ((5 : Int32)).toNatClampNeg = 5 := by decide
      rw [eC, nm_eq, k0, k5]
      refine fin _ _ L (z2.tr ⟨rfl, rfl, fun a g1 g2 g3 => ?_, fun _ _ => rfl, rfl⟩) (fun j hj => ?_) (by have h6 : pop 10 (s ^^^ hand S.1 (L.take (sp S.1)) s) ≤ 10 := pop_le _ _; omega) (Or.inr fun j hj => ?_) (by rw [if_pos hc]; rfl)
      · funext b; show (if a = 38 then _ else h1'.2.2.1 a b) = _; rw [if_neg g3]; rfl
      · exact ag1 j hj
      · rw [cpI_at hj, ag1 j hj]; rfl
    · rw [if_neg (show ¬ nI (pop 10 (s ^^^ hand S.1 (L.take (sp S.1)) s)) < nI d from nI_nlt (Nat.le_of_not_lt hc) (by have : dst S.1 s (L.take (sp S.1)) ≤ 10 := hq; unfold dst at this; omega))]
      exact fin h1' d B z2 ag1 hd (by rw [z5]; exact hB) (by rw [if_neg hc])
-- the reference's side
def okL (n i : Nat) : Bool := match f_X12_layTurn (z69 n) (nI i) with
  | none => false
  | some (h, r) => decide (r = 0) || (List.range n).all fun j => decide (aI h 69 j = nI (aI h 69 j).toNatClampNeg)
theorem okL_5 : ∀ c, c < 25 → ∀ d, d < 125 → okL 5 (125 * c + d) = true := by decide +kernel
theorem okL_4 : ∀ c, c < 5 → ∀ d, d < 125 → okL 4 (125 * c + d) = true := by decide +kernel
theorem okL_3 : ∀ n, n ≤ 3 → ∀ d, d < 5 ^ n → okL n d = true := by decide +kernel
theorem okL_all {n i : Nat} (hn : n ≤ 5) (hi : i < 5 ^ n) : okL n i = true := by
  by_cases h5 : n = 5
  · subst h5
    have : i < 3125 := hi
    have := okL_5 (i / 125) (by omega) (i % 125) (Nat.mod_lt _ (by decide))
    rw [Nat.div_add_mod] at this; exact this
  by_cases h4 : n = 4
  · subst h4
    have : i < 625 := hi
    have := okL_4 (i / 125) (by omega) (i % 125) (Nat.mod_lt _ (by decide))
    rw [Nat.div_add_mod] at this; exact this
  exact okL_3 n (by omega) i hi
theorem M_lay {hm0 : hp} {S : sst} (hM0 : RM hm0 S) (hok : SOK S) {i : Nat} (hi : i < 5 ^ sp S.1) {hm : hp} (sx : scrM hm0 hm) : ∃ h2 r, f_X12_layTurn hm (nI i) = some (h2, r) ∧ scrM hm0 h2 ∧ aI h2 70 = aI hm 70 ∧ ((r = 0 ∧ ∀ b, layC (sp S.1) i (b + 1) = layC (sp S.1) (i + 1) b) ∨ (¬ r = 0 ∧ ∃ M, M.length = sp S.1 ∧ (∀ j, j < sp S.1 → aI h2 69 j = nI (M.getD j 0)) ∧ ∀ b, layC (sp S.1) i (b + 1) = M :: layC (sp S.1) (i + 1) b)) := by
  have hp5 := hok.1.1.2.1.1
  have e1 : hI hm 52 1 = nI (sp S.1) := (RM_scr sx hM0).1.2.1.1
  have ok := okL_all hp5 hi
  unfold okL at ok
  rcases rl69_lay hp5 e1 (nI i) with ⟨k1, k2⟩ | ⟨h2, g, r, k1, k2, k3⟩
  · rw [k2] at ok; exact absurd ok Bool.false_ne_true
  · rw [k2] at ok
    have ok2 : (decide (r = 0) || (List.range (sp S.1)).all fun j => decide (aI g 69 j = nI (aI g 69 j).toNatClampNeg)) = true := ok
    rw [Bool.or_eq_true] at ok2
    have s2 : scrM hm0 h2 := keepLay (Q_ := fun h => scrM hm0 h) (fun h k v H => H.tr (scrM_tI (Or.inr (Or.inr (Or.inl rfl))))) sx _ _ k1
    have k70 : aI h2 70 = aI hm 70 := keepLay (Q_ := fun h => aI h 70 = aI hm 70) (fun h k v H => by rw [← H]; funext j; rw [aI_tI, if_neg (by omega)]) rfl _ _ k1
    refine ⟨h2, r, k1, s2, k70, ?_⟩
    by_cases hr : r = 0
    · refine Or.inl ⟨hr, fun b => ?_⟩
      have hl : lay1 (sp S.1) i = some [] := by unfold lay1; rw [k2]; show (if r = 0 then _ else _) = _; rw [if_pos hr]
      rw [layC, hl]
    · have hl : lay1 (sp S.1) i = some (1 :: (List.range (sp S.1)).map fun j => (aI g 69 j).toNatClampNeg) := by unfold lay1; rw [k2]; show (if r = 0 then _ else _) = _; rw [if_neg hr]
      refine Or.inr ⟨hr, (List.range (sp S.1)).map fun j => (aI g 69 j).toNatClampNeg, by simp, fun j hj => ?_, fun b => by rw [layC, hl]⟩
      have e3 : ((List.range (sp S.1)).map fun j => (aI g 69 j).toNatClampNeg).getD j 0 = (aI g 69 j).toNatClampNeg := by
        rw [List.getD_eq_getElem?_getD, List.getElem?_map, List.getElem?_range hj]; rfl
      rw [e3, k3 hr j hj]
      rcases ok2 with h | h
      · exact absurd (of_decide_eq_true h) hr
      · exact of_decide_eq_true (List.all_eq_true.mp h j (List.mem_range.mpr hj))
theorem M_copy {hm0 : hp} {kk : hp → Int32 → Int32 → Int32 → Int32 → Int32 → Option (hp × Int32)} {A B C D E : Int32} : ∀ m k n hm, scrM hm0 hm → k + m = 5 → m < n → ∃ hm', f_X12_passed_142 kk n hm A B C D E (nI k) = f_X12_passed_168 kk hm' A B C D E ∧ scrM hm0 hm' ∧ aI hm' 69 = aI hm 69 ∧ ∀ j, j < 5 → aI hm' 70 j = if k ≤ j then aI hm 69 j else aI hm 70 j := by
  intro m
  induction m with
  | zero =>
    intro k n hm sx h1 h2
    obtain ⟨n, rfl⟩ : ∃ j, n = j + 1 := ⟨n - 1, by omega⟩
    have hk : k = 5 := by omega
    subst hk
    rw [f_X12_passed_142, if_neg (show ¬ nI 5 < (5 : Int32) by decide)]
    exact ⟨hm, rfl, sx, rfl, fun j hj => by rw [if_neg (by omega)]⟩
  | succ m ih =>
    intro k n hm sx h1 h2
    obtain ⟨n, rfl⟩ : ∃ j, n = j + 1 := ⟨n - 1, by omega⟩
    rw [f_X12_passed_142, if_pos (show nI k < (5 : Int32) from nI_lt (b := 5) (by omega) (by decide)), chk_of (vp_in_nI (n := k) (N := 5) (by omega) (by decide)), chk_of (vp_in_nI (n := k) (N := 5) (by omega) (by decide)), nm_eq, nm_eq, nI_clamp (n := k) (by omega), nI_1]
    obtain ⟨hm', y1, y2, y3, y4⟩ := ih (k + 1) n (tI hm 70 k (aI hm 69 k)) (sx.tr (scrM_tI (Or.inr (Or.inr (Or.inr rfl))))) (by omega) (by omega)
    refine ⟨hm', y1, y2, y3.trans ?_, fun j hj => ?_⟩
    · funext j; rw [aI_tI, if_neg (by omega)]
    · rw [y4 j hj, aI_tI, aI_tI, if_neg (show ¬ (69 = 70 ∧ j = k) by omega)]
      by_cases e : j = k
      · subst e; rw [if_neg (by omega), if_pos ⟨rfl, rfl⟩, if_pos (Nat.le_refl _)]
      · rw [if_neg (show ¬ (70 = 70 ∧ j = k) by omega)]
        by_cases e2 : k ≤ j
        · rw [if_pos (by omega), if_pos e2]
        · rw [if_neg (by omega), if_neg e2]
theorem M_51 {hm0 : hp} {S : sst} (hM0 : RM hm0 S) (hok : SOK S) {w : Nat} (hw : w < sn S.1) {P1 : Int32} : ∀ b a n hm d B, scrM hm0 hm → a + b = 5 ^ sp S.1 → b < n → d ≤ 99 → (d = 99 ∨ ∀ j, j < sp S.1 → aI hm 70 j = nI (B.getD j 0)) → ∃ hm' n' e C, f_X12_passed_51 n hm (nI w) P1 (nI (5 ^ sp S.1)) (nI d) (nI a) = f_X12_passed_51 (n' + 1) hm' (nI w) P1 (nI (5 ^ sp S.1)) (nI e) (nI (5 ^ sp S.1)) ∧ bstL (dst S.1 (sW S.1 w)) (layC (sp S.1) a b) (d, B) = (e, C) ∧ scrM hm0 hm' ∧ (e = 99 ∨ ∀ j, j < sp S.1 → aI hm' 70 j = nI (C.getD j 0)) := by
  have hp5 := hok.1.1.2.1.1
  have hn8 := hok.1.1.1.1
  have hs := hok.1.1.1.2 w hw
  have h55 : 5 ^ sp S.1 ≤ 3125 := Nat.pow_le_pow_right (n := 5) (by decide) hp5
  intro b
  induction b with
  | zero =>
    intro a n hm d B sx h1 h2 hd hB
    obtain ⟨n, rfl⟩ : ∃ j, n = j + 1 := ⟨n - 1, by omega⟩
    rw [Nat.add_zero] at h1
    subst h1
    exact ⟨hm, n, d, B, rfl, rfl, sx, hB⟩
  | succ b ih =>
    intro a n hm d B sx h1 h2 hd hB
    obtain ⟨n, rfl⟩ : ∃ j, n = j + 1 := ⟨n - 1, by omega⟩
    obtain ⟨h2', r, y1, y2, y3, y4⟩ := M_lay hM0 hok (i := a) (by omega) sx
    have fin : ∀ (h3 : hp) (e : Nat) (C : List Nat), scrM hm0 h3 → e ≤ 99 → (e = 99 ∨ ∀ j, j < sp S.1 → aI h3 70 j = nI (C.getD j 0)) → bstL (dst S.1 (sW S.1 w)) (layC (sp S.1) a (b + 1)) (d, B) = bstL (dst S.1 (sW S.1 w)) (layC (sp S.1) (a + 1) b) (e, C) → ∃ hm' n' e' C', f_X12_passed_168 (f_X12_passed_51 n) h3 (nI w) P1 (nI (5 ^ sp S.1)) (nI e) (nI a) = f_X12_passed_51 (n' + 1) hm' (nI w) P1 (nI (5 ^ sp S.1)) (nI e') (nI (5 ^ sp S.1)) ∧ bstL (dst S.1 (sW S.1 w)) (layC (sp S.1) a (b + 1)) (d, B) = (e', C') ∧ scrM hm0 hm' ∧ (e' = 99 ∨ ∀ j, j < sp S.1 → aI hm' 70 j = nI (C'.getD j 0)) := by
      intro h3 e C s3 he hC hE
      unfold f_X12_passed_168
      rw [nm_eq, nI_1, hE]
      exact ih (a + 1) n h3 e C s3 (by omega) (by omega) he hC
    rw [f_X12_passed_51, if_pos (nI_lt (by omega) (by omega)), bnd_of y1]
    rcases y4 with ⟨y4, y5⟩ | ⟨y4, M, y5, y6, y7⟩
    · rw [if_pos y4]
      exact fin h2' d B y2 hd (by rw [y3]; exact hB) (by rw [y5])
    · have hlt : ∀ j p, M[j]? = some p → j < sp S.1 ∧ M.getD j 0 = p := fun j p hj => by
        have h6 := (List.getElem?_eq_some_iff.mp hj).1
        exact ⟨by omega, by rw [List.getD_eq_getElem?_getD, hj]; rfl⟩
      have hin : ∀ j, j < sp S.1 → M.getD j 0 < sp S.1 := by
        have hmem : M ∈ layC (sp S.1) 0 (5 ^ sp S.1) := by
          rw [show 5 ^ sp S.1 = a + (b + 1) from h1.symm, layC_add, Nat.zero_add, y7]
          exact List.mem_append_right _ List.mem_cons_self
        rw [lay_ords hp5] at hmem
        obtain ⟨L, hL1, hL2⟩ := List.mem_map.mp hmem
        have hL3 := inO_at (List.all_eq_true.mp (inO_all _ hp5) L hL1)
        intro j hj
        rw [← hL2, List.getD_eq_getElem?_getD, List.getElem?_take_of_lt hj, ← List.getD_eq_getElem?_getD]
        exact hL3.2 j hj
      have e4 : aI h2' 53 (nI w).toNatClampNeg = nI (sW S.1 w) := by
        rw [nI_clamp (n := w) (by omega)]; exact (RM_scr y2 hM0).1.1.2 w hw
      rw [if_neg y4, chk_of (vp_in_nI (n := w) (N := 8) (by omega) (by decide)), nm_eq, e4]
      obtain ⟨h3, n3, z1, z2, z3, z4, z5⟩ := M_handed hM0 hok (kk := f_X12_passed_51 n) (A := nI w) (B := P1) (C := nI (5 ^ sp S.1)) (D := nI d) (E := nI a) M 0 2000 h2' (sW S.1 w) y2 hs (by omega) (fun j p hj => by
        obtain ⟨g1, g2⟩ := hlt j p hj
        rw [Nat.zero_add, y6 j g1, g2]
        exact ⟨rfl, by rw [← g2]; exact hin j g1⟩) (by omega)
      have e5 : hI h3 52 1 = nI (sp S.1) := (RM_scr z2 hM0).1.2.1.1
      have e6 : aI h3 53 (nI w).toNatClampNeg = nI (sW S.1 w) := by
        rw [nI_clamp (n := w) (by omega)]; exact (RM_scr z2 hM0).1.1.2 w hw
      rw [show (0 : Int32) = nI 0 from rfl, z1, f_X12_passed_80, e5, if_neg (nI_nlt (Nat.le_refl _) (by omega)), chk_of (vp_in_nI (n := w) (N := 8) (by omega) (by decide)), e6, bnr_of (M_bits_x z3 hs)]
      have ed : pop 10 (hand S.1 M (sW S.1 w) ^^^ sW S.1 w) = dst S.1 (sW S.1 w) M := by unfold dst; rw [Nat.xor_comm]
      have hq : dst S.1 (sW S.1 w) M ≤ 10 := pop_le _ _
      rw [ed]
      by_cases hc : dst S.1 (sW S.1 w) M < d
      · rw [if_pos (nI_lt hc (by omega))]
        obtain ⟨h4, v1, v2, v3, v4⟩ := M_copy (kk := f_X12_passed_51 n) (A := nI w) (B := P1) (C := nI (5 ^ sp S.1)) (D := nI (dst S.1 (sW S.1 w) M)) (E := nI a) 5 0 2000 h3 z2 rfl (by decide)
        rw [show (0 : Int32) = nI 0 from rfl, v1]
        refine fin h4 _ M v2 (by omega) (Or.inr fun j hj => ?_) (by rw [y7, bstL, if_pos hc])
        rw [v4 j (by omega), if_pos (Nat.zero_le _), z4, y6 j hj]
      · rw [if_neg (nI_nlt (by omega) (by omega))]
        exact fin h3 d B z2 hd (by rw [z5, y3]; exact hB) (by rw [y7, bstL, if_neg hc])
theorem bstL_le {f : List Nat → Nat} : ∀ Ls (a : Nat × List Nat), (bstL f Ls a).1 ≤ a.1 := by
  intro Ls
  induction Ls with
  | nil => intro a; exact Nat.le_refl _
  | cons L Ls ih =>
    intro a
    rw [bstL]
    refine Nat.le_trans (ih _) ?_
    by_cases hc : f L < a.1
    · rw [if_pos hc]; exact Nat.le_of_lt hc
    · rw [if_neg hc]; exact Nat.le_refl _
theorem bstL_map {f : List Nat → Nat} {n : Nat} : ∀ Ls d B, bstL f (Ls.map fun L => L.take n) (d, B.take n) = ((bstL (fun M => f (M.take n)) Ls (d, B)).1, (bstL (fun M => f (M.take n)) Ls (d, B)).2.take n) := by
  intro Ls
  induction Ls with
  | nil => intro d B; rfl
  | cons L Ls ih =>
    intro d B
    show bstL f (Ls.map fun L => L.take n) (if f (L.take n) < d then (f (L.take n), L.take n) else (d, B.take n)) = ((bstL (fun M => f (M.take n)) Ls (if f (L.take n) < d then (f (L.take n), L) else (d, B))).1, (bstL (fun M => f (M.take n)) Ls (if f (L.take n) < d then (f (L.take n), L) else (d, B))).2.take n)
    by_cases hc : f (L.take n) < d
    · rw [if_pos hc, if_pos hc]; exact ih _ _
    · rw [if_neg hc, if_neg hc]; exact ih _ _
theorem X_l2 {hx0 : hp} {p : Int32} : ∀ m k n hx, scrX hx0 hx → k + m = 5 → m < n → (∀ j, j < k → aI hx 37 j = nI j) → ∃ hx', f_X11_leastPassed_2 n hx p (nI k) = f_X11_leastPassed_28 2000 hx' p (nI 11) 1 (nI 0) ∧ scrX hx0 hx' ∧ ∀ j, j < 5 → aI hx' 37 j = nI j := by
  intro m
  induction m with
  | zero =>
    intro k n hx sx h1 h2 H
    obtain ⟨n, rfl⟩ : ∃ j, n = j + 1 := ⟨n - 1, by omega⟩
    have hk : k = 5 := by omega
    subst hk
    rw [f_X11_leastPassed_2, if_neg (show ¬ nI 5 < (5 : Int32) by decide)]
    exact ⟨hx, rfl, sx, H⟩
  | succ m ih =>
    intro k n hx sx h1 h2 H
    obtain ⟨n, rfl⟩ : ∃ j, n = j + 1 := ⟨n - 1, by omega⟩
    rw [f_X11_leastPassed_2, if_pos (show nI k < (5 : Int32) from nI_lt (b := 5) (by omega) (by decide)), chk_of (vp_in_nI (n := k) (N := 5) (by omega) (by decide)), nm_eq, nm_eq, nI_clamp (n := k) (by omega), nI_1]
    refine ih (k + 1) n _ (sx.tr (scrX_tI (Or.inr (Or.inl rfl)))) (by omega) (by omega) (fun j hj => ?_)
    rw [aI_tI]
    by_cases e : j = k
    · subst e; rw [if_pos ⟨rfl, rfl⟩]
    · rw [if_neg (by rintro ⟨-, hh⟩; exact e hh)]; exact H j (by omega)
theorem M_25 {hm : hp} {c : Nat} (e1 : hI hm 52 1 = nI c) (hc : c ≤ 5) {A B : Int32} : ∀ m k n, k + m = c → m < n → f_X12_passed_25 n hm A B (nI (5 ^ k)) (nI k) = f_X12_passed_51 4000 hm A B (nI (5 ^ c)) (nI 99) (nI 0) := by
  intro m
  induction m with
  | zero =>
    intro k n h1 h2
    obtain ⟨n, rfl⟩ : ∃ j, n = j + 1 := ⟨n - 1, by omega⟩
    have hk : k = c := by omega
    subst hk
    rw [f_X12_passed_25, e1, if_neg (nI_nlt (Nat.le_refl _) (by omega))]; rfl
  | succ m ih =>
    intro k n h1 h2
    obtain ⟨n, rfl⟩ : ∃ j, n = j + 1 := ⟨n - 1, by omega⟩
    rw [f_X12_passed_25, e1, if_pos (nI_lt (by omega) (by omega)), nm_eq, nm_eq, nI_1, show nI (5 ^ k) * (5 : Int32) = nI (5 ^ (k + 1)) from pk_mul _ 5]
    exact ih (k + 1) n (by omega) (by omega)
theorem XM_least {hx hm : hp} {S : sst} (hX : RX hx S) (hM : RM hm S) (hok : SOK S) {w : Nat} (hw : w < sn S.1) : ∃ (hx' : hp) (e : Nat) (C : List Nat), f_X11_leastPassed hx (nI (sW S.1 w)) = some (hx', nI e) ∧ scrX hx hx' ∧ (∀ j, j < 5 → aI hx' 38 j = nI (C.getD j 0)) ∧ ∀ P1, ∃ hm' n', f_X12_passed_25 2000 hm (nI w) P1 1 0 = f_X12_passed_51 (n' + 1) hm' (nI w) P1 (nI (5 ^ sp S.1)) (nI e) (nI (5 ^ sp S.1)) ∧ scrM hm hm' ∧ ∀ j, j < sp S.1 → aI hm' 70 j = nI (C.getD j 0) := by
  have hp5 := hok.1.1.2.1.1
  have hs := hok.1.1.1.2 w hw
  have e1 : hI hm 52 1 = nI (sp S.1) := hM.1.2.1.1
  have h55 : 5 ^ sp S.1 ≤ 3125 := Nat.pow_le_pow_right (n := 5) (by decide) hp5
  obtain ⟨h1, a1, a2, a3⟩ := X_l2 (p := nI (sW S.1 w)) 5 0 2000 hx scrX.rf rfl (by decide) (fun j hj => absurd hj (Nat.not_lt_zero _))
  have ag : ag37 h1 (z37 [0, 1, 2, 3, 4]) := fun j hj => by
    rw [a3 j hj]
    rcases (show j = 0 ∨ j = 1 ∨ j = 2 ∨ j = 3 ∨ j = 4 by omega) with rfl | rfl | rfl | rfl | rfl <;> rfl
  obtain ⟨h2, e, C, b1, b2, b3, b4⟩ := X_28 hX hM hok hs 120 [0, 1, 2, 3, 4] 0 2000 h1 11 [] 1 a2 ag (okO_all _ hp5) (fun M hM2 => List.all_eq_true.mp (inO_all _ hp5) M hM2) rfl (by decide) (Nat.le_refl _) (Or.inl rfl) (by decide)
  obtain ⟨T, hT⟩ : ∃ T, ords (sp S.1) [0, 1, 2, 3, 4] 120 = [0, 1, 2, 3, 4] :: T := ⟨_, rfl⟩
  have hq : dst S.1 (sW S.1 w) (([0, 1, 2, 3, 4] : List Nat).take (sp S.1)) ≤ 10 := pop_le _ _
  rw [hT, bstL] at b2
  have b5 := b2
  rw [if_pos (show dst S.1 (sW S.1 w) (([0, 1, 2, 3, 4] : List Nat).take (sp S.1)) < 11 by omega)] at b5
  have he : e ≤ 10 := by
    have := bstL_le (f := fun M => dst S.1 (sW S.1 w) (M.take (sp S.1))) T (dst S.1 (sW S.1 w) (([0, 1, 2, 3, 4] : List Nat).take (sp S.1)), [0, 1, 2, 3, 4])
    rw [b5] at this
    exact Nat.le_trans this hq
  have b6 : ∀ j, j < 5 → aI h2 38 j = nI (C.getD j 0) := by
    rcases b4 with h | h
    · omega
    · exact h
  refine ⟨h2, e, C, ?_, b3, b6, fun P1 => ?_⟩
  · unfold f_X11_leastPassed
    exact a1.trans b1
  · obtain ⟨h3, n3, e3, C3, c1, c2, c3, c4⟩ := M_51 hM hok hw (P1 := P1) (5 ^ sp S.1) 0 4000 hm 99 [] scrM.rf (Nat.zero_add _) (by omega) (Nat.le_refl _) (Or.inl rfl)
    rw [lay_ords hp5, hT, List.map_cons, bstL, if_pos (show dst S.1 (sW S.1 w) (([0, 1, 2, 3, 4] : List Nat).take (sp S.1)) < 99 by omega), bstL_map, b5] at c2
    obtain ⟨rfl, rfl⟩ := Prod.mk.inj c2
    refine ⟨h3, n3, (M_25 (c := sp S.1) e1 hp5 (sp S.1) 0 2000 (Nat.zero_add _) (by omega)).trans c1, c3, fun j hj => ?_⟩
    rcases c4 with h | h
    · omega
    · rw [h j hj, List.getD_eq_getElem?_getD, List.getElem?_take_of_lt hj, ← List.getD_eq_getElem?_getD]
theorem s_passed {hx hm : hp} (H : Sim hx hm) (a b : Int32) : ∃ hx' hm' r, f_X11_passed hx a b = some (hx', r) ∧ f_X12_passed hm a b = some (hm', r) ∧ Sim hx' hm' := by
  have H0 := H
  obtain ⟨S, hX, hM, hok, ht⟩ := H
  have hp5 := hok.1.1.2.1.1
  have hn8 := hok.1.1.1.1
  have e0 : hI hm 52 0 = nI (sn S.1) := hM.1.1.1
  have e2 : hI hx 1 2 = nI (sp S.1) := hX.1.1.2.1.1
  have h55 : 5 ^ sp S.1 ≤ 3125 := Nat.pow_le_pow_right (n := 5) (by decide) hp5
  unfold f_X11_passed f_X12_passed f_X11_passed_18 f_X12_passed_18 f_X11_passed_64
  rw [bnr_of (X_isWord hX.1.1 hok.1.1), bnr_of (M_isWord e0 (by omega))]
  rcases arg_split a (sn S.1) (by omega) with ⟨w, hw, rfl⟩ | hx0
  · rw [if_neg (arg_no hw (by omega)), if_neg ne10, if_neg ne10, bnr_of M_in]
    by_cases hb : b < -1 ∨ 4 < b
    · rw [if_pos hb, if_pos rfl]
      rcases hb with hb | hb
      · rw [if_pos hb]; exact ⟨hx, hm, _, rfl, rfl, H0⟩
      · have t5 : (5 : Int32).toInt = 5 := rfl
        have t4 : (4 : Int32).toInt = 4 := rfl
        have t1 : (-1 : Int32).toInt = -1 := rfl
        have hb2 := Int32.lt_iff_toInt_lt.mp hb
        rw [if_neg (fun h => by have := Int32.lt_iff_toInt_lt.mp h; omega), if_neg (fun h => by have := Int32.lt_iff_toInt_lt.mp h; omega)]
        exact ⟨hx, hm, _, rfl, rfl, H0⟩
    · rw [if_neg hb, if_neg ne10, if_neg (fun h => hb (Or.inl h))]
      have hb5 : b < (5 : Int32) := by
        have t5 : (5 : Int32).toInt = 5 := rfl
        have t4 : (4 : Int32).toInt = 4 := rfl
        refine Int32.lt_iff_toInt_lt.mpr ?_
        have : ¬ (4 : Int32).toInt < b.toInt := fun h => hb (Or.inr (Int32.lt_iff_toInt_lt.mpr h))
        omega
      rw [if_pos hb5]
      obtain ⟨hx', e, C, y1, y2, y3, y4⟩ := XM_least hX hM hok hw
      obtain ⟨hm', n', z1, z2, z3⟩ := y4 b
      have hget : f_X2_get hx 2 (nI w) = some (nI (sW S.1 w)) := (X2_get (rwX_words hX.1.1 hok.1.1) hw).trans (congrArg some (hX.1.1.1.2 w hw))
      have e3 : hI hm' 52 1 = nI (sp S.1) := (RM_scr z2 hM).1.2.1.1
      have e4 : hI hx 1 2 = hI hm' 52 1 := e2.trans e3.symm
      rw [z1, f_X12_passed_51, if_neg (nI_nlt (Nat.le_refl _) (by omega)), e4]
      unfold f_X12_passed_200
      by_cases hbn : b < 0
      · have hlt : b < hI hm' 52 1 := by
          rw [e3]
          have t0 := Int32.lt_iff_toInt_lt.mp hbn
          have t1 : (0 : Int32).toInt = 0 := rfl
          have t2 := nI_toInt (n := sp S.1) (by omega)
          exact Int32.lt_iff_toInt_lt.mpr (by omega)
        rw [if_pos hlt, bnr_of hget, bnd_of y1, if_pos hbn, if_pos hbn]
        exact ⟨hx', hm', _, rfl, rfl, Sim_scr y2 z2 H0⟩
      · rw [if_neg hbn]
        obtain ⟨k, hk, rfl⟩ : ∃ k, k < 5 ∧ b = nI k := by
          rcases arg_split b 5 (by decide) with h | h
          · exact h
          · exact absurd hb5 (lt_of_no h hbn)
        by_cases hkn : k < sp S.1
        · rw [if_pos (show nI k < hI hm' 52 1 by rw [e3]; exact nI_lt hkn (by omega)), if_pos (show nI k < hI hm' 52 1 by rw [e3]; exact nI_lt hkn (by omega)), bnr_of hget, bnd_of y1, if_neg hbn, chk_of (vp_in_nI (n := k) (N := 5) hk (by decide)), chk_of (vp_in_nI (n := k) (N := 5) hk (by decide)), nI_clamp (n := k) (by omega), y3 k hk, z3 k hkn]
          exact ⟨hx', hm', _, rfl, rfl, Sim_scr y2 z2 H0⟩
        · rw [if_neg (show ¬ nI k < hI hm' 52 1 by rw [e3]; exact nI_nlt (by omega) (by omega)), if_neg (show ¬ nI k < hI hm' 52 1 by rw [e3]; exact nI_nlt (by omega) (by omega))]
          exact ⟨hx, hm', _, rfl, rfl, Sim_scr scrX.rf z2 H0⟩
  · rw [if_pos hx0, if_pos rfl, if_pos rfl]
    exact ⟨hx, hm, _, rfl, rfl, H0⟩
