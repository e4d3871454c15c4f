-- ===== tests, rows, loops with a heap =====
theorem arg_split (x : Int32) (n : Nat) (hn : n < 2 ^ 31) : (∃ k, k < n ∧ x = nI k) ∨ (x < 0 ∨ nI n ≤ x) := by
  rcases pk_ix x hn with h | h | ⟨j, h1, h2⟩
  · exact Or.inr (Or.inl h)
  · exact Or.inr (Or.inr h)
  · exact Or.inl ⟨j, h1, h2⟩
theorem arg_no {k n : Nat} (h : k < n) (hn : n < 2 ^ 31) : ¬ (nI k < 0 ∨ nI n ≤ nI k) := by
  rintro (h1 | h1)
  · exact nI_pos (by omega) h1
  · exact nI_ge h hn h1
theorem lt_of_no {x : Int32} {n : Nat} (h : x < 0 ∨ nI n ≤ x) (h0 : ¬ x < 0) : ¬ x < nI n := fun h2 => by
  rcases h with h | h
  · exact h0 h
  · exact nlt_of h h2
/-- a test of the class's: from 0, below a limit -/
theorem in_of {x : Int32} {n : Nat} (hn : n < 2 ^ 31) : (if x < 0 then some (0 : Int32) else if x < nI n then some 1 else some 0) = some (if x < 0 ∨ nI n ≤ x then 0 else 1) := by
  by_cases h0 : x < 0
  · rw [if_pos h0, if_pos (Or.inl h0)]
  · rw [if_neg h0]
    by_cases h1 : x < nI n
    · rw [if_pos h1, if_neg (by rintro (h | h); exact h0 h; exact nlt_of h h1)]
    · rw [if_neg h1, if_pos]
      rcases arg_split x n hn with ⟨k, hk, rfl⟩ | h
      · exact absurd (nI_lt hk hn) h1
      · exact h
theorem X_isDigit {h : hp} {x : Int32} : f_X11_isDigit h x = some (if x < 0 ∨ nI 10 ≤ x then 0 else 1) := in_of (n := 10) (by decide)
theorem X_isTape {h : hp} {x : Int32} : f_X11_isTape h x = some (if x < 0 ∨ nI 6 ≤ x then 0 else 1) := in_of (n := 6) (by decide)
theorem X_isSign {h : hp} {x : Int32} : f_X11_isSign h x = some (if x < 0 ∨ nI 1024 ≤ x then 0 else 1) := in_of (n := 1024) (by decide)
theorem X_isWord {h : hp} {σ : scn} (hsc : scX h 1 σ) (hok : scOK σ) {x : Int32} : f_X11_isWord h x = some (if x < 0 ∨ nI (sn σ) ≤ x then 0 else 1) := by
  have e : hI h 2 1 = nI (sn σ) := hsc.1.1
  unfold f_X11_isWord f_X11_isWord_22 f_X11_isWord_23
  rw [e]
  exact in_of (n := sn σ) (by have := hok.1.1; omega)
theorem X_isSender {h : hp} {σ : scn} (hsc : scX h 1 σ) (hok : scOK σ) {x : Int32} : f_X11_isSender h x = some (if x < 0 ∨ nI (sp σ) ≤ x then 0 else 1) := by
  obtain ⟨-, ⟨q1, q2, -, -⟩, -⟩ := hsc
  have hp5 := hok.2.1.1
  have q1 : hI h 1 2 = nI (sp σ) := q1
  unfold f_X11_isSender f_X11_isSender_31 f_X11_isSender_32
  rw [q1]
  rcases arg_split x (sp σ) (by omega) with ⟨k, hk, rfl⟩ | hx
  · obtain ⟨o, ho, -⟩ := q2 k hk
    have ho : aR h 4 k = some o := ho
    rw [if_neg (arg_no hk (by omega)), if_neg (nI_pos (by omega)), if_pos (nI_lt hk (by omega)), chk_of (vp_in_nI (by omega) (by decide)), nI_clamp (by omega), ho]; rfl
  · rw [if_pos hx]
    by_cases h0 : x < 0
    · rw [if_pos h0]; rfl
    · rw [if_neg h0, if_neg (lt_of_no hx h0)]; rfl
theorem X_isPart {h : hp} {x : Int32} : f_X11_isPart h x = some (if x < 0 ∨ nI 2 ≤ x then 0 else 1) := by
  unfold f_X11_isPart f_X11_isPart_9 f_X11_isPart_14
  rcases arg_split x 2 (by decide) with ⟨k, hk, rfl⟩ | hx
  · rw [if_neg (arg_no hk (by decide))]
    rcases (show k = 0 ∨ k = 1 by omega) with rfl | rfl <;> rfl
  · rw [if_pos hx, if_neg (by rintro rfl; exact arg_no (k := 0) (n := 2) (by decide) (by decide) hx), if_neg (by rintro rfl; exact arg_no (k := 1) (n := 2) (by decide) (by decide) hx)]; rfl
theorem M_in0 {h : hp} {x c : Int32} {n : Nat} (hn : n < 2 ^ 30) (hc : c = nI n - 1) : f_X12_in h x 0 c = some (if x < 0 ∨ nI n ≤ x then 0 else 1) := by
  rw [M_in, hc]
  simp only [m_below hn]
theorem M_isSign {h : hp} {x : Int32} : f_X12_isSign h x = some (if x < 0 ∨ nI 1024 ≤ x then 0 else 1) := by
  unfold f_X12_isSign
  rw [bnr_of (M_in0 (n := 1024) (by decide) (by decide)), ckZ_01]
theorem M_isTape {h : hp} {x : Int32} : f_X12_isTape h x = some (if x < 0 ∨ nI 6 ≤ x then 0 else 1) := by
  unfold f_X12_isTape
  rw [bnr_of (M_in0 (n := 6) (by decide) (by decide)), ckZ_01]
-- rows of the class
def rwX (h : hp) (r lim c : Nat) : Prop := sd 1 r = true ∧ kdOf h r = 4 ∧ sd 1 (r + 1) = true ∧ kdOf h (r + 1) = 40 + 10 * lim ∧ hI h r 1 = nI c ∧ c ≤ lim ∧ lim ≤ 100
theorem X2_isFull {h : hp} {r lim c : Nat} (H : rwX h r lim c) : f_X2_isFull h r = some (if c < lim then 0 else 1) := by
  obtain ⟨h1, h2, h3, h4, h5, h6, h7⟩ := H
  have hA := fun (a : Option Int32) => ckA_of (b := 1) (h := h) (i := r + 1) (e := 0) (n := lim) (a := a) h3 h4 (by decide)
  unfold f_X2_isFull f_X2_isFull_17
  rw [ckO_of h1 h2, ckO_of h1 h2, (hA _).1, (hA none).2, h5]
  by_cases hc : c < lim
  · rw [if_pos (show nI c < Int32.ofNat lim from nI_lt hc (by omega)), if_pos hc]; rfl
  · rw [if_neg (show ¬ nI c < Int32.ofNat lim from nI_nlt (by omega) (by omega)), if_neg hc]; rfl
theorem X2_add {h : hp} {r lim c : Nat} {v : Int32} (H : rwX h r lim c) (hc : c < lim) : f_X2_add h r v = some (sI (tI h (r + 1) c v) r 1 (nI (c + 1)), nI (c + 1)) := by
  obtain ⟨h1, h2, h3, h4, h5, h6, h7⟩ := H
  have hA := fun (a : Option (hp × Int32)) => ckA_of (b := 1) (h := h) (i := r + 1) (e := 0) (n := lim) (a := a) h3 h4 (by decide)
  unfold f_X2_add f_X2_add_32
  rw [ckO_of h1 h2, ckO_of h1 h2, (hA _).1, (hA none).2, h5, if_pos (show nI c < Int32.ofNat lim from nI_lt hc (by omega)), ckO_of h1 h2, ckO_of h1 h2, (hA _).1, chk_of (vp_in_nI hc (by omega)), nm_eq, nI_clamp (by omega), ckO_of h1 (show kdOf (tI h (r + 1) c v) r = 4 from h2), ckO_of h1 (show kdOf (tI h (r + 1) c v) r = 4 from h2), nm_eq, hI_tI, h5, nI_1, ckO_of h1 (show kdOf (sI (tI h (r + 1) c v) r 1 (nI (c + 1))) r = 4 from h2), hI_sI, if_pos ⟨rfl, rfl⟩]
theorem X2_get {h : hp} {r lim c k : Nat} (H : rwX h r lim c) (hk : k < c) : f_X2_get h r (nI k) = some (aI h (r + 1) k) := by
  obtain ⟨h1, h2, h3, h4, h5, h6, h7⟩ := H
  have hA := fun (a : Option Int32) => ckA_of (b := 1) (h := h) (i := r + 1) (e := 0) (n := lim) (a := a) h3 h4 (by decide)
  unfold f_X2_get f_X2_get_22
  rw [if_neg (nI_pos (by omega)), ckO_of h1 h2, h5, if_pos (nI_lt hk (by omega)), ckO_of h1 h2, (hA _).1, (hA none).2, chk_of (vp_in_nI (by omega) (by omega)), nI_clamp (by omega)]
theorem X2_set {h : hp} {r lim c k : Nat} {v : Int32} (H : rwX h r lim c) (hk : k < c) : f_X2_set h r (nI k) v = some (tI h (r + 1) k v, ()) := by
  obtain ⟨h1, h2, h3, h4, h5, h6, h7⟩ := H
  have hA := fun (a : Option (hp × Unit)) => ckA_of (b := 1) (h := h) (i := r + 1) (e := 0) (n := lim) (a := a) h3 h4 (by decide)
  unfold f_X2_set f_X2_set_19
  rw [if_neg (nI_pos (by omega)), ckO_of h1 h2, h5, if_pos (nI_lt hk (by omega)), ckO_of h1 h2, (hA _).1, (hA none).2, chk_of (vp_in_nI (by omega) (by omega)), nm_eq, nI_clamp (by omega)]
theorem X2_clear {h : hp} {r lim c : Nat} (H : rwX h r lim c) : f_X2_clear h r = some (sI h r 1 0, ()) := by
  obtain ⟨h1, h2, -⟩ := H
  unfold f_X2_clear
  rw [ckO_of h1 h2, nm_eq]
theorem rwX_words {h : hp} {σ : scn} (hsc : scX h 1 σ) (hok : scOK σ) : rwX h 2 8 (sn σ) := ⟨rfl, rfl, rfl, rfl, hsc.1.1, hok.1.1, by decide⟩
theorem rwX_seen {h : hp} {σ : scn} (hsc : scX h 1 σ) (hok : scOK σ) : rwX h 7 5 σ.2.2.2.1.1 := ⟨rfl, rfl, rfl, rfl, hsc.2.2.2.1.1, hok.2.2.2.1.1, by decide⟩
theorem rwX_relay {h : hp} {σ : scn} (hsc : scX h 1 σ) (hok : scOK σ) : rwX h 9 8 σ.2.2.2.2.1.1 := ⟨rfl, rfl, rfl, rfl, hsc.2.2.2.2.1.1, hok.2.2.2.2.1.1, by decide⟩
theorem rwX_book {h : hp} {σ : scn} (hsc : scX h 1 σ) (hok : scOK σ) : rwX h 11 8 σ.2.2.2.2.2.1.1 := ⟨rfl, rfl, rfl, rfl, hsc.2.2.2.2.2.1.1, hok.2.2.2.2.2.1.1, by decide⟩
theorem rwX_text {h : hp} {S : sst} (H : RX h S) (hok : SOK S) : rwX h 25 100 S.2.2.2.1.1 := ⟨rfl, rfl, rfl, rfl, H.2.2.2.1.1, hok.2.2.2.1.1, by decide⟩
-- a loop that goes up, with a heap that it may change
theorem loop_h {α β : Type} {F : Nat → hp → Nat → α → Option β} {N : Nat} {g : Nat → α → α} (K : hp → Prop) (P : Nat → α → Prop) (hs : ∀ n h i a, K h → P i a → i < N → ∃ h', K h' ∧ F (n + 1) h i a = F n h' (i + 1) (g i a) ∧ P (i + 1) (g i a)) : ∀ k i n h a, K h → P i a → i + k = N → k < n → ∃ h' n', K h' ∧ P N (lp g i k a) ∧ F n h i a = F (n' + 1) h' N (lp g i k a) := by
  intro k
  induction k with
  | zero =>
    intro i n h a h1 h2 h3 h4
    obtain ⟨n, rfl⟩ : ∃ m, n = m + 1 := ⟨n - 1, by omega⟩
    have : i = N := by omega
    subst this
    exact ⟨h, n, h1, h2, rfl⟩
  | succ k ih =>
    intro i n h a h1 h2 h3 h4
    obtain ⟨n, rfl⟩ : ∃ m, n = m + 1 := ⟨n - 1, by omega⟩
    obtain ⟨h', a1, a2, a3⟩ := hs n h i a h1 h2 (by omega)
    rw [a2]
    exact ih (i + 1) n h' (g i a) a1 a3 (by omega) (by omega)
-- counting, and the first
def cntQ (Q : Nat → Bool) : Nat → Nat → Nat
  | _, 0 => 0
  | i, k + 1 => (if Q i then 1 else 0) + cntQ Q (i + 1) k
def fstQ (Q : Nat → Bool) : Nat → Nat → Nat
  | _, 0 => 0
  | i, k + 1 => if Q i then i + 1 else fstQ Q (i + 1) k
theorem cntQ_le (Q : Nat → Bool) : ∀ k i, cntQ Q i k ≤ k := by
  intro k
  induction k with
  | zero => intro i; exact Nat.le_refl _
  | succ k ih => intro i; have := ih (i + 1); show (if Q i then 1 else 0) + cntQ Q (i + 1) k ≤ k + 1; split <;> omega
theorem fstQ_le (Q : Nat → Bool) : ∀ k i, fstQ Q i k ≤ i + k := by
  intro k
  induction k with
  | zero => intro i; exact Nat.zero_le _
  | succ k ih => intro i; have := ih (i + 1); show (if Q i then i + 1 else fstQ Q (i + 1) k) ≤ i + (k + 1); split <;> omega
/-- upward: the first as long as there is none yet -/
def upG (Q : Nat → Bool) (i : Nat) (a : Nat × Nat) : Nat × Nat := if Q i then (if a.2 = 0 then i + 1 else a.1, a.2 + 1) else a
theorem upG_lp (Q : Nat → Bool) : ∀ k i f m, (lp (upG Q) i k (f, m)) = (if m = 0 then (if cntQ Q i k = 0 then f else fstQ Q i k) else f, m + cntQ Q i k) := by
  intro k
  induction k with
  | zero => intro i f m; show (f, m) = _; simp [cntQ]
  | succ k ih =>
    intro i f m
    show lp (upG Q) (i + 1) k (upG Q i (f, m)) = _
    by_cases hq : Q i
    · have e : upG Q i (f, m) = (if m = 0 then i + 1 else f, m + 1) := by unfold upG; rw [if_pos hq]
      rw [e, ih]
      have e1 : cntQ Q i (k + 1) = 1 + cntQ Q (i + 1) k := by show (if Q i then 1 else 0) + _ = _; rw [if_pos hq]
      have e2 : fstQ Q i (k + 1) = i + 1 := by show (if Q i then i + 1 else _) = _; rw [if_pos hq]
      rw [e1, e2, if_neg (show ¬ m + 1 = 0 by omega), if_neg (show ¬ 1 + cntQ Q (i + 1) k = 0 by omega)]
      exact Prod.ext rfl (by show m + 1 + cntQ Q (i + 1) k = m + (1 + cntQ Q (i + 1) k); omega)
    · have e : upG Q i (f, m) = (f, m) := by unfold upG; rw [if_neg hq]
      have e1 : cntQ Q i (k + 1) = cntQ Q (i + 1) k := by show (if Q i then 1 else 0) + _ = _; rw [if_neg hq]; omega
      have e2 : fstQ Q i (k + 1) = fstQ Q (i + 1) k := by show (if Q i then i + 1 else _) = _; rw [if_neg hq]
      rw [e, ih, e1, e2]
theorem fstQ_0 (Q : Nat → Bool) : ∀ k i, cntQ Q i k = 0 → fstQ Q i k = 0 := by
  intro k
  induction k with
  | zero => intro i _; rfl
  | succ k ih =>
    intro i h
    by_cases hq : Q i
    · exfalso
      have e1 : cntQ Q i (k + 1) = 1 + cntQ Q (i + 1) k := by show (if Q i then 1 else 0) + _ = _; rw [if_pos hq]
      omega
    · have e1 : cntQ Q i (k + 1) = cntQ Q (i + 1) k := by show (if Q i then 1 else 0) + _ = _; rw [if_neg hq]; omega
      show (if Q i then i + 1 else fstQ Q (i + 1) k) = 0
      rw [if_neg hq]; exact ih (i + 1) (by omega)
theorem upG_all (Q : Nat → Bool) (k : Nat) : lp (upG Q) 0 k (0, 0) = (fstQ Q 0 k, cntQ Q 0 k) := by
  rw [upG_lp, if_pos rfl]
  by_cases h : cntQ Q 0 k = 0
  · rw [if_pos h, h, fstQ_0 Q k 0 h]
  · rw [if_neg h, Nat.zero_add]
-- bits of a set
def bitG (Q : Nat → Bool) (i a : Nat) : Nat := if Q i then a ||| 2 ^ i else a
theorem or_0 {x : Int32} : x ||| (0 : Int32) = x := by simp
