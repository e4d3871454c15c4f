-- ===== call: passed. The class's next order =====
def z37 (L : List Nat) : hp := (fun _ _ => 0, fun _ _ => none, fun i k => if i = 37 then nI (L.getD k 0) else 0, fun _ _ => 0, fun _ _ => none, fun _ => 0)
def ag37 (h g : hp) : Prop := ∀ j, j < 5 → aI h 37 j = aI g 37 j
def rl37 {α : Type} (a b : Option (hp × α)) : Prop := (a = none ∧ b = none) ∨ ∃ h g x, a = some (h, x) ∧ b = some (g, x) ∧ ag37 h g
theorem rl_some {α : Type} {h g : hp} {x : α} (H : ag37 h g) : rl37 (some (h, x)) (some (g, x)) := Or.inr ⟨h, g, x, rfl, rfl, H⟩
theorem rl_none {α : Type} : rl37 (none : Option (hp × α)) none := Or.inl ⟨rfl, rfl⟩
theorem rl_ite {α : Type} {c : Prop} [Decidable c] {a b a' b' : Option (hp × α)} (h1 : c → rl37 a b) (h2 : ¬ c → rl37 a' b') : rl37 (if c then a else a') (if c then b else b') := by
  by_cases hc : c
  · rw [if_pos hc, if_pos hc]; exact h1 hc
  · rw [if_neg hc, if_neg hc]; exact h2 hc
theorem rl_chk {α : Type} {x : Int32} {n : Nat} {a b : Option (hp × α)} (H : vp_in x n → rl37 a b) : rl37 (chk x n a) (chk x n b) := by
  unfold chk
  by_cases hc : x < 0 ∨ n ≤ x.toNatClampNeg
  · rw [if_pos hc, if_pos hc]; exact rl_none
  · rw [if_neg hc, if_neg hc]; exact H hc
theorem rl_bnd {α β : Type} {o o' : Option (hp × β)} {k k' : hp → β → Option (hp × α)} (h1 : rl37 o o') (h2 : ∀ h g x, ag37 h g → rl37 (k h x) (k' g x)) : rl37 (bnd o k) (bnd o' k') := by
  rcases h1 with ⟨e1, e2⟩ | ⟨h, g, x, e1, e2, e3⟩
  · rw [e1, e2]; exact rl_none
  · rw [bnd_of e1, bnd_of e2]; exact h2 h g x e3
theorem vp_lt {x : Int32} {n : Nat} (H : vp_in x n) : x.toNatClampNeg < n := by
  unfold vp_in at H; omega
theorem ag37_tI {h g : hp} {k : Nat} {v : Int32} (H : ag37 h g) : ag37 (tI h 37 k v) (tI g 37 k v) := by
  intro j hj
  rw [aI_tI, aI_tI, H j hj]
theorem rl_swap {h g : hp} {a b : Int32} (H : ag37 h g) : rl37 (f_X11_swapInOrder h a b) (f_X11_swapInOrder g a b) := by
  unfold f_X11_swapInOrder
  refine rl_chk fun ha => ?_
  rw [nm_eq, nm_eq, H _ (vp_lt ha)]
  refine rl_chk fun hb => rl_chk fun _ => ?_
  rw [nm_eq, nm_eq, H _ (vp_lt hb)]
  exact rl_chk fun _ => rl_some (ag37_tI (ag37_tI H))
theorem rl_83 : ∀ n h g a b, ag37 h g → rl37 (f_X11_nextOrder_83 n h a b) (f_X11_nextOrder_83 n g a b) := by
  intro n
  induction n with
  | zero => intro h g a b H; exact rl_none
  | succ n ih =>
    intro h g a b H
    rw [f_X11_nextOrder_83, f_X11_nextOrder_83]
    refine rl_ite (fun _ => rl_bnd (rl_swap H) fun h g x H => ?_) (fun _ => rl_some H)
    rw [nm_eq, nm_eq, nm_eq, nm_eq]
    exact ih _ _ _ _ H
theorem rl_67 {h g : hp} {a b c : Int32} (H : ag37 h g) : rl37 (f_X11_nextOrder_67 h a b c) (f_X11_nextOrder_67 g a b c) := by
  unfold f_X11_nextOrder_67
  refine rl_bnd (rl_swap H) fun h g x H => ?_
  rw [nm_eq, nm_eq, nm_eq, nm_eq]
  exact rl_83 _ _ _ _ _ H
theorem rl_41 : ∀ n h g a b c, ag37 h g → rl37 (f_X11_nextOrder_41 n h a b c) (f_X11_nextOrder_41 n g a b c) := by
  intro n
  induction n with
  | zero => intro h g a b c H; exact rl_none
  | succ n ih =>
    intro h g a b c H
    rw [f_X11_nextOrder_41, f_X11_nextOrder_41]
    refine rl_ite (fun _ => rl_chk fun hb => rl_chk fun ha => ?_) (fun _ => rl_67 H)
    rw [H _ (vp_lt hb), H _ (vp_lt ha)]
    refine rl_ite (fun _ => ?_) (fun _ => rl_67 H)
    rw [nm_eq, nm_eq]
    exact ih _ _ _ _ _ H
theorem rl_31 {h g : hp} {a b : Int32} (H : ag37 h g) : rl37 (f_X11_nextOrder_31 h a b) (f_X11_nextOrder_31 g a b) := by
  unfold f_X11_nextOrder_31
  refine rl_ite (fun _ => rl_some H) (fun _ => ?_)
  rw [nm_eq, nm_eq]
  exact rl_41 _ _ _ _ _ _ H
theorem rl_4 : ∀ n h g a b, ag37 h g → rl37 (f_X11_nextOrder_4 n h a b) (f_X11_nextOrder_4 n g a b) := by
  intro n
  induction n with
  | zero => intro h g a b H; exact rl_none
  | succ n ih =>
    intro h g a b H
    rw [f_X11_nextOrder_4, f_X11_nextOrder_4]
    refine rl_ite (fun _ => rl_31 H) (fun _ => rl_chk fun ha => rl_chk fun hb => ?_)
    rw [H _ (vp_lt hb), H _ (vp_lt ha)]
    refine rl_ite (fun _ => ?_) (fun _ => rl_31 H)
    rw [nm_eq, nm_eq]
    exact ih _ _ _ _ H
theorem rl_next {h g : hp} {a : Int32} (H : ag37 h g) : rl37 (f_X11_nextOrder h a) (f_X11_nextOrder g a) := by
  unfold f_X11_nextOrder
  rw [nm_eq, nm_eq]
  exact rl_4 _ _ _ _ _ H
def nx37 (n : Nat) (L : List Nat) : Option (List Nat × Bool) := match f_X11_nextOrder (z37 L) (nI n) with
  | none => none
  | some (h, r) => some ([0, 1, 2, 3, 4].map fun j => (aI h 37 j).toNatClampNeg, decide (r ≠ 0))
def ords : Nat → List Nat → Nat → List (List Nat)
  | _, _, 0 => []
  | n, L, k + 1 => L :: match nx37 n L with
    | some (L', true) => ords n L' k
    | _ => []
theorem ords_len : (ords 0 [0, 1, 2, 3, 4] 120).length = 1 ∧ (ords 1 [0, 1, 2, 3, 4] 120).length = 1 ∧ (ords 2 [0, 1, 2, 3, 4] 120).length = 2 ∧ (ords 3 [0, 1, 2, 3, 4] 120).length = 6 ∧ (ords 4 [0, 1, 2, 3, 4] 120).length = 24 ∧ (ords 5 [0, 1, 2, 3, 4] 120).length = 120 := by decide +kernel
