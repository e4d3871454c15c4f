-- ===== THE PURE SIDE: the functions' combinators, readings behind writings, loops =====
theorem bnr_of {α β : Type} {o : Option α} {k : α → Option β} {x : α} (h : o = some x) : bnr o k = k x := by rw [h]; rfl
theorem bnd_of {α β : Type} {o : Option (hp × α)} {k : hp → α → Option β} {h1 : hp} {x : α} (h : o = some (h1, x)) : bnd o k = k h1 x := by rw [h]; rfl
theorem nm_eq {α β : Type} {v : α} {k : α → Option β} : nm v k = k v := rfl
theorem chk_of {α : Type} {x : Int32} {n : Nat} {a : Option α} (h : vp_in x n) : chk x n a = a := if_neg h
theorem ckO_of {α : Type} {b : Nat} {h : hp} {i c : Nat} {a : Option α} (hs : sd b i = true) (hk : kdOf h i = c) : ckO b h i c a = a := if_pos ⟨hs, hk⟩
theorem ckA_of {α : Type} {b : Nat} {h : hp} {i e n : Nat} {a : Option α} (hs : sd b i = true) (hk : kdOf h i = 40 + 10 * n + e) (he : e < 10) : ckA b h i e a = a ∧ alen h i = n := by
  have h1 : alen h i = n := by unfold alen; rw [hk]; omega
  exact ⟨if_pos ⟨hs, by rw [h1]; exact hk⟩, h1⟩
theorem nz_of {α : Type} {x : Int32} {a : Option α} (h : ¬ x = 0) : nz x a = a := if_neg h
theorem onO_of {α : Type} {o : Option Nat} {a : α} {b : Nat → α} {i : Nat} (h : o = some i) : onO o a b = b i := by rw [h]; rfl
theorem ckV_of {α : Type} {h : hp} {i : Nat} {a : Option α} (hs : sd 1 i = true) (hk : kdOf h i ≠ 0) : ckV h (some i) a = a := if_pos ⟨hs, hk⟩
theorem ckV_none {α : Type} {h : hp} {a : Option α} : ckV h none a = a := rfl
theorem ckS_of {α : Type} {h : hp} {o : Nat} {a : Option α} (hs : sd 1 o = true) (hk : kdOf h o ∈ sndK) : ckS h o a = a := if_pos ⟨hs, hk⟩
theorem ckW_of {α : Type} {h : hp} {o : Nat} {a : Option α} (hs : sd 1 o = true) (hk : kdOf h o ≠ 0) : ckW h o a = a := if_pos ⟨hs, hk⟩
-- readings behind writings
theorem hI_sI {h : hp} {i k a b : Nat} {v : Int32} : hI (sI h i k v) a b = if a = i ∧ b = k then v else hI h a b := rfl
theorem hI_sR {h : hp} {i k a b : Nat} {v : Option Nat} : hI (sR h i k v) a b = hI h a b := rfl
theorem hI_tI {h : hp} {i k a b : Nat} {v : Int32} : hI (tI h i k v) a b = hI h a b := rfl
theorem hI_tL {h : hp} {i k a b : Nat} {v : Int64} : hI (tL h i k v) a b = hI h a b := rfl
theorem hI_tR {h : hp} {i k a b : Nat} {v : Option Nat} : hI (tR h i k v) a b = hI h a b := rfl
theorem hR_sI {h : hp} {i k a b : Nat} {v : Int32} : hR (sI h i k v) a b = hR h a b := rfl
theorem hR_sR {h : hp} {i k a b : Nat} {v : Option Nat} : hR (sR h i k v) a b = if a = i ∧ b = k then v else hR h a b := rfl
theorem hR_tI {h : hp} {i k a b : Nat} {v : Int32} : hR (tI h i k v) a b = hR h a b := rfl
theorem hR_tL {h : hp} {i k a b : Nat} {v : Int64} : hR (tL h i k v) a b = hR h a b := rfl
theorem hR_tR {h : hp} {i k a b : Nat} {v : Option Nat} : hR (tR h i k v) a b = hR h a b := rfl
theorem aI_sI {h : hp} {i k a b : Nat} {v : Int32} : aI (sI h i k v) a b = aI h a b := rfl
theorem aI_sR {h : hp} {i k a b : Nat} {v : Option Nat} : aI (sR h i k v) a b = aI h a b := rfl
theorem aI_tI {h : hp} {i k a b : Nat} {v : Int32} : aI (tI h i k v) a b = if a = i ∧ b = k then v else aI h a b := rfl
theorem aI_tL {h : hp} {i k a b : Nat} {v : Int64} : aI (tL h i k v) a b = aI h a b := rfl
theorem aI_tR {h : hp} {i k a b : Nat} {v : Option Nat} : aI (tR h i k v) a b = aI h a b := rfl
theorem aL_sI {h : hp} {i k a b : Nat} {v : Int32} : aL (sI h i k v) a b = aL h a b := rfl
theorem aL_sR {h : hp} {i k a b : Nat} {v : Option Nat} : aL (sR h i k v) a b = aL h a b := rfl
theorem aL_tI {h : hp} {i k a b : Nat} {v : Int32} : aL (tI h i k v) a b = aL h a b := rfl
theorem aL_tL {h : hp} {i k a b : Nat} {v : Int64} : aL (tL h i k v) a b = if a = i ∧ b = k then v else aL h a b := rfl
theorem aL_tR {h : hp} {i k a b : Nat} {v : Option Nat} : aL (tR h i k v) a b = aL h a b := rfl
theorem aR_sI {h : hp} {i k a b : Nat} {v : Int32} : aR (sI h i k v) a b = aR h a b := rfl
theorem aR_sR {h : hp} {i k a b : Nat} {v : Option Nat} : aR (sR h i k v) a b = aR h a b := rfl
theorem aR_tI {h : hp} {i k a b : Nat} {v : Int32} : aR (tI h i k v) a b = aR h a b := rfl
theorem aR_tL {h : hp} {i k a b : Nat} {v : Int64} : aR (tL h i k v) a b = aR h a b := rfl
theorem aR_tR {h : hp} {i k a b : Nat} {v : Option Nat} : aR (tR h i k v) a b = if a = i ∧ b = k then v else aR h a b := rfl
theorem kd_sI {h : hp} {i k a : Nat} {v : Int32} : kdOf (sI h i k v) a = kdOf h a := rfl
theorem kd_sR {h : hp} {i k a : Nat} {v : Option Nat} : kdOf (sR h i k v) a = kdOf h a := rfl
theorem kd_tI {h : hp} {i k a : Nat} {v : Int32} : kdOf (tI h i k v) a = kdOf h a := rfl
theorem kd_tL {h : hp} {i k a : Nat} {v : Int64} : kdOf (tL h i k v) a = kdOf h a := rfl
theorem kd_tR {h : hp} {i k a : Nat} {v : Option Nat} : kdOf (tR h i k v) a = kdOf h a := rfl
-- loops by fuel: what they make is an iteration
def lp {α : Type} (g : Nat → α → α) : Nat → Nat → α → α
  | _, 0, a => a
  | i, k + 1, a => lp g (i + 1) k (g i a)
theorem loop_up {α β : Type} {F : Nat → Nat → α → Option β} {N : Nat} {g : Nat → α → α} {out : α → Option β} (hs : ∀ n i a, i < N → F (n + 1) i a = F n (i + 1) (g i a)) (he : ∀ n a, F (n + 1) N a = out a) : ∀ k i n a, i + k = N → k < n → F n i a = out (lp g i k a) := by
  intro k
  induction k with
  | zero =>
    intro i n a h1 h2
    obtain ⟨n, rfl⟩ : ∃ m, n = m + 1 := ⟨n - 1, by omega⟩
    have : i = N := by omega
    subst this
    exact he n a
  | succ k ih =>
    intro i n a h1 h2
    obtain ⟨n, rfl⟩ : ∃ m, n = m + 1 := ⟨n - 1, by omega⟩
    rw [hs n i a (by omega)]
    exact ih (i + 1) n (g i a) (by omega) (by omega)
/-- a loop that may end early -/
def lpx {α γ : Type} (g : Nat → α → α ⊕ γ) : Nat → Nat → α → α ⊕ γ
  | _, 0, a => .inl a
  | i, k + 1, a => match g i a with
    | .inl b => lpx g (i + 1) k b
    | .inr r => .inr r
theorem loop_upx {α β γ : Type} {F : Nat → Nat → α → Option β} {N : Nat} {g : Nat → α → α ⊕ γ} {out : α ⊕ γ → Option β} (hs : ∀ n i a, i < N → F (n + 1) i a = match g i a with
    | .inl b => F n (i + 1) b
    | .inr r => out (.inr r)) (he : ∀ n a, F (n + 1) N a = out (.inl a)) : ∀ k i n a, i + k = N → k < n → F n i a = out (lpx g i k a) := by
  intro k
  induction k with
  | zero =>
    intro i n a h1 h2
    obtain ⟨n, rfl⟩ : ∃ m, n = m + 1 := ⟨n - 1, by omega⟩
    have : i = N := by omega
    subst this
    exact he n a
  | succ k ih =>
    intro i n a h1 h2
    obtain ⟨n, rfl⟩ : ∃ m, n = m + 1 := ⟨n - 1, by omega⟩
    rw [hs n i a (by omega)]
    show _ = out (match g i a with | .inl b => lpx g (i + 1) k b | .inr r => .inr r)
    cases hg : g i a with
    | inl b => exact ih (i + 1) n b (by omega) (by omega)
    | inr r => rfl
theorem lp_inv {α : Type} {g : Nat → α → α} {N : Nat} (P : Nat → α → Prop) (hs : ∀ i a, i < N → P i a → P (i + 1) (g i a)) : ∀ k i a, i + k = N → P i a → P N (lp g i k a) := by
  intro k
  induction k with
  | zero => intro i a h1 h2; have : i = N := by omega
            subst this; exact h2
  | succ k ih => intro i a h1 h2; exact ih (i + 1) _ (by omega) (hs i a (by omega) h2)
theorem lp_congr {α : Type} {g g' : Nat → α → α} {N : Nat} (h : ∀ i a, i < N → g i a = g' i a) : ∀ k i a, i + k = N → lp g i k a = lp g' i k a := by
  intro k
  induction k with
  | zero => intros; rfl
  | succ k ih => intro i a h1; show lp g (i + 1) k (g i a) = lp g' (i + 1) k (g' i a); rw [h i a (by omega)]; exact ih _ _ (by omega)
-- bits of a small number
def pop : Nat → Nat → Nat
  | 0, _ => 0
  | k + 1, n => n % 2 + pop k (n / 2)
theorem M_has_h {h h' : hp} {a b : Int32} : f_X12_has h a b = f_X12_has h' a b := rfl
theorem M_bits_h (h h' : hp) : ∀ n a b c, f_X12_bits_4 h n a b c = f_X12_bits_4 h' n a b c := by
  intro n
  induction n with
  | zero => intros; rfl
  | succ n ih =>
    intro a b c
    simp only [f_X12_bits_4, M_has_h (h := h) (h' := h')]
    have : f_X12_bits_25 h (f_X12_bits_4 h n) = f_X12_bits_25 h' (f_X12_bits_4 h' n) := by
      funext x y z w
      simp only [f_X12_bits_25, nm_eq, ih]
    rw [this]
def hp0 : hp := (fun _ _ => 0, fun _ _ => none, fun _ _ => 0, fun _ _ => 0, fun _ _ => none, fun _ => 0)
theorem M_bits0 : ∀ s, s < 1024 → f_X12_bits hp0 (nI s) = some (nI (pop 10 s)) := by decide +kernel
theorem M_bits {h : hp} {s : Nat} (hs : s < 1024) : f_X12_bits h (nI s) = some (nI (pop 10 s)) := by
  rw [← M_bits0 s hs]; exact M_bits_h _ _ _ _ _ _
