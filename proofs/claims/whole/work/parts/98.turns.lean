-- the reference's turns
def z69 (n : Nat) : hp := (fun i k => if i = 52 ∧ k = 1 then nI n else 0, fun _ _ => none, fun _ _ => 0, fun _ _ => 0, fun _ _ => none, fun _ => 0)
def rl69 (n : Nat) (a b : Option (hp × Int32)) : Prop := (a = none ∧ b = none) ∨ ∃ h g x, a = some (h, x) ∧ b = some (g, x) ∧ (x ≠ 0 → ∀ j, j < n → aI h 69 j = aI g 69 j)
theorem rl69_ite {n : Nat} {c : Prop} [Decidable c] {a b a' b' : Option (hp × Int32)} (h1 : c → rl69 n a b) (h2 : ¬ c → rl69 n a' b') : rl69 n (if c then a else a') (if c then b else b') := by
  by_cases hc : c
  · rw [if_pos hc, if_pos hc]; exact h1 hc
  · rw [if_neg hc, if_neg hc]; exact h2 hc
theorem lay_step {n c m : Nat} {h : hp} {a b : Int32} (hc : c < 5) (e1 : hI h 52 1 = nI n) : f_X12_layTurn_12 (m + 1) h a b (nI c) = (if a - a / (5 : Int32) * (5 : Int32) < nI n then bnr (f_X12_has h b (a - a / (5 : Int32) * (5 : Int32))) fun r => if r = 0 then f_X12_layTurn_12 m (tI h 69 c (a - a / (5 : Int32) * (5 : Int32))) (a / (5 : Int32)) (b ||| ((1 : Int32) <<< ((a - a / (5 : Int32) * (5 : Int32)) &&& 31))) (nI c + (-1 : Int32)) else some (tI h 69 c (a - a / (5 : Int32) * (5 : Int32)), 0) else some (tI h 69 c (a - a / (5 : Int32) * (5 : Int32)), 0)) := by
  have hin : vp_in (nI c) 5 := vp_in_nI (n := c) (N := 5) hc (by decide)
  have hcp : (nI c).toNatClampNeg = c := nI_clamp (n := c) (by omega)
  have n5 : ¬ (5 : Int32) = 0 := by decide
  rw [f_X12_layTurn_12, if_neg (nI_pos (n := c) (by omega))]
  unfold f_X12_layTurn_60
  generalize a - a / (5 : Int32) * (5 : Int32) = v
  have ev : aI (tI h 69 c v) 69 c = v := by rw [aI_tI, if_pos ⟨rfl, rfl⟩]
  simp only [nm_eq, chk_of hin, nz_of n5, hcp, ev]
  rw [show hI (tI h 69 c v) 52 1 = nI n from e1]
  rfl
theorem rl69_turn {n : Nat} (hn : n ≤ 5) : ∀ c m h g a b x, hI h 52 1 = nI n → hI g 52 1 = nI n → c ≤ n → ((c = 0 ∧ x = -1) ∨ (0 < c ∧ x = nI (c - 1))) → (∀ j, c ≤ j → j < n → aI h 69 j = aI g 69 j) → c < m → rl69 n (f_X12_layTurn_12 m h a b x) (f_X12_layTurn_12 m g a b x) := by
  intro c
  induction c with
  | zero =>
    intro m h g a b x e1 e2 h1 h2 H h3
    obtain ⟨m, rfl⟩ : ∃ j, m = j + 1 := ⟨m - 1, by omega⟩
    have hx : x = -1 := by rcases h2 with h2 | h2; exact h2.2; omega
    subst hx
    rw [f_X12_layTurn_12, f_X12_layTurn_12, if_pos (show (-1 : Int32) < 0 by decide), if_pos (show (-1 : Int32) < 0 by decide)]
    exact Or.inr ⟨h, g, 1, rfl, rfl, fun _ j hj => H j (Nat.zero_le _) hj⟩
  | succ c ih =>
    intro m h g a b x e1 e2 h1 h2 H h3
    obtain ⟨m, rfl⟩ : ∃ j, m = j + 1 := ⟨m - 1, by omega⟩
    have hx : x = nI c := by rcases h2 with h2 | h2; omega; exact h2.2
    subst hx
    have hin : vp_in (nI c) 5 := vp_in_nI (n := c) (N := 5) (by omega) (by decide)
    have hcp : (nI c).toNatClampNeg = c := nI_clamp (n := c) (by omega)
    have H' : ∀ v, ∀ j, c ≤ j → j < n → aI (tI h 69 c v) 69 j = aI (tI g 69 c v) 69 j := by
      intro v j h4 h5
      rw [aI_tI, aI_tI]
      by_cases e : j = c
      · rw [if_pos ⟨rfl, e⟩, if_pos ⟨rfl, e⟩]
      · rw [if_neg (by rintro ⟨-, hh⟩; exact e hh), if_neg (by rintro ⟨-, hh⟩; exact e hh)]; exact H j (by omega) h5
    rw [lay_step (n := n) (by omega) e1, lay_step (n := n) (by omega) e2]
    generalize a - a / (5 : Int32) * (5 : Int32) = v
    refine rl69_ite (fun _ => ?_) (fun _ => Or.inr ⟨_, _, 0, rfl, rfl, fun z => absurd rfl z⟩)
    rw [show f_X12_has g b v = f_X12_has h b v from rfl]
    cases hh : f_X12_has h b v with
    | none => exact Or.inl ⟨rfl, rfl⟩
    | some r =>
      rw [bnr_of rfl, bnr_of rfl]
      refine rl69_ite (fun _ => ?_) (fun _ => Or.inr ⟨_, _, 0, rfl, rfl, fun z => absurd rfl z⟩)
      refine ih m _ _ _ _ _ e1 e2 (by omega) ?_ (H' v) (by omega)
      by_cases c0 : c = 0
      · subst c0; exact Or.inl ⟨rfl, rfl⟩
      · refine Or.inr ⟨by omega, ?_⟩
        obtain ⟨d, rfl⟩ : ∃ d, c = d + 1 := ⟨c - 1, by omega⟩
        exact (Int32.sub_eq_add_neg _ _).symm.trans (nI_pred d)
theorem rl69_lay {n : Nat} (hn : n ≤ 5) {h : hp} (e1 : hI h 52 1 = nI n) (a : Int32) : rl69 n (f_X12_layTurn h a) (f_X12_layTurn (z69 n) a) := by
  unfold f_X12_layTurn
  have e2 : hI (z69 n) 52 1 = nI n := rfl
  rw [nm_eq, nm_eq, e1, e2]
  refine rl69_turn hn n 2000 _ _ _ _ _ e1 e2 (Nat.le_refl _) ?_ (fun j h1 h2 => by omega) (by omega)
  by_cases c0 : n = 0
  · subst c0; exact Or.inl ⟨rfl, rfl⟩
  · refine Or.inr ⟨by omega, ?_⟩
    obtain ⟨d, rfl⟩ : ∃ d, n = d + 1 := ⟨n - 1, by omega⟩
    exact nI_pred d
def lay1 (n i : Nat) : Option (List Nat) := match f_X12_layTurn (z69 n) (nI i) with
  | none => none
  | some (h, r) => if r = 0 then some [] else some (1 :: (List.range n).map fun j => (aI h 69 j).toNatClampNeg)
def layC (n : Nat) : Nat → Nat → List (List Nat)
  | _, 0 => []
  | a, b + 1 => match lay1 n a with
    | some (_ :: L) => L :: layC n (a + 1) b
    | _ => layC n (a + 1) b
theorem layC_add {n : Nat} : ∀ b a c, layC n a (b + c) = layC n a b ++ layC n (a + b) c := by
  intro b
  induction b with
  | zero => intro a c; rw [Nat.zero_add, Nat.add_zero]; rfl
  | succ b ih =>
    intro a c
    rw [show b + 1 + c = (b + c) + 1 by omega, show a + (b + 1) = (a + 1) + b by omega, layC, layC, ih (a + 1) c]
    split <;> rfl
theorem layC_ch {n : Nat} : ∀ k, layC n 0 (125 * k) = (List.range k).flatMap fun c => layC n (125 * c) 125 := by
  intro k
  induction k with
  | zero => rfl
  | succ k ih => rw [Nat.mul_succ, layC_add, ih, List.range_succ, List.flatMap_append, Nat.zero_add]; simp
theorem lay5_ords : ((List.range 25).flatMap fun c => layC 5 (125 * c) 125) = (ords 5 [0, 1, 2, 3, 4] 120).map fun L => L.take 5 := by decide +kernel
theorem lay4_ords : ((List.range 5).flatMap fun c => layC 4 (125 * c) 125) = (ords 4 [0, 1, 2, 3, 4] 120).map fun L => L.take 4 := by decide +kernel
theorem lay3_ords : ∀ n, n ≤ 3 → layC n 0 (5 ^ n) = (ords n [0, 1, 2, 3, 4] 120).map fun L => L.take n := by decide +kernel
theorem lay_ords {n : Nat} (hn : n ≤ 5) : layC n 0 (5 ^ n) = (ords n [0, 1, 2, 3, 4] 120).map fun L => L.take n := by
  by_cases h5 : n = 5
  · subst h5; exact (layC_ch 25).trans lay5_ords
  by_cases h4 : n = 4
  · subst h4; exact (layC_ch 5).trans lay4_ords
  exact lay3_ords n (by omega)
theorem lay1_s5 : ∀ c, c < 25 → ∀ d, d < 125 → (lay1 5 (125 * c + d)).isSome = true := by decide +kernel
theorem lay1_s4 : ∀ c, c < 5 → ∀ d, d < 125 → (lay1 4 (125 * c + d)).isSome = true := by decide +kernel
theorem lay1_s3 : ∀ n, n ≤ 3 → ∀ d, d < 5 ^ n → (lay1 n d).isSome = true := by decide +kernel
theorem lay1_some {n i : Nat} (hn : n ≤ 5) (hi : i < 5 ^ n) : (lay1 n i).isSome = true := by
  by_cases h5 : n = 5
  · subst h5
    have : i < 3125 := hi
    have := lay1_s5 (i / 125) (by omega) (i % 125) (Nat.mod_lt _ (by decide))
    rw [Nat.div_add_mod] at this; exact this
  by_cases h4 : n = 4
  · subst h4
    have : i < 625 := hi
    have := lay1_s4 (i / 125) (by omega) (i % 125) (Nat.mod_lt _ (by decide))
    rw [Nat.div_add_mod] at this; exact this
  exact lay1_s3 n (by omega) i hi
