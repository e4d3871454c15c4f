-- ===== the first state: what the constructors make, its numbers shifted to their places =====
theorem arrV_cong {cA : ClassId} {n : Nat} {f g : Nat → Value} (H : ∀ j, j < n → f j = g j) : arrV cA n f = arrV cA n g := by
  have e : (fun j : Fin n => f j.val) = fun j : Fin n => g j.val := funext fun j => H j.val j.isLt
  unfold arrV
  rw [e]
def shf (d : Nat) (h : hp) : hp := (fun i k => h.1 (i + d) k, fun i k => (h.2.1 (i + d) k).map fun t => t - d, fun i k => h.2.2.1 (i + d) k, fun i k => h.2.2.2.1 (i + d) k, fun i k => (h.2.2.2.2.1 (i + d) k).map fun t => t - d, fun _ => 0)
theorem ktF_len (ci : Nat) : (ktF ci).length ≤ 61 := by
  unfold ktF
  split <;> decide
theorem shf_fvs {d i : Nat} {h : hp} {q : Nat → Nat} {l : List Nat} (R : ∀ k t, k < l.length → hR h (i + d) k = some t → d ≤ t) : fvs (fun j => q (j + d)) (shf d h) i l = fvs q h (i + d) l := by
  apply List.ext_getElem?
  intro k
  cases hk : l[k]? with
  | none =>
    have h2 : l.length ≤ k := by simpa using hk
    rw [List.getElem?_eq_none (by rw [fvs_len]; exact h2), List.getElem?_eq_none (by rw [fvs_len]; exact h2)]
  | some fd =>
    have hlt : k < l.length := (List.getElem?_eq_some_iff.mp hk).1
    rw [fvs_get hk, fvs_get hk]
    refine congrArg some ?_
    match fd, hk with
    | 0, _ => rfl
    | 1, _ =>
      show va_rf (((hR h (i + d) k).map fun t => t - d).map fun j => q (j + d)) = va_rf ((hR h (i + d) k).map q)
      cases ht : hR h (i + d) k with
      | none => rfl
      | some t => show Value.ref (q (t - d + d)) = Value.ref (q t); rw [Nat.sub_add_cancel (R k t hlt ht)]
    | n + 2, _ => show Value.ref (q (i + n + d)) = Value.ref (q (i + d + n)); rw [show i + n + d = i + d + n by omega]
theorem shf_at {D : va_G} {E : Nat → ClassId} {H : Heap} {q : Nat → Nat} {h : hp} {i d : Nat} (hk : kdOf (shf d h) i = kdOf h (i + d)) (hc : kdOf h (i + d) < 20 ∨ 40 ≤ kdOf h (i + d)) (R1 : ∀ k t, k < 70 → hR h (i + d) k = some t → d ≤ t) (hn : 4 ≤ (kdOf h (i + d) - 40) % 10 → (kdOf h (i + d) - 40) / 10 ≤ 8) (R2 : ∀ j t, j < 8 → aR h (i + d) j = some t → d ≤ t) (Hat : va_at D vwCl (q (i + d), cellX E q h (i + d)) H) : va_at D vwCl (q (i + d), cellX E (fun j => q (j + d)) (shf d h) i) H := by
  unfold cellX at Hat ⊢
  rw [hk]
  generalize kdOf h (i + d) = c at *
  unfold cellK at Hat ⊢
  by_cases c1 : c < 20
  · rw [if_pos c1] at Hat ⊢
    rw [shf_fvs (fun k t h1 h2 => R1 k t (by have := ktF_len (c - 1); omega) h2)]
    exact Hat
  · have c2 : ¬ c < 40 := by omega
    rw [if_neg c1, if_neg c2] at Hat ⊢
    generalize (c - 40) % 10 = e at *
    generalize (c - 40) / 10 = n at *
    by_cases e4 : 4 ≤ e
    · rw [acn_r e4] at Hat ⊢
      have h1 : H[q (i + d)]? = some (arrV (E e) n (fun j => va_rf ((aR h (i + d) j).map q))) := Hat
      show H[q (i + d)]? = some (arrV (E e) n (fun j => va_rf (((aR h (i + d) j).map fun t => t - d).map fun j => q (j + d))))
      rw [h1]
      refine congrArg some (arrV_cong fun j hj => ?_)
      cases ht : aR h (i + d) j with
      | none => rfl
      | some t => show Value.ref (q t) = Value.ref (q (t - d + d)); rw [Nat.sub_add_cancel (R2 j t (by have := hn e4; omega) ht)]
    · by_cases e3 : e = 3
      · subst e3; exact Hat
      · rw [acn_i (by omega)] at Hat ⊢
        exact Hat
theorem first_world {D : va_G} {E : Nat → ClassId} {b c0 n d : Nat} {h1 : hp} {L : List Nat} {q : Nat → Nat} {A : Nat → Prop} {H : Heap} (hd : c0 + d = 100) (hn : c0 + n ≤ 100) (hid : nid h1 = 100 + n) (hs : ∀ i, i < 100 → sd b i = true → stK i ≠ 0 → c0 ≤ i ∧ i < c0 + n)
    (K : ∀ j, j < n → kdOf h1 (100 + j) = stK (c0 + j) ∧ stK (c0 + j) ≠ 0 ∧ (stK (c0 + j) < 20 ∨ 40 ≤ stK (c0 + j)) ∧ (4 ≤ (stK (c0 + j) - 40) % 10 → (stK (c0 + j) - 40) / 10 ≤ 8))
    (R1 : ∀ j, j < n → ∀ k, k < 70 → (hR h1 (100 + j) k).all (fun t => decide (100 ≤ t)) = true) (R2 : ∀ j, j < n → ∀ k, k < 8 → (aR h1 (100 + j) k).all (fun t => decide (100 ≤ t)) = true)
    (hX : XD 2 L q h1) (hP : va_P D vwCl (XL E L q h1) H) (hA : ∀ i ∈ L, A (q i)) :
    XD b (List.range' c0 n) (fun i => q (i + d)) (shf d h1) ∧ va_P D vwCl (XL E (List.range' c0 n) (fun i => q (i + d)) (shf d h1)) H ∧ ∀ i ∈ List.range' c0 n, A (q (i + d)) := by
  have mem : ∀ i, i ∈ List.range' c0 n → ∃ j, j < n ∧ i = c0 + j ∧ i + d = 100 + j ∧ i + d ∈ L := by
    intro i hi
    obtain ⟨g1, g2⟩ := List.mem_range'_1.mp hi
    refine ⟨i - c0, by omega, by omega, by omega, ?_⟩
    have e : i + d = 100 + (i - c0) := by omega
    have hk := K (i - c0) (by omega)
    rw [e]
    refine hX.2.2.1 _ ?_ (by rw [hk.1]; exact hk.2.1)
    show decide (100 ≤ 100 + (i - c0)) = true
    exact decide_eq_true (by omega)
  have kd : ∀ j, j < n → kdOf (shf d h1) (c0 + j) = stK (c0 + j) := fun j hj => by
    show (if c0 + j < 100 then stK (c0 + j) else 0) = _
    rw [if_pos (by omega)]
  refine ⟨⟨List.nodup_range', ?_, ?_, ?_, ?_⟩, ?_, ?_⟩
  · intro i hi j hj e
    obtain ⟨a, -, -, -, h2⟩ := mem i hi
    obtain ⟨a', -, -, -, h2'⟩ := mem j hj
    have := hX.2.1 _ h2 _ h2' e
    omega
  · intro i g1 g2
    have g3 : (if i < 100 then stK i else 0) ≠ 0 := g2
    by_cases hi : i < 100
    · rw [if_pos hi] at g3
      exact List.mem_range'_1.mpr (hs i hi g1 g3)
    · rw [if_neg hi] at g3; exact absurd rfl g3
  · intro i hi
    obtain ⟨a, h2, h3, -⟩ := mem i hi
    show i < 100 + 0
    omega
  · intro i hi
    obtain ⟨a, h2, h3, h4, h5⟩ := mem i hi
    obtain ⟨r1, r2, r3⟩ := hX.2.2.2.2 _ h5
    rw [hid] at r1 r2 r3
    refine ⟨fun k t ht => ?_, fun k t ht => ?_, fun k m g1 g2 => ?_⟩
    · have ht : (hR h1 (i + d) k).map (fun t => t - d) = some t := ht
      obtain ⟨u, hu, e⟩ := Option.map_eq_some_iff.mp ht
      have := r1 k u hu
      show t < 100 + 0
      omega
    · have ht : (aR h1 (i + d) k).map (fun t => t - d) = some t := ht
      obtain ⟨u, hu, e⟩ := Option.map_eq_some_iff.mp ht
      have := r2 k u hu
      show t < 100 + 0
      omega
    · have e1 : kdOf (shf d h1) i = kdOf h1 (i + d) := by rw [h3, kd a h2, show c0 + a + d = 100 + a by omega, (K a h2).1]
      rw [e1] at g1 g2
      have := r3 k m g1 g2
      show i + m < 100 + 0
      omega
  · intro k x hk
    obtain ⟨i, g1, g2, rfl⟩ := XL_inv hk
    obtain ⟨a, h2, h3, h4, h5⟩ := mem i g2
    obtain ⟨k2, -, hk2⟩ := XL_at (E := E) (q := q) (h := h1) h5
    have hK := K a h2
    have e1 : kdOf h1 (i + d) = stK (c0 + a) := by rw [h4]; exact hK.1
    refine shf_at (by rw [e1, h3]; exact kd a h2) (by rw [e1]; exact hK.2.2.1) (fun k t h6 h7 => ?_) (by rw [e1]; exact hK.2.2.2) (fun j t h6 h7 => ?_) (hP k2 _ hk2)
    · have := R1 a h2 k h6
      rw [← h4, h7] at this
      have : decide (100 ≤ t) = true := this
      have := of_decide_eq_true this
      omega
    · have := R2 a h2 j h6
      rw [← h4, h7] at this
      have : decide (100 ≤ t) = true := this
      have := of_decide_eq_true this
      omega
  · intro i hi
    obtain ⟨a, -, -, -, h5⟩ := mem i hi
    exact hA _ h5
-- what the two constructors make
def hX1 : hp := match fz_X11_init (nwk hp0 (20 + 12)) 100 with
  | some r => r.1
  | none => hp0
def hM1 : hp := match fz_X12_init (nwk hp0 (20 + 13)) 100 with
  | some r => r.1
  | none => hp0
theorem opt_unit {o : Option (hp × Unit)} {d : hp} (H : o.isSome = true) : o = some ((match o with
  | some r => r.1
  | none => d), ()) := by
  cases o with
  | none => cases H
  | some r => rfl
set_option maxRecDepth 100000 in
theorem hX1_eq : fz_X11_init (nwk hp0 (20 + 12)) 100 = some (hX1, ()) := opt_unit (d := hp0) (by decide +kernel)
set_option maxRecDepth 100000 in
theorem hM1_eq : fz_X12_init (nwk hp0 (20 + 13)) 100 = some (hM1, ()) := opt_unit (d := hp0) (by decide +kernel)
def hX00 : hp := shf 100 hX1
def hM00 : hp := shf 48 hM1
theorem X1_nid : nid hX1 = 100 + 51 := by decide +kernel
theorem M1_nid : nid hM1 = 100 + 39 := by decide +kernel
theorem X1_K : ∀ j, j < 51 → kdOf hX1 (100 + j) = stK (0 + j) ∧ stK (0 + j) ≠ 0 ∧ (stK (0 + j) < 20 ∨ 40 ≤ stK (0 + j)) ∧ (4 ≤ (stK (0 + j) - 40) % 10 → (stK (0 + j) - 40) / 10 ≤ 8) := by decide +kernel
theorem M1_K : ∀ j, j < 39 → kdOf hM1 (100 + j) = stK (52 + j) ∧ stK (52 + j) ≠ 0 ∧ (stK (52 + j) < 20 ∨ 40 ≤ stK (52 + j)) ∧ (4 ≤ (stK (52 + j) - 40) % 10 → (stK (52 + j) - 40) / 10 ≤ 8) := by decide +kernel
theorem X1_R1 : ∀ j, j < 51 → ∀ k, k < 70 → (hR hX1 (100 + j) k).all (fun t => decide (100 ≤ t)) = true := by decide +kernel
theorem X1_R2 : ∀ j, j < 51 → ∀ k, k < 8 → (aR hX1 (100 + j) k).all (fun t => decide (100 ≤ t)) = true := by decide +kernel
theorem M1_R1 : ∀ j, j < 39 → ∀ k, k < 70 → (hR hM1 (100 + j) k).all (fun t => decide (100 ≤ t)) = true := by decide +kernel
theorem M1_R2 : ∀ j, j < 39 → ∀ k, k < 8 → (aR hM1 (100 + j) k).all (fun t => decide (100 ≤ t)) = true := by decide +kernel
theorem side_X : ∀ i, i < 100 → sd 1 i = true → stK i ≠ 0 → 0 ≤ i ∧ i < 0 + 51 := by decide +kernel
theorem side_M : ∀ i, i < 100 → sd 0 i = true → stK i ≠ 0 → 52 ≤ i ∧ i < 52 + 39 := by decide +kernel
-- both sides stand for the same
def sg0 : scn := ((0, fun _ => 0), (0, fun _ => 0, fun _ => 0, fun _ => 0, fun _ => 0), 0, (0, fun _ => 0, fun _ => 0), (0, fun _ => 0), (0, fun _ => 0, fun _ => 0), none)
def St0 : sst := (sg0, none, 0, (0, fun _ => 0), [])
theorem RX_first : RX hX00 St0 := by
  have n0 : ∀ {P : Nat → Prop}, ∀ k, k < 0 → P k := fun k hk => absurd hk (Nat.not_lt_zero k)
  refine ⟨⟨⟨⟨?_, n0⟩, ⟨?_, n0, ?_, ?_⟩, ?_, ⟨?_, n0⟩, ⟨?_, n0⟩, ⟨?_, n0⟩, ?_⟩, ?_⟩, ?_, ?_, ⟨?_, n0⟩, ⟨27, ?_, ⟨rfl, rfl, ⟨rfl, rfl, rfl, rfl⟩, rfl, rfl, rfl, rfl⟩, ?_⟩, ⟨?_, ?_, fun i b h => (nomatch h)⟩, ?_⟩
  · show hI hX00 2 1 = nI 0
    decide +kernel
  · show hI hX00 1 2 = nI 0
    decide +kernel
  · show ∀ p, p < 5 → aI hX00 5 p = nI (if p < 0 then 0 else 0)
    decide +kernel
  · show ∀ j, j < 20 → aI hX00 6 j = nI (if j / 4 < 0 then 0 else 0)
    decide +kernel
  · show hI hX00 1 5 = nI 0
    decide +kernel
  · show hI hX00 7 1 = nI 0
    decide +kernel
  · show hI hX00 9 1 = nI 0
    decide +kernel
  · show hI hX00 11 1 = nI 0
    decide +kernel
  · show hR hX00 1 9 = none
    decide +kernel
  · have : ∀ p, p < 5 → aR hX00 4 p = none := by decide +kernel
    exact fun p _ hp => this p hp
  · show hI hX00 0 2 = 0
    decide +kernel
  · show hI hX00 0 5 = nI 0
    decide +kernel
  · show hI hX00 25 1 = nI 0
    decide +kernel
  · show hR hX00 0 4 = some 27
    decide +kernel
  · have h1 : hR hX00 1 9 = none := by decide +kernel
    have h2 : hR hX00 13 9 = none := by decide +kernel
    rw [h1, h2]
    rintro v (h | h) <;> cases h
  · show hI hX00 33 1 = 0
    decide +kernel
  · show hI hX00 33 3 = nI 0
    decide +kernel
  · intro a ha
    have ha : 100 + 0 ≤ a := ha
    show (if a < 100 then stK a else 0) = 0
    rw [if_neg (by omega)]
theorem RM_first : RM hM00 St0 := by
  have n0 : ∀ {P : Nat → Prop}, ∀ k, k < 0 → P k := fun k hk => absurd hk (Nat.not_lt_zero k)
  refine ⟨⟨⟨?_, n0⟩, ⟨?_, n0⟩, ?_, ⟨?_, n0⟩, ⟨?_, n0⟩, ⟨?_, n0⟩, ?_⟩, ?_, ?_, ⟨?_, n0⟩, ?_, ⟨?_, fun i b h => (nomatch h)⟩⟩
  · show hI hM00 52 0 = nI 0
    decide +kernel
  · show hI hM00 52 1 = nI 0
    decide +kernel
  · show hI hM00 52 2 = nI 0
    decide +kernel
  · show hI hM00 52 29 = nI 0
    decide +kernel
  · show hI hM00 52 32 = nI 0
    decide +kernel
  · show hI hM00 52 33 = nI 0
    decide +kernel
  · show hI hM00 52 9 = -1
    decide +kernel
  · show hI hM00 52 37 = 0
    decide +kernel
  · show hI hM00 52 8 = nI 0
    decide +kernel
  · show hI hM00 52 10 = nI 0
    decide +kernel
  · have h1 : ∀ k, k < 16 → aI hM00 66 k = nI (lets.getD k 0) := by decide +kernel
    intro k b hk
    have h2 : k < 16 := (List.getElem?_eq_some_iff.mp hk).1
    rw [h1 k h2, List.getD_eq_getElem?_getD, hk]; rfl
  · show hI hM00 52 55 = nI 0
    decide +kernel
theorem SOK_first : SOK St0 := by
  have n0 : ∀ {P : Nat → Prop}, ∀ k, k < 0 → P k := fun k hk => absurd hk (Nat.not_lt_zero k)
  exact ⟨⟨⟨⟨by decide, n0⟩, ⟨by decide, n0⟩, by decide, ⟨by decide, n0⟩, ⟨by decide, n0⟩, ⟨by decide, n0⟩, fun C h => (nomatch h)⟩, by decide⟩, fun σ h => (nomatch h), by decide, ⟨by decide, n0⟩, by decide, fun b h => (nomatch h)⟩
theorem TP_first : TP hX00 hM00 := by
  have h1 : ∀ t, t < 6 → aR hX00 32 t = some (39 + 2 * t) ∧ aI hM00 87 t = hI hX00 (39 + 2 * t) 1 ∧ aI hM00 88 t = hI hX00 (39 + 2 * t) 2 ∧ hI hX00 (39 + 2 * t) 1 = -1 ∧ hI hX00 (39 + 2 * t) 2 = nI 0 := by decide +kernel
  have h2 : ∀ t, t < 6 → ∀ k, k < 60 → aL hM00 89 (60 * t + k) = aL hX00 (40 + 2 * t) k := by decide +kernel
  exact fun t ht => ⟨(h1 t ht).1, (h1 t ht).2.1, (h1 t ht).2.2.1, Or.inl (h1 t ht).2.2.2, h2 t ht⟩
theorem sim_first : Sim hX00 hM00 := ⟨St0, RX_first, RM_first, SOK_first, TP_first⟩
theorem XD_raw {k a : Nat} (hk : 20 ≤ k) : XD 2 [100] (fun _ => a) (nwk hp0 k) := by
  refine ⟨by simp, fun i hi j hj _ => ?_, fun i h1 h2 => ?_, fun i hi => ?_, fun i hi => ?_⟩
  · rw [List.mem_singleton.mp hi, List.mem_singleton.mp hj]
  · have h1 : decide (100 ≤ i) = true := h1
    have h3 := of_decide_eq_true h1
    by_cases e : i = 100
    · rw [e]; exact List.mem_singleton.mpr rfl
    · refine absurd ?_ h2
      show (if i < 100 then stK i else (if i = 100 then k else if i = 0 then 0 + 1 else 0)) = 0
      rw [if_neg (by omega), if_neg e, if_neg (by omega)]
  · rw [List.mem_singleton.mp hi]
    show 100 < 100 + (if 0 = 100 then k else if 0 = 0 then 0 + 1 else 0)
    rw [if_neg (by decide), if_pos rfl]; decide
  · rw [List.mem_singleton.mp hi]
    refine ⟨fun m t ht => ?_, fun m t ht => ?_, fun m n g1 g2 => ?_⟩
    · have ht : (if 100 = 100 then (none : Option Nat) else none) = some t := ht
      cases ht
    · have ht : (if 100 = 100 then (none : Option Nat) else none) = some t := ht
      cases ht
    · have g1 : (if 100 < 100 then stK 100 else (if 100 = 100 then k else if 100 = 0 then 0 + 1 else 0)) < 20 := g1
      rw [if_neg (by decide), if_pos rfl] at g1
      omega
