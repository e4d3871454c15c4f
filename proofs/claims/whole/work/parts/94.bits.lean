-- ===== how many_ bits_ of_ a_ long_ are set_ =====
def pcn (x_ : Nat) : Nat → Nat
  | 0 => 0
  | n_ + 1 => pcn x_ n_ + (x_.testBit n_).toNat
def bsm : List Nat → Nat
  | [] => 0
  | b_ :: l => b_ + 256 * bsm l
def msq (m_ : Nat) : Nat → Nat
  | 0 => 0
  | n_ + 1 => m_ + 256 * msq m_ n_
theorem bsm_of : ∀ n_ x_, x_ < 256 ^ n_ → ∃ l : List Nat, l.length = n_ ∧ (∀ b_ ∈ l, b_ < 256) ∧ bsm l = x_ := by
  intro n_
  induction n_ with
  | zero => intro x_ hx; exact ⟨[], rfl, by simp, by simp at hx; subst hx; rfl⟩
  | succ n_ ih_ =>
    intro x_ hx
    obtain ⟨l, h1, h2, h3⟩ := ih_ (x_ / 256) (by rw [Nat.pow_succ] at hx; omega)
    refine ⟨(x_ % 256) :: l, by rw [List.length_cons, h1], ?_, by rw [bsm, h3]; omega⟩
    intro b_ hb_
    rcases List.mem_cons.mp hb_ with rfl | hb_
    · omega
    · exact h2 b_ hb_
theorem and_cons {a_ m_ A_ M_ : Nat} (ha_ : a_ < 256) (hm_ : m_ < 256) : (a_ + 256 * A_) &&& (m_ + 256 * M_) = (a_ &&& m_) + 256 * (A_ &&& M_) := by
  have h1 := Nat.and_mod_two_pow (a := a_ + 256 * A_) (b := m_ + 256 * M_) (n := 8)
  have h2 := Nat.and_div_two_pow (a := a_ + 256 * A_) (b := m_ + 256 * M_) (n := 8)
  rw [show (a_ + 256 * A_) % 2 ^ 8 = a_ by omega, show (m_ + 256 * M_) % 2 ^ 8 = m_ by omega] at h1
  rw [show (a_ + 256 * A_) / 2 ^ 8 = A_ by omega, show (m_ + 256 * M_) / 2 ^ 8 = M_ by omega] at h2
  omega
theorem bsm_sh1 : ∀ l : List Nat, (∀ b_ ∈ l, b_ < 256) → (bsm l / 2) &&& msq 85 l.length = bsm (l.map fun b_ => (b_ / 2) &&& 85) := by
  intro l
  induction l with
  | nil => intro _; rfl
  | cons b_ l ih_ =>
    intro h_
    have hb_ := h_ b_ (List.mem_cons_self ..)
    have e_ := ih_ (fun c_ hc_ => h_ c_ (List.mem_cons_of_mem _ hc_))
    rw [List.map_cons, bsm, bsm, ← e_, List.length_cons, msq, show (b_ + 256 * bsm l) / 2 = (b_ / 2 + 128 * (bsm l % 2)) + 256 * (bsm l / 2) by omega, and_cons (by omega) (by decide)]
    have : ∀ b_, b_ < 256 → ∀ t_, t_ < 2 → (b_ / 2 + 128 * t_) &&& 85 = (b_ / 2) &&& 85 := by decide +kernel
    rw [this b_ hb_ _ (Nat.mod_lt _ (by decide))]
theorem bsm_sh2 : ∀ l : List Nat, (∀ b_ ∈ l, b_ < 256) → (bsm l / 4) &&& msq 51 l.length = bsm (l.map fun b_ => (b_ / 4) &&& 51) := by
  intro l
  induction l with
  | nil => intro _; rfl
  | cons b_ l ih_ =>
    intro h_
    have hb_ := h_ b_ (List.mem_cons_self ..)
    have e_ := ih_ (fun c_ hc_ => h_ c_ (List.mem_cons_of_mem _ hc_))
    rw [List.map_cons, bsm, bsm, ← e_, List.length_cons, msq, show (b_ + 256 * bsm l) / 4 = (b_ / 4 + 64 * (bsm l % 4)) + 256 * (bsm l / 4) by omega, and_cons (by omega) (by decide)]
    have : ∀ b_, b_ < 256 → ∀ t_, t_ < 4 → (b_ / 4 + 64 * t_) &&& 51 = (b_ / 4) &&& 51 := by decide +kernel
    rw [this b_ hb_ _ (Nat.mod_lt _ (by decide))]
theorem bsm_and : ∀ l : List Nat, (∀ b_ ∈ l, b_ < 256) → bsm l &&& msq 51 l.length = bsm (l.map fun b_ => b_ &&& 51) := by
  intro l
  induction l with
  | nil => intro _; rfl
  | cons b_ l ih_ =>
    intro h_
    have hb_ := h_ b_ (List.mem_cons_self ..)
    have e_ := ih_ (fun c_ hc_ => h_ c_ (List.mem_cons_of_mem _ hc_))
    rw [List.map_cons, bsm, bsm, ← e_, List.length_cons, msq, and_cons (by omega) (by decide)]
theorem bsm_lo : ∀ l : List Nat, (∀ b_ ∈ l, b_ < 69 ∧ b_ % 16 ≤ 4) → bsm l % 16 ≤ 4 := by
  intro l h_
  cases l with
  | nil => exact Nat.zero_le _
  | cons b_ l => have := (h_ b_ (List.mem_cons_self ..)).2; rw [bsm]; omega
theorem bsm_sh4 : ∀ l : List Nat, (∀ b_ ∈ l, b_ < 69 ∧ b_ % 16 ≤ 4) → (bsm l + bsm l / 16) &&& msq 15 l.length = bsm (l.map fun b_ => (b_ + b_ / 16) % 16) := by
  intro l
  induction l with
  | nil => intro _; rfl
  | cons b_ l ih_ =>
    intro h_
    have hb_ := h_ b_ (List.mem_cons_self ..)
    have e_ := ih_ (fun c_ hc_ => h_ c_ (List.mem_cons_of_mem _ hc_))
    have lo_ := bsm_lo l (fun c_ hc_ => h_ c_ (List.mem_cons_of_mem _ hc_))
    rw [List.map_cons, bsm, bsm, ← e_, List.length_cons, msq, show (b_ + 256 * bsm l) + (b_ + 256 * bsm l) / 16 = (b_ + b_ / 16 + 16 * (bsm l % 16)) + 256 * (bsm l + bsm l / 16) by omega, and_cons (by omega) (by decide)]
    rw [show (b_ + b_ / 16 + 16 * (bsm l % 16)) &&& 15 = (b_ + b_ / 16) % 16 by rw [show 15 = 2 ^ 4 - 1 from rfl, Nat.and_two_pow_sub_one_eq_mod]; omega]
theorem bsm_sub {f_ : Nat → Nat} : ∀ l : List Nat, (∀ b_ ∈ l, f_ b_ ≤ b_) → bsm l = bsm (l.map fun b_ => b_ - f_ b_) + bsm (l.map f_) := by
  intro l
  induction l with
  | nil => intro _; rfl
  | cons b_ l ih_ =>
    intro h_
    have hb_ := h_ b_ (List.mem_cons_self ..)
    have e_ := ih_ (fun c_ hc_ => h_ c_ (List.mem_cons_of_mem _ hc_))
    rw [List.map_cons, List.map_cons, bsm, bsm, bsm]; omega
theorem bsm_add {f_ g_ : Nat → Nat} : ∀ l : List Nat, bsm (l.map f_) + bsm (l.map g_) = bsm (l.map fun b_ => f_ b_ + g_ b_) := by
  intro l
  induction l with
  | nil => rfl
  | cons b_ l ih_ => rw [List.map_cons, List.map_cons, List.map_cons, bsm, bsm, bsm]; omega
theorem pcn_byte {b_ T : Nat} (hb_ : b_ < 256) : ∀ n_, pcn (b_ + 256 * T) (8 + n_) = pcn b_ 8 + pcn T n_ := by
  intro n_
  induction n_ with
  | zero =>
    have : ∀ k_, k_ ≤ 8 → pcn (b_ + 256 * T) k_ = pcn b_ k_ := by
      intro k_
      induction k_ with
      | zero => intro _; rfl
      | succ k_ ih_ =>
        intro hk
        rw [pcn, pcn, ih_ (by omega), show b_ + 256 * T = 2 ^ 8 * T + b_ by omega, Nat.testBit_two_pow_mul_add _ (by omega), if_pos (by omega)]
    show pcn (b_ + 256 * T) 8 = pcn b_ 8 + 0
    rw [this 8 (Nat.le_refl _)]; rfl
  | succ n_ ih_ =>
    rw [show 8 + (n_ + 1) = (8 + n_) + 1 by omega, pcn, ih_, show b_ + 256 * T = 2 ^ 8 * T + b_ by omega, Nat.testBit_two_pow_mul_add _ (by omega), if_neg (by omega), show 8 + n_ - 8 = n_ by omega]
    show _ = pcn b_ 8 + (pcn T n_ + (T.testBit n_).toNat)
    omega
def v64a (x_ : Nat) : Nat := x_ - ((x_ / 2) &&& 6148914691236517205)
def v64b (x_ : Nat) : Nat := (x_ &&& 3689348814741910323) + ((x_ / 4) &&& 3689348814741910323)
def v64c (x_ : Nat) : Nat := (x_ + x_ / 16) &&& 1085102592571150095
theorem byt1 : ∀ b_, b_ < 256 → (b_ / 2) &&& 85 ≤ b_ := by decide +kernel
theorem byt2 : ∀ b_, b_ < 256 → b_ - ((b_ / 2) &&& 85) < 256 ∧ ((b_ - ((b_ / 2) &&& 85)) &&& 51) + (((b_ - ((b_ / 2) &&& 85)) / 4) &&& 51) < 69 ∧ (((b_ - ((b_ / 2) &&& 85)) &&& 51) + (((b_ - ((b_ / 2) &&& 85)) / 4) &&& 51)) % 16 ≤ 4 := by decide +kernel
theorem byt3 : ∀ b_, b_ < 256 → ((((b_ - ((b_ / 2) &&& 85)) &&& 51) + (((b_ - ((b_ / 2) &&& 85)) / 4) &&& 51)) + (((b_ - ((b_ / 2) &&& 85)) &&& 51) + (((b_ - ((b_ / 2) &&& 85)) / 4) &&& 51)) / 16) % 16 = pcn b_ 8 ∧ pcn b_ 8 ≤ 8 := by decide +kernel
theorem v64_bytes {l : List Nat} (h8 : l.length = 8) (hl : ∀ b_ ∈ l, b_ < 256) : v64a (bsm l) = bsm (l.map fun b_ => b_ - ((b_ / 2) &&& 85)) ∧ v64b (v64a (bsm l)) = bsm (l.map fun b_ => ((b_ - ((b_ / 2) &&& 85)) &&& 51) + (((b_ - ((b_ / 2) &&& 85)) / 4) &&& 51)) ∧ v64c (v64b (v64a (bsm l))) = bsm (l.map fun b_ => pcn b_ 8) := by
  have a1_ : v64a (bsm l) = bsm (l.map fun b_ => b_ - ((b_ / 2) &&& 85)) := by
    unfold v64a
    rw [show 6148914691236517205 = msq 85 l.length by rw [h8]; rfl, bsm_sh1 l hl]
    have := bsm_sub (f_ := fun b_ => (b_ / 2) &&& 85) l (fun b_ hb_ => byt1 b_ (hl b_ hb_))
    omega
  have a2 : v64b (v64a (bsm l)) = bsm (l.map fun b_ => ((b_ - ((b_ / 2) &&& 85)) &&& 51) + (((b_ - ((b_ / 2) &&& 85)) / 4) &&& 51)) := by
    rw [a1_]
    unfold v64b
    have hm_ : ∀ b_ ∈ l.map (fun b_ => b_ - ((b_ / 2) &&& 85)), b_ < 256 := by
      intro c_ hc_
      obtain ⟨b_, hb_, rfl⟩ := List.mem_map.mp hc_
      exact (byt2 b_ (hl b_ hb_)).1
    have hlen : (l.map fun b_ => b_ - ((b_ / 2) &&& 85)).length = 8 := by rw [List.length_map, h8]
    rw [show 3689348814741910323 = msq 51 (l.map fun b_ => b_ - ((b_ / 2) &&& 85)).length by rw [hlen]; rfl, bsm_and _ hm_, bsm_sh2 _ hm_, List.map_map, List.map_map, bsm_add]
    rfl
  refine ⟨a1_, a2, ?_⟩
  rw [a2]
  unfold v64c
  have hm_ : ∀ b_ ∈ l.map (fun b_ => ((b_ - ((b_ / 2) &&& 85)) &&& 51) + (((b_ - ((b_ / 2) &&& 85)) / 4) &&& 51)), b_ < 69 ∧ b_ % 16 ≤ 4 := by
    intro c_ hc_
    obtain ⟨b_, hb_, rfl⟩ := List.mem_map.mp hc_
    exact (byt2 b_ (hl b_ hb_)).2
  have hlen : (l.map fun b_ => ((b_ - ((b_ / 2) &&& 85)) &&& 51) + (((b_ - ((b_ / 2) &&& 85)) / 4) &&& 51)).length = 8 := by rw [List.length_map, h8]
  rw [show 1085102592571150095 = msq 15 (l.map fun b_ => ((b_ - ((b_ / 2) &&& 85)) &&& 51) + (((b_ - ((b_ / 2) &&& 85)) / 4) &&& 51)).length by rw [hlen]; rfl, bsm_sh4 _ hm_, List.map_map]
  congr 1
  apply List.map_congr_left
  intro b_ hb_
  exact (byt3 b_ (hl b_ hb_)).1
def v64s (x_ k_ : Nat) : Nat := x_ + x_ / k_
theorem v64_dv {L_ R_ K_ : Nat} (h_ : L_ < K_) : v64s (L_ + K_ * R_) K_ = L_ + K_ * R_ + R_ := by
  unfold v64s
  rw [Nat.add_mul_div_left _ _ (by omega), Nat.div_eq_of_lt h_, Nat.zero_add]
theorem v64_w4 {p0_ p1_ p2_ p3_ p4_ p5_ p6_ p7_ x_ : Nat} (c0_ : p0_ ≤ 8) (hx : x_ = p0_ + 256 * (p1_ + 256 * (p2_ + 256 * (p3_ + 256 * (p4_ + 256 * (p5_ + 256 * (p6_ + 256 * (p7_ + 256 * 0)))))))) : v64s x_ 256 = ((p0_ + p1_) + 256 * (p1_ + p2_)) + 65536 * ((p2_ + p3_) + 256 * (p3_ + p4_) + 65536 * ((p4_ + p5_) + 256 * (p5_ + p6_) + 65536 * ((p6_ + p7_) + 256 * p7_))) := by
    rw [hx, v64_dv (by omega)]; clear hx; omega
theorem v64_w5 {p0_ p1_ p2_ p3_ p4_ p5_ p6_ p7_ : Nat} (c0_ : p0_ ≤ 8) (c1_ : p1_ ≤ 8) (c2_ : p2_ ≤ 8) (c3_ : p3_ ≤ 8) (c4_ : p4_ ≤ 8) : v64s (((p0_ + p1_) + 256 * (p1_ + p2_)) + 65536 * ((p2_ + p3_) + 256 * (p3_ + p4_) + 65536 * ((p4_ + p5_) + 256 * (p5_ + p6_) + 65536 * ((p6_ + p7_) + 256 * p7_)))) 65536 = ((p0_ + p1_ + p2_ + p3_) + 256 * (p1_ + p2_ + p3_ + p4_) + 65536 * ((p2_ + p3_ + p4_ + p5_) + 256 * (p3_ + p4_ + p5_ + p6_))) + 4294967296 * ((p4_ + p5_ + p6_ + p7_) + 256 * (p5_ + p6_ + p7_) + 65536 * ((p6_ + p7_) + 256 * p7_)) := by
  rw [v64_dv (by omega)]; omega
theorem v64_w6 {p0_ p1_ p2_ p3_ p4_ p5_ p6_ p7_ : Nat} (c0_ : p0_ ≤ 8) (c1_ : p1_ ≤ 8) (c2_ : p2_ ≤ 8) (c3_ : p3_ ≤ 8) (c4_ : p4_ ≤ 8) (c5_ : p5_ ≤ 8) (c6_ : p6_ ≤ 8) : v64s (((p0_ + p1_ + p2_ + p3_) + 256 * (p1_ + p2_ + p3_ + p4_) + 65536 * ((p2_ + p3_ + p4_ + p5_) + 256 * (p3_ + p4_ + p5_ + p6_))) + 4294967296 * ((p4_ + p5_ + p6_ + p7_) + 256 * (p5_ + p6_ + p7_) + 65536 * ((p6_ + p7_) + 256 * p7_))) 4294967296 = (p0_ + (p1_ + (p2_ + (p3_ + (p4_ + (p5_ + (p6_ + p7_))))))) + 128 * (2 * ((p1_ + p2_ + p3_ + p4_) + (p5_ + p6_ + p7_)) + 512 * (((p2_ + p3_ + p4_ + p5_) + 256 * (p3_ + p4_ + p5_ + p6_)) + ((p6_ + p7_) + 256 * p7_)) + 33554432 * ((p4_ + p5_ + p6_ + p7_) + 256 * (p5_ + p6_ + p7_) + 65536 * ((p6_ + p7_) + 256 * p7_))) := by
  rw [v64_dv (by omega)]; omega
theorem v64_sum {p0_ p1_ p2_ p3_ p4_ p5_ p6_ p7_ : Nat} (c0_ : p0_ ≤ 8) (c1_ : p1_ ≤ 8) (c2_ : p2_ ≤ 8) (c3_ : p3_ ≤ 8) (c4_ : p4_ ≤ 8) (c5_ : p5_ ≤ 8) (c6_ : p6_ ≤ 8) (c7_ : p7_ ≤ 8) {x_ : Nat} (hx : x_ = p0_ + 256 * (p1_ + 256 * (p2_ + 256 * (p3_ + 256 * (p4_ + 256 * (p5_ + 256 * (p6_ + 256 * (p7_ + 256 * 0)))))))) : x_ < 1152921504606846976 ∧ v64s x_ 256 < 2305843009213693952 ∧ v64s (v64s x_ 256) 65536 < 4611686018427387904 ∧ v64s (v64s (v64s x_ 256) 65536) 4294967296 < 9223372036854775808 ∧ v64s (v64s (v64s x_ 256) 65536) 4294967296 % 128 = p0_ + (p1_ + (p2_ + (p3_ + (p4_ + (p5_ + (p6_ + p7_)))))) ∧ p0_ + (p1_ + (p2_ + (p3_ + (p4_ + (p5_ + (p6_ + p7_)))))) ≤ 64 := by
  have bx : x_ < 1152921504606846976 := by omega
  rw [v64_w4 c0_ hx, v64_w5 c0_ c1_ c2_ c3_ c4_, v64_w6 c0_ c1_ c2_ c3_ c4_ c5_ c6_]
  clear hx
  refine ⟨bx, by omega, by omega, by omega, ?_, by omega⟩
  rw [Nat.add_mul_mod_self_left]
  exact Nat.mod_eq_of_lt (by omega)
theorem v64_kk {p0_ p1_ p2_ p3_ p4_ p5_ p6_ p7_ x_ : Nat} (c0_ : p0_ < 69) (c1_ : p1_ < 69) (c2_ : p2_ < 69) (c3_ : p3_ < 69) (c4_ : p4_ < 69) (c5_ : p5_ < 69) (c6_ : p6_ < 69) (c7_ : p7_ < 69) (hx : x_ = p0_ + 256 * (p1_ + 256 * (p2_ + 256 * (p3_ + 256 * (p4_ + 256 * (p5_ + 256 * (p6_ + 256 * (p7_ + 256 * 0)))))))) : x_ < 9223372036854775808 ∧ x_ + x_ / 16 < 18446744073709551616 := by
  have h_ : x_ ≤ 5000000000000000000 := by omega
  clear hx
  refine ⟨?_, ?_⟩
  · omega
  · omega
theorem v64_fin {x_ : Nat} (hx : x_ < 18446744073709551616) : (x_ / 2) &&& 6148914691236517205 ≤ x_ ∧ v64a x_ < 18446744073709551616 ∧ v64b (v64a x_) < 9223372036854775808 ∧ v64b (v64a x_) + v64b (v64a x_) / 16 < 18446744073709551616 ∧ v64c (v64b (v64a x_)) < 1152921504606846976 ∧ v64s (v64c (v64b (v64a x_))) 256 < 2305843009213693952 ∧ v64s (v64s (v64c (v64b (v64a x_))) 256) 65536 < 4611686018427387904 ∧ v64s (v64s (v64s (v64c (v64b (v64a x_))) 256) 65536) 4294967296 < 9223372036854775808 ∧ v64s (v64s (v64s (v64c (v64b (v64a x_))) 256) 65536) 4294967296 % 128 = pcn x_ 64 ∧ pcn x_ 64 ≤ 64 := by
  obtain ⟨l, h8, hl, rfl⟩ := bsm_of 8 x_ (show x_ < 256 ^ 8 from hx)
  obtain ⟨e1_, e2_, e3_⟩ := v64_bytes h8 hl
  have q0 : (bsm l / 2) &&& 6148914691236517205 ≤ bsm l := by
    have := bsm_sub (f_ := fun b_ => (b_ / 2) &&& 85) l (fun b_ hb_ => byt1 b_ (hl b_ hb_))
    rw [show 6148914691236517205 = msq 85 l.length by rw [h8]; rfl, bsm_sh1 l hl]; omega
  have q1_ : v64a (bsm l) < 18446744073709551616 := by unfold v64a; omega
  rw [e3_, e2_]
  match l, h8 with
  | [b0, b1, b2, b3, b4, b5, b6, b7], _ =>
    have g0 := hl b0 (by simp)
    have g1 := hl b1 (by simp)
    have g2 := hl b2 (by simp)
    have g3_ := hl b3 (by simp)
    have g4 := hl b4 (by simp)
    have g5_ := hl b5 (by simp)
    have g6 := hl b6 (by simp)
    have g7 := hl b7 (by simp)
    have P_ : pcn (bsm [b0, b1, b2, b3, b4, b5, b6, b7]) 64 = pcn b0 8 + (pcn b1 8 + (pcn b2 8 + (pcn b3 8 + (pcn b4 8 + (pcn b5 8 + (pcn b6 8 + pcn b7 8)))))) := by
      have := fun {b_ T : Nat} (hb_ : b_ < 256) n_ => pcn_byte (b_ := b_) (T := T) hb_ n_
      rw [bsm, show 64 = 8 + 56 from rfl, pcn_byte g0, bsm, show 56 = 8 + 48 from rfl, pcn_byte g1, bsm, show 48 = 8 + 40 from rfl, pcn_byte g2, bsm, show 40 = 8 + 32 from rfl, pcn_byte g3_, bsm, show 32 = 8 + 24 from rfl, pcn_byte g4, bsm, show 24 = 8 + 16 from rfl, pcn_byte g5_, bsm, show 16 = 8 + 8 from rfl, pcn_byte g6, bsm, show (8 : Nat) = 8 + 0 from rfl, pcn_byte g7]
      rfl
    rw [P_]
    refine ⟨q0, q1_, ?_⟩
    have d_ := fun b_ hb_ => (byt2 b_ hb_).2
    have d0_ := d_ b0 g0
    have d1_ := d_ b1 g1
    have d2_ := d_ b2 g2
    have d3_ := d_ b3 g3_
    have d4_ := d_ b4 g4
    have d5_ := d_ b5 g5_
    have d6_ := d_ b6 g6
    have d7_ := d_ b7 g7
    have c0_ := (byt3 b0 g0).2
    have c1_ := (byt3 b1 g1).2
    have c2_ := (byt3 b2 g2).2
    have c3_ := (byt3 b3 g3_).2
    have c4_ := (byt3 b4 g4).2
    have c5_ := (byt3 b5 g5_).2
    have c6_ := (byt3 b6 g6).2
    have c7_ := (byt3 b7 g7).2
    obtain ⟨r1_, r2, r3, r4, r5_, r6⟩ := v64_sum c0_ c1_ c2_ c3_ c4_ c5_ c6_ c7_ (x_ := bsm (List.map (fun b_ => pcn b_ 8) [b0, b1, b2, b3, b4, b5, b6, b7])) (by simp only [List.map_cons, List.map_nil, bsm])
    obtain ⟨t1_, t2_⟩ := v64_kk d0_.1 d1_.1 d2_.1 d3_.1 d4_.1 d5_.1 d6_.1 d7_.1 (x_ := bsm (List.map (fun b_ => ((b_ - ((b_ / 2) &&& 85)) &&& 51) + (((b_ - ((b_ / 2) &&& 85)) / 4) &&& 51)) [b0, b1, b2, b3, b4, b5, b6, b7])) (by simp only [List.map_cons, List.map_nil, bsm])
    exact ⟨t1_, t2_, r1_, r2, r3, r4, r5_, r6⟩
def n64 (x_ : Int64) : Nat := x_.toUInt64.toNat
theorem n64_lt (x_ : Int64) : n64 x_ < 18446744073709551616 := x_.toUInt64.toNat_lt
theorem n64_add {x_ y_ : Int64} (h_ : n64 x_ + n64 y_ < 18446744073709551616) : n64 (x_ + y_) = n64 x_ + n64 y_ := by
  unfold n64
  rw [Int64.toUInt64_add, UInt64.toNat_add]
  exact Nat.mod_eq_of_lt h_
theorem n64_sub {x_ y_ : Int64} (h_ : n64 y_ ≤ n64 x_) : n64 (x_ - y_) = n64 x_ - n64 y_ := by
  unfold n64
  rw [Int64.toUInt64_sub, UInt64.toNat_sub_of_le _ _ (UInt64.le_iff_toNat_le.mpr h_)]
theorem n64_and (x_ y_ : Int64) : n64 (x_ &&& y_) = n64 x_ &&& n64 y_ := by
  unfold n64
  rw [Int64.toUInt64_and, UInt64.toNat_and]
theorem n64_shr {x_ : Int64} {c_ : UInt64} {k_ : Nat} (hc_ : c_.toNat % 64 = k_) : n64 (x_.toUInt64 >>> c_).toInt64 = n64 x_ / 2 ^ k_ := by
  unfold n64
  rw [UInt64.toUInt64_toInt64, UInt64.toNat_shiftRight, hc_, Nat.shiftRight_eq_div_pow]
theorem n64_last {x_ : Int64} : x_.toInt32 &&& (127 : Int32) = Int32.ofNat (n64 x_ % 128) := by
  apply Int32.toBitVec_inj.mp
  rw [Int32.toBitVec_and, Int64.toBitVec_toInt32, BitVec.signExtend_eq_setWidth_of_le _ (by decide), Int32.toBitVec_ofNat']
  apply BitVec.eq_of_toNat_eq
  rw [BitVec.toNat_and, BitVec.toNat_setWidth, BitVec.toNat_ofNat, Int64.toNat_toBitVec]
  show x_.toUInt64.toNat % 2 ^ 32 &&& (2 ^ 7 - 1) = n64 x_ % 128 % 2 ^ 32
  rw [Nat.and_two_pow_sub_one_eq_mod]
  unfold n64
  omega
theorem popc (h_ : hp) (x_ : Int64) : f_J13_bitCount_95d88 h_ x_ = some (nI (pcn (n64 x_) 64)) := by
  obtain ⟨q1_, q2_, q3_, q4_, q5_, q6_, q7_, q8_, q9_, -⟩ := v64_fin (n64_lt x_)
  have m5_ : n64 (6148914691236517205 : Int64) = 6148914691236517205 := rfl
  have m3_ : n64 (3689348814741910323 : Int64) = 3689348814741910323 := rfl
  have mf : n64 (1085102592571150095 : Int64) = 1085102592571150095 := rfl
  unfold f_J13_bitCount_95d88
  rw [nm_eq]
  have e1_ : n64 (x_ - ((x_.toUInt64 >>> (((1 : Int32)).toInt64.toUInt64 &&& Int64.toUInt64 63)).toInt64 &&& (6148914691236517205 : Int64))) = v64a (n64 x_) := by
    rw [n64_sub (by rw [n64_and, n64_shr (k_ := 1) rfl, m5_]; exact q1_), n64_and, n64_shr (k_ := 1) rfl, m5_]; rfl
  generalize x_ - ((x_.toUInt64 >>> (((1 : Int32)).toInt64.toUInt64 &&& Int64.toUInt64 63)).toInt64 &&& (6148914691236517205 : Int64)) = y1 at e1_ ⊢
  rw [nm_eq]
  have e2_ : n64 ((y1 &&& (3689348814741910323 : Int64)) + ((y1.toUInt64 >>> (((2 : Int32)).toInt64.toUInt64 &&& Int64.toUInt64 63)).toInt64 &&& (3689348814741910323 : Int64))) = v64b (v64a (n64 x_)) := by
    have e_ : n64 (y1 &&& (3689348814741910323 : Int64)) + n64 ((y1.toUInt64 >>> (((2 : Int32)).toInt64.toUInt64 &&& Int64.toUInt64 63)).toInt64 &&& (3689348814741910323 : Int64)) = v64b (v64a (n64 x_)) := by
      rw [n64_and, n64_and, n64_shr (k_ := 2) rfl, m3_, e1_]; rfl
    rw [n64_add (by rw [e_]; omega), e_]
  generalize (y1 &&& (3689348814741910323 : Int64)) + ((y1.toUInt64 >>> (((2 : Int32)).toInt64.toUInt64 &&& Int64.toUInt64 63)).toInt64 &&& (3689348814741910323 : Int64)) = y2 at e2_ ⊢
  rw [nm_eq]
  have e3_ : n64 ((y2 + (y2.toUInt64 >>> (((4 : Int32)).toInt64.toUInt64 &&& Int64.toUInt64 63)).toInt64) &&& (1085102592571150095 : Int64)) = v64c (v64b (v64a (n64 x_))) := by
    rw [n64_and, n64_add (by rw [n64_shr (k_ := 4) rfl, e2_]; exact q4_), n64_shr (k_ := 4) rfl, e2_, mf]; rfl
  generalize (y2 + (y2.toUInt64 >>> (((4 : Int32)).toInt64.toUInt64 &&& Int64.toUInt64 63)).toInt64) &&& (1085102592571150095 : Int64) = y3 at e3_ ⊢
  rw [nm_eq]
  generalize v64c (v64b (v64a (n64 x_))) = c_ at *
  have e4_ : n64 (y3 + (y3.toUInt64 >>> (((8 : Int32)).toInt64.toUInt64 &&& Int64.toUInt64 63)).toInt64) = v64s c_ 256 := by
    have e_ : n64 y3 + n64 (y3.toUInt64 >>> (((8 : Int32)).toInt64.toUInt64 &&& Int64.toUInt64 63)).toInt64 = v64s c_ 256 := by rw [n64_shr (k_ := 8) rfl, e3_]; rfl
    rw [n64_add (by rw [e_]; omega), e_]
  generalize y3 + (y3.toUInt64 >>> (((8 : Int32)).toInt64.toUInt64 &&& Int64.toUInt64 63)).toInt64 = y4 at e4_ ⊢
  rw [nm_eq]
  have e5_ : n64 (y4 + (y4.toUInt64 >>> (((16 : Int32)).toInt64.toUInt64 &&& Int64.toUInt64 63)).toInt64) = v64s (v64s c_ 256) 65536 := by
    have e_ : n64 y4 + n64 (y4.toUInt64 >>> (((16 : Int32)).toInt64.toUInt64 &&& Int64.toUInt64 63)).toInt64 = v64s (v64s c_ 256) 65536 := by rw [n64_shr (k_ := 16) rfl, e4_]; rfl
    rw [n64_add (by rw [e_]; omega), e_]
  generalize y4 + (y4.toUInt64 >>> (((16 : Int32)).toInt64.toUInt64 &&& Int64.toUInt64 63)).toInt64 = y5 at e5_ ⊢
  rw [nm_eq]
  have e6_ : n64 (y5 + (y5.toUInt64 >>> (((32 : Int32)).toInt64.toUInt64 &&& Int64.toUInt64 63)).toInt64) = v64s (v64s (v64s c_ 256) 65536) 4294967296 := by
    have e_ : n64 y5 + n64 (y5.toUInt64 >>> (((32 : Int32)).toInt64.toUInt64 &&& Int64.toUInt64 63)).toInt64 = v64s (v64s (v64s c_ 256) 65536) 4294967296 := by rw [n64_shr (k_ := 32) rfl, e5_]; rfl
    rw [n64_add (by rw [e_]; omega), e_]
  generalize y5 + (y5.toUInt64 >>> (((32 : Int32)).toInt64.toUInt64 &&& Int64.toUInt64 63)).toInt64 = y6 at e6_ ⊢
  rw [n64_last, e6_, q9_]; rfl
