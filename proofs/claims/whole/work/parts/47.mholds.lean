-- ===== a clause's test: the reference's way (the pile) =====
def scrM (h h' : hp) : Prop := h'.1 = h.1 ∧ h'.2.1 = h.2.1 ∧ (∀ a, a ≠ 67 → a ≠ 68 → a ≠ 69 → a ≠ 70 → aI h' a = aI h a) ∧ (∀ a, a ≠ 90 → aL h' a = aL h a) ∧ h'.2.2.2.2 = h.2.2.2.2
theorem scrM.rf {h : hp} : scrM h h := ⟨rfl, rfl, fun _ _ _ _ _ => rfl, fun _ _ => rfl, rfl⟩
theorem scrM.tr {h h1 h2 : hp} (a : scrM h h1) (b : scrM h1 h2) : scrM h h2 := ⟨b.1.trans a.1, b.2.1.trans a.2.1, fun i h1 h2 h3 h4 => (b.2.2.1 i h1 h2 h3 h4).trans (a.2.2.1 i h1 h2 h3 h4), fun i h1 => (b.2.2.2.1 i h1).trans (a.2.2.2.1 i h1), b.2.2.2.2.trans a.2.2.2.2⟩
theorem scrM_tI {h : hp} {a k : Nat} {v : Int32} (ha : a = 67 ∨ a = 68 ∨ a = 69 ∨ a = 70) : scrM h (tI h a k v) := ⟨rfl, rfl, fun i h1 h2 h3 h4 => by funext j; rw [aI_tI, if_neg (by omega)], fun _ _ => rfl, rfl⟩
def pil (h : hp) (st : List Bool) : Prop := ∀ i, i < st.length → aI h 67 i = b01 (st.getD (st.length - 1 - i) false)
theorem pil_tail {h : hp} {a : Bool} {r : List Bool} (hp : pil h (a :: r)) : pil h r := by
  intro i hi
  have := hp i (by simp only [List.length_cons]; omega)
  rw [this]
  obtain ⟨m, hm⟩ : ∃ m, r.length - i = m + 1 := ⟨r.length - i - 1, by omega⟩
  have e1 : (a :: r).length - 1 - i = m + 1 := by simp only [List.length_cons]; omega
  have e2 : r.length - 1 - i = m := by omega
  rw [e1, e2]; rfl
theorem pil_top {h : hp} {a : Bool} {r : List Bool} (hp : pil h (a :: r)) : aI h 67 r.length = b01 a := by
  have := hp r.length (by simp)
  rw [this, show (a :: r).length - 1 - r.length = 0 by simp only [List.length_cons]; omega]; rfl
theorem pil_set {h : hp} {x : Bool} {r : List Bool} (hp : pil h r) : pil (tI h 67 r.length (b01 x)) (x :: r) := by
  intro i hi
  simp only [List.length_cons] at hi
  rw [aI_tI]
  by_cases h1 : i = r.length
  · subst h1
    rw [if_pos ⟨rfl, rfl⟩, show (x :: r).length - 1 - r.length = 0 by simp only [List.length_cons]; omega]; rfl
  · rw [if_neg (by rintro ⟨-, h⟩; exact h1 h), hp i (by omega)]
    obtain ⟨m, hm⟩ : ∃ m, r.length - i = m + 1 := ⟨r.length - i - 1, by omega⟩
    have e1 : (x :: r).length - 1 - i = m + 1 := by simp only [List.length_cons]; omega
    have e2 : r.length - 1 - i = m := by omega
    rw [e1, e2]; rfl
theorem nar_b (b : Bool) : vp_nar .boolean (b01 b) = b01 b := by cases b <;> rfl
theorem M_147 {k11 : hp → Int32 → Int32 → Int32 → Int32 → Int32 → Option (hp × Int32)} {h : hp} {a b c : Int32} {l o : Nat} {x : Bool} (hl : l < 100) : f_X12_holds_147 k11 h a b c (nI (l + 1)) (nI o) (b01 x) (nI l) = k11 (tI h 67 l (b01 x)) a b c (nI (l + 1)) (nI (o + 1)) := by
  unfold f_X12_holds_147 f_X12_holds_247
  rw [chk_of (vp_in_nI hl (by decide)), nm_eq, nm_eq, nar_b, nI_clamp (by omega), nI_1]
theorem M_63 {k11 : hp → Int32 → Int32 → Int32 → Int32 → Int32 → Option (hp × Int32)} {h : hp} {a b c : Int32} {l o : Nat} {x : Bool} (hl : l < 100) : f_X12_holds_63 k11 h a b c (nI (l + 1)) (nI o) (b01 x) (nI l) = k11 (tI h 67 l (b01 x)) a b c (nI (l + 1)) (nI (o + 1)) := by
  unfold f_X12_holds_63 f_X12_holds_247
  rw [chk_of (vp_in_nI hl (by decide)), nm_eq, nm_eq, nar_b, nI_clamp (by omega), nI_1]
theorem M_243 {k11 : hp → Int32 → Int32 → Int32 → Int32 → Int32 → Option (hp × Int32)} {h : hp} {a b c : Int32} {l o : Nat} {x : Bool} (hl : l < 100) : f_X12_holds_243 k11 h a b c (nI l) (nI o) (b01 x) (nI l) = k11 (tI h 67 l (b01 x)) a b c (nI (l + 1)) (nI (o + 1)) := by
  unfold f_X12_holds_243 f_X12_holds_247
  rw [chk_of (vp_in_nI hl (by decide)), nm_eq, nm_eq, nm_eq, nar_b, nI_clamp (by omega), nI_1, nI_1]
theorem stepM_test {c : Nat} (h : c < 1800) : stepM c = nI (1000 * (c / 300) + 100 * (c / 100 % 3) + c % 100) := by
  unfold stepM
  rw [if_neg (by omega), if_neg (by omega), if_neg (by omega)]
