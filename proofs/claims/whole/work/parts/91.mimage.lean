-- ===== the reference's image, and back_ =====
def agK (Q_ : Nat → Prop) (h_ h' : hp) : Prop := h'.1 = h_.1 ∧ h'.2.1 = h_.2.1 ∧ h'.2.2.2 = h_.2.2.2 ∧ ∀ a_, ¬ Q_ a_ → aI h' a_ = aI h_ a_
theorem agK.rf {Q_ : Nat → Prop} {h_ : hp} : agK Q_ h_ h_ := ⟨rfl, rfl, rfl, fun _ _ => rfl⟩
theorem agK.tr {Q_ : Nat → Prop} {h_ h1 h2 : hp} (x_ : agK Q_ h_ h1) (y_ : agK Q_ h1 h2) : agK Q_ h_ h2 := ⟨y_.1.trans x_.1, y_.2.1.trans x_.2.1, y_.2.2.1.trans x_.2.2.1, fun a_ ha_ => (y_.2.2.2 a_ ha_).trans (x_.2.2.2 a_ ha_)⟩
theorem agK_tI {Q_ : Nat → Prop} {h_ : hp} {i_ k_ : Nat} {v_ : Int32} (hq : Q_ i_) : agK Q_ h_ (tI h_ i_ k_ v_) := ⟨rfl, rfl, rfl, fun a_ ha_ => by funext b_; rw [aI_tI, if_neg (by rintro ⟨rfl, -⟩; exact ha_ hq)]⟩
theorem M_image_lp1 {h0 : hp} : ∀ m_ k_ n_ h_, k_ + m_ = 5 → m_ < n_ → agK (fun a_ => a_ = 77 ∨ a_ = 78 ∨ a_ = 79 ∨ a_ = 81 ∨ a_ = 82) h0 h_ → (∀ j_, j_ < k_ → aI h_ 77 j_ = aI h0 54 j_ ∧ aI h_ 78 j_ = aI h0 55 j_ ∧ aI h_ 79 j_ = aI h0 56 j_ ∧ aI h_ 81 j_ = aI h0 71 j_ ∧ aI h_ 82 j_ = aI h0 72 j_) → ∃ h', f_X12_image_63 n_ h_ (nI k_) = f_X12_image_136 2000 h' (0 : Int32) ∧ agK (fun a_ => a_ = 77 ∨ a_ = 78 ∨ a_ = 79 ∨ a_ = 81 ∨ a_ = 82) h0 h' ∧ ∀ j_, j_ < 5 → aI h' 77 j_ = aI h0 54 j_ ∧ aI h' 78 j_ = aI h0 55 j_ ∧ aI h' 79 j_ = aI h0 56 j_ ∧ aI h' 81 j_ = aI h0 71 j_ ∧ aI h' 82 j_ = aI h0 72 j_ := by
  intro m_
  induction m_ with
  | zero =>
    intro k_ n_ h_ g1 g2 x_ g3_
    obtain ⟨n_, rfl⟩ : ∃ j_, n_ = j_ + 1 := ⟨n_ - 1, by omega⟩
    refine ⟨h_, ?_, x_, fun j_ hj => g3_ j_ (by omega)⟩
    rw [f_X12_image_63, if_neg (show ¬ nI k_ < (5 : Int32) from nI_nlt (b := 5) (by omega) (by omega))]
  | succ m_ ih_ =>
    intro k_ n_ h_ g1 g2 x_ g3_
    obtain ⟨n_, rfl⟩ : ∃ j_, n_ = j_ + 1 := ⟨n_ - 1, by omega⟩
    have hin : vp_in (nI k_) 5 := vp_in_nI (by omega) (by decide)
    rw [f_X12_image_63, if_pos (show nI k_ < (5 : Int32) from nI_lt (b := 5) (by omega) (by decide))]
    rw [nI_clamp (n := k_) (by omega)]
    rw [chk_of hin, chk_of hin, nm_eq]
    rw [chk_of hin, chk_of hin, nm_eq]
    rw [chk_of hin, chk_of hin, nm_eq]
    rw [chk_of hin, chk_of hin, nm_eq]
    rw [chk_of hin, chk_of hin, nm_eq]
    rw [nm_eq, nI_1]
    have hh : ∀ z_, z_ = (tI (tI (tI (tI (tI h_ 77 k_ (aI h_ 54 k_)) 78 k_ (aI h_ 55 k_)) 79 k_ (aI h_ 56 k_)) 81 k_ (aI h_ 71 k_)) 82 k_ (aI h_ 72 k_)) → ∃ h', f_X12_image_63 n_ z_ (nI (k_ + 1)) = f_X12_image_136 2000 h' (0 : Int32) ∧ agK (fun a_ => a_ = 77 ∨ a_ = 78 ∨ a_ = 79 ∨ a_ = 81 ∨ a_ = 82) h0 h' ∧ ∀ j_, j_ < 5 → aI h' 77 j_ = aI h0 54 j_ ∧ aI h' 78 j_ = aI h0 55 j_ ∧ aI h' 79 j_ = aI h0 56 j_ ∧ aI h' 81 j_ = aI h0 71 j_ ∧ aI h' 82 j_ = aI h0 72 j_ := by
      intro z_ hz
      refine ih_ (k_ + 1) n_ z_ (by omega) (by omega) (x_.tr ?_) (fun j_ hj => ?_)
      · rw [hz]
        exact (((((agK_tI (by omega)).tr (agK_tI (by omega))).tr (agK_tI (by omega))).tr (agK_tI (by omega))).tr (agK_tI (by omega)))
      · have e_ : ∀ a_, (a_ = 54 ∨ a_ = 55 ∨ a_ = 56 ∨ a_ = 71 ∨ a_ = 72) → aI h_ a_ = aI h0 a_ := fun a_ ha_ => x_.2.2.2 a_ (by omega)
        rw [hz]
        refine ⟨?_, ?_, ?_, ?_, ?_⟩
        · show (if 77 = 77 ∧ j_ = k_ then aI h_ 54 k_ else aI h_ 77 j_) = aI h0 54 j_
          by_cases ej : j_ = k_
          · rw [if_pos ⟨rfl, ej⟩, ej, e_ 54 (by omega)]
          · rw [if_neg (by rintro ⟨-, hh⟩; exact ej hh)]; exact (g3_ j_ (by omega)).1
        · show (if 78 = 78 ∧ j_ = k_ then aI h_ 55 k_ else aI h_ 78 j_) = aI h0 55 j_
          by_cases ej : j_ = k_
          · rw [if_pos ⟨rfl, ej⟩, ej, e_ 55 (by omega)]
          · rw [if_neg (by rintro ⟨-, hh⟩; exact ej hh)]; exact (g3_ j_ (by omega)).2.1
        · show (if 79 = 79 ∧ j_ = k_ then aI h_ 56 k_ else aI h_ 79 j_) = aI h0 56 j_
          by_cases ej : j_ = k_
          · rw [if_pos ⟨rfl, ej⟩, ej, e_ 56 (by omega)]
          · rw [if_neg (by rintro ⟨-, hh⟩; exact ej hh)]; exact (g3_ j_ (by omega)).2.2.1
        · show (if 81 = 81 ∧ j_ = k_ then aI h_ 71 k_ else aI h_ 81 j_) = aI h0 71 j_
          by_cases ej : j_ = k_
          · rw [if_pos ⟨rfl, ej⟩, ej, e_ 71 (by omega)]
          · rw [if_neg (by rintro ⟨-, hh⟩; exact ej hh)]; exact (g3_ j_ (by omega)).2.2.2.1
        · show (if 82 = 82 ∧ j_ = k_ then aI h_ 72 k_ else aI h_ 82 j_) = aI h0 72 j_
          by_cases ej : j_ = k_
          · rw [if_pos ⟨rfl, ej⟩, ej, e_ 72 (by omega)]
          · rw [if_neg (by rintro ⟨-, hh⟩; exact ej hh)]; exact (g3_ j_ (by omega)).2.2.2.2
    exact hh _ rfl
theorem M_image_lp2 {h0 : hp} : ∀ m_ k_ n_ h_, k_ + m_ = 20 → m_ < n_ → agK (fun a_ => a_ = 80) h0 h_ → (∀ j_, j_ < k_ → aI h_ 80 j_ = aI h0 57 j_) → ∃ h', f_X12_image_136 n_ h_ (nI k_) = f_X12_image_162 2000 h' (0 : Int32) ∧ agK (fun a_ => a_ = 80) h0 h' ∧ ∀ j_, j_ < 20 → aI h' 80 j_ = aI h0 57 j_ := by
  intro m_
  induction m_ with
  | zero =>
    intro k_ n_ h_ g1 g2 x_ g3_
    obtain ⟨n_, rfl⟩ : ∃ j_, n_ = j_ + 1 := ⟨n_ - 1, by omega⟩
    refine ⟨h_, ?_, x_, fun j_ hj => g3_ j_ (by omega)⟩
    rw [f_X12_image_136, if_neg (show ¬ nI k_ < (20 : Int32) from nI_nlt (b := 20) (by omega) (by omega))]
  | succ m_ ih_ =>
    intro k_ n_ h_ g1 g2 x_ g3_
    obtain ⟨n_, rfl⟩ : ∃ j_, n_ = j_ + 1 := ⟨n_ - 1, by omega⟩
    have hin : vp_in (nI k_) 20 := vp_in_nI (by omega) (by decide)
    rw [f_X12_image_136, if_pos (show nI k_ < (20 : Int32) from nI_lt (b := 20) (by omega) (by decide))]
    rw [nI_clamp (n := k_) (by omega)]
    rw [chk_of hin, chk_of hin, nm_eq]
    rw [nm_eq, nI_1]
    have hh : ∀ z_, z_ = (tI h_ 80 k_ (aI h_ 57 k_)) → ∃ h', f_X12_image_136 n_ z_ (nI (k_ + 1)) = f_X12_image_162 2000 h' (0 : Int32) ∧ agK (fun a_ => a_ = 80) h0 h' ∧ ∀ j_, j_ < 20 → aI h' 80 j_ = aI h0 57 j_ := by
      intro z_ hz
      refine ih_ (k_ + 1) n_ z_ (by omega) (by omega) (x_.tr ?_) (fun j_ hj => ?_)
      · rw [hz]
        exact (agK_tI (by omega))
      · have e_ : ∀ a_, (a_ = 57) → aI h_ a_ = aI h0 a_ := fun a_ ha_ => x_.2.2.2 a_ (by omega)
        rw [hz]
        show (if 80 = 80 ∧ j_ = k_ then aI h_ 57 k_ else aI h_ 80 j_) = aI h0 57 j_
        by_cases ej : j_ = k_
        · rw [if_pos ⟨rfl, ej⟩, ej, e_ 57 (by omega)]
        · rw [if_neg (by rintro ⟨-, hh⟩; exact ej hh)]; exact (g3_ j_ (by omega))
    exact hh _ rfl
theorem M_image_lp3 {h0 : hp} : ∀ m_ k_ n_ h_, k_ + m_ = 8 → m_ < n_ → agK (fun a_ => a_ = 76 ∨ a_ = 83 ∨ a_ = 84 ∨ a_ = 85) h0 h_ → (∀ j_, j_ < k_ → aI h_ 76 j_ = aI h0 53 j_ ∧ aI h_ 83 j_ = aI h0 73 j_ ∧ aI h_ 84 j_ = aI h0 74 j_ ∧ aI h_ 85 j_ = aI h0 75 j_) → ∃ h', f_X12_image_162 n_ h_ (nI k_) = some (h', hI h' 52 1) ∧ agK (fun a_ => a_ = 76 ∨ a_ = 83 ∨ a_ = 84 ∨ a_ = 85) h0 h' ∧ ∀ j_, j_ < 8 → aI h' 76 j_ = aI h0 53 j_ ∧ aI h' 83 j_ = aI h0 73 j_ ∧ aI h' 84 j_ = aI h0 74 j_ ∧ aI h' 85 j_ = aI h0 75 j_ := by
  intro m_
  induction m_ with
  | zero =>
    intro k_ n_ h_ g1 g2 x_ g3_
    obtain ⟨n_, rfl⟩ : ∃ j_, n_ = j_ + 1 := ⟨n_ - 1, by omega⟩
    refine ⟨h_, ?_, x_, fun j_ hj => g3_ j_ (by omega)⟩
    rw [f_X12_image_162, if_neg (show ¬ nI k_ < (8 : Int32) from nI_nlt (b := 8) (by omega) (by omega))]
  | succ m_ ih_ =>
    intro k_ n_ h_ g1 g2 x_ g3_
    obtain ⟨n_, rfl⟩ : ∃ j_, n_ = j_ + 1 := ⟨n_ - 1, by omega⟩
    have hin : vp_in (nI k_) 8 := vp_in_nI (by omega) (by decide)
    rw [f_X12_image_162, if_pos (show nI k_ < (8 : Int32) from nI_lt (b := 8) (by omega) (by decide))]
    rw [nI_clamp (n := k_) (by omega)]
    rw [chk_of hin, chk_of hin, nm_eq]
    rw [chk_of hin, chk_of hin, nm_eq]
    rw [chk_of hin, chk_of hin, nm_eq]
    rw [chk_of hin, chk_of hin, nm_eq]
    rw [nm_eq, nI_1]
    have hh : ∀ z_, z_ = (tI (tI (tI (tI h_ 76 k_ (aI h_ 53 k_)) 83 k_ (aI h_ 73 k_)) 84 k_ (aI h_ 74 k_)) 85 k_ (aI h_ 75 k_)) → ∃ h', f_X12_image_162 n_ z_ (nI (k_ + 1)) = some (h', hI h' 52 1) ∧ agK (fun a_ => a_ = 76 ∨ a_ = 83 ∨ a_ = 84 ∨ a_ = 85) h0 h' ∧ ∀ j_, j_ < 8 → aI h' 76 j_ = aI h0 53 j_ ∧ aI h' 83 j_ = aI h0 73 j_ ∧ aI h' 84 j_ = aI h0 74 j_ ∧ aI h' 85 j_ = aI h0 75 j_ := by
      intro z_ hz
      refine ih_ (k_ + 1) n_ z_ (by omega) (by omega) (x_.tr ?_) (fun j_ hj => ?_)
      · rw [hz]
        exact ((((agK_tI (by omega)).tr (agK_tI (by omega))).tr (agK_tI (by omega))).tr (agK_tI (by omega)))
      · have e_ : ∀ a_, (a_ = 53 ∨ a_ = 73 ∨ a_ = 74 ∨ a_ = 75) → aI h_ a_ = aI h0 a_ := fun a_ ha_ => x_.2.2.2 a_ (by omega)
        rw [hz]
        refine ⟨?_, ?_, ?_, ?_⟩
        · show (if 76 = 76 ∧ j_ = k_ then aI h_ 53 k_ else aI h_ 76 j_) = aI h0 53 j_
          by_cases ej : j_ = k_
          · rw [if_pos ⟨rfl, ej⟩, ej, e_ 53 (by omega)]
          · rw [if_neg (by rintro ⟨-, hh⟩; exact ej hh)]; exact (g3_ j_ (by omega)).1
        · show (if 83 = 83 ∧ j_ = k_ then aI h_ 73 k_ else aI h_ 83 j_) = aI h0 73 j_
          by_cases ej : j_ = k_
          · rw [if_pos ⟨rfl, ej⟩, ej, e_ 73 (by omega)]
          · rw [if_neg (by rintro ⟨-, hh⟩; exact ej hh)]; exact (g3_ j_ (by omega)).2.1
        · show (if 84 = 84 ∧ j_ = k_ then aI h_ 74 k_ else aI h_ 84 j_) = aI h0 74 j_
          by_cases ej : j_ = k_
          · rw [if_pos ⟨rfl, ej⟩, ej, e_ 74 (by omega)]
          · rw [if_neg (by rintro ⟨-, hh⟩; exact ej hh)]; exact (g3_ j_ (by omega)).2.2.1
        · show (if 85 = 85 ∧ j_ = k_ then aI h_ 75 k_ else aI h_ 85 j_) = aI h0 75 j_
          by_cases ej : j_ = k_
          · rw [if_pos ⟨rfl, ej⟩, ej, e_ 75 (by omega)]
          · rw [if_neg (by rintro ⟨-, hh⟩; exact ej hh)]; exact (g3_ j_ (by omega)).2.2.2
    exact hh _ rfl
theorem M_undo_lp1 {h0 : hp} : ∀ m_ k_ n_ h_, k_ + m_ = 5 → m_ < n_ → agK (fun a_ => a_ = 54 ∨ a_ = 55 ∨ a_ = 56 ∨ a_ = 71 ∨ a_ = 72) h0 h_ → (∀ j_, j_ < k_ → aI h_ 54 j_ = aI h0 77 j_ ∧ aI h_ 55 j_ = aI h0 78 j_ ∧ aI h_ 56 j_ = aI h0 79 j_ ∧ aI h_ 71 j_ = aI h0 81 j_ ∧ aI h_ 72 j_ = aI h0 82 j_) → ∃ h', f_X12_undo_68 n_ h_ (nI k_) = f_X12_undo_141 2000 h' (0 : Int32) ∧ agK (fun a_ => a_ = 54 ∨ a_ = 55 ∨ a_ = 56 ∨ a_ = 71 ∨ a_ = 72) h0 h' ∧ ∀ j_, j_ < 5 → aI h' 54 j_ = aI h0 77 j_ ∧ aI h' 55 j_ = aI h0 78 j_ ∧ aI h' 56 j_ = aI h0 79 j_ ∧ aI h' 71 j_ = aI h0 81 j_ ∧ aI h' 72 j_ = aI h0 82 j_ := by
  intro m_
  induction m_ with
  | zero =>
    intro k_ n_ h_ g1 g2 x_ g3_
    obtain ⟨n_, rfl⟩ : ∃ j_, n_ = j_ + 1 := ⟨n_ - 1, by omega⟩
    refine ⟨h_, ?_, x_, fun j_ hj => g3_ j_ (by omega)⟩
    rw [f_X12_undo_68, if_neg (show ¬ nI k_ < (5 : Int32) from nI_nlt (b := 5) (by omega) (by omega))]
  | succ m_ ih_ =>
    intro k_ n_ h_ g1 g2 x_ g3_
    obtain ⟨n_, rfl⟩ : ∃ j_, n_ = j_ + 1 := ⟨n_ - 1, by omega⟩
    have hin : vp_in (nI k_) 5 := vp_in_nI (by omega) (by decide)
    rw [f_X12_undo_68, if_pos (show nI k_ < (5 : Int32) from nI_lt (b := 5) (by omega) (by decide))]
    rw [nI_clamp (n := k_) (by omega)]
    rw [chk_of hin, chk_of hin, nm_eq]
    rw [chk_of hin, chk_of hin, nm_eq]
    rw [chk_of hin, chk_of hin, nm_eq]
    rw [chk_of hin, chk_of hin, nm_eq]
    rw [chk_of hin, chk_of hin, nm_eq]
    rw [nm_eq, nI_1]
    have hh : ∀ z_, z_ = (tI (tI (tI (tI (tI h_ 54 k_ (aI h_ 77 k_)) 55 k_ (aI h_ 78 k_)) 56 k_ (aI h_ 79 k_)) 71 k_ (aI h_ 81 k_)) 72 k_ (aI h_ 82 k_)) → ∃ h', f_X12_undo_68 n_ z_ (nI (k_ + 1)) = f_X12_undo_141 2000 h' (0 : Int32) ∧ agK (fun a_ => a_ = 54 ∨ a_ = 55 ∨ a_ = 56 ∨ a_ = 71 ∨ a_ = 72) h0 h' ∧ ∀ j_, j_ < 5 → aI h' 54 j_ = aI h0 77 j_ ∧ aI h' 55 j_ = aI h0 78 j_ ∧ aI h' 56 j_ = aI h0 79 j_ ∧ aI h' 71 j_ = aI h0 81 j_ ∧ aI h' 72 j_ = aI h0 82 j_ := by
      intro z_ hz
      refine ih_ (k_ + 1) n_ z_ (by omega) (by omega) (x_.tr ?_) (fun j_ hj => ?_)
      · rw [hz]
        exact (((((agK_tI (by omega)).tr (agK_tI (by omega))).tr (agK_tI (by omega))).tr (agK_tI (by omega))).tr (agK_tI (by omega)))
      · have e_ : ∀ a_, (a_ = 77 ∨ a_ = 78 ∨ a_ = 79 ∨ a_ = 81 ∨ a_ = 82) → aI h_ a_ = aI h0 a_ := fun a_ ha_ => x_.2.2.2 a_ (by omega)
        rw [hz]
        refine ⟨?_, ?_, ?_, ?_, ?_⟩
        · show (if 54 = 54 ∧ j_ = k_ then aI h_ 77 k_ else aI h_ 54 j_) = aI h0 77 j_
          by_cases ej : j_ = k_
          · rw [if_pos ⟨rfl, ej⟩, ej, e_ 77 (by omega)]
          · rw [if_neg (by rintro ⟨-, hh⟩; exact ej hh)]; exact (g3_ j_ (by omega)).1
        · show (if 55 = 55 ∧ j_ = k_ then aI h_ 78 k_ else aI h_ 55 j_) = aI h0 78 j_
          by_cases ej : j_ = k_
          · rw [if_pos ⟨rfl, ej⟩, ej, e_ 78 (by omega)]
          · rw [if_neg (by rintro ⟨-, hh⟩; exact ej hh)]; exact (g3_ j_ (by omega)).2.1
        · show (if 56 = 56 ∧ j_ = k_ then aI h_ 79 k_ else aI h_ 56 j_) = aI h0 79 j_
          by_cases ej : j_ = k_
          · rw [if_pos ⟨rfl, ej⟩, ej, e_ 79 (by omega)]
          · rw [if_neg (by rintro ⟨-, hh⟩; exact ej hh)]; exact (g3_ j_ (by omega)).2.2.1
        · show (if 71 = 71 ∧ j_ = k_ then aI h_ 81 k_ else aI h_ 71 j_) = aI h0 81 j_
          by_cases ej : j_ = k_
          · rw [if_pos ⟨rfl, ej⟩, ej, e_ 81 (by omega)]
          · rw [if_neg (by rintro ⟨-, hh⟩; exact ej hh)]; exact (g3_ j_ (by omega)).2.2.2.1
        · show (if 72 = 72 ∧ j_ = k_ then aI h_ 82 k_ else aI h_ 72 j_) = aI h0 82 j_
          by_cases ej : j_ = k_
          · rw [if_pos ⟨rfl, ej⟩, ej, e_ 82 (by omega)]
          · rw [if_neg (by rintro ⟨-, hh⟩; exact ej hh)]; exact (g3_ j_ (by omega)).2.2.2.2
    exact hh _ rfl
theorem M_undo_lp2 {h0 : hp} : ∀ m_ k_ n_ h_, k_ + m_ = 20 → m_ < n_ → agK (fun a_ => a_ = 57) h0 h_ → (∀ j_, j_ < k_ → aI h_ 57 j_ = aI h0 80 j_) → ∃ h', f_X12_undo_141 n_ h_ (nI k_) = f_X12_undo_167 2000 h' (0 : Int32) ∧ agK (fun a_ => a_ = 57) h0 h' ∧ ∀ j_, j_ < 20 → aI h' 57 j_ = aI h0 80 j_ := by
  intro m_
  induction m_ with
  | zero =>
    intro k_ n_ h_ g1 g2 x_ g3_
    obtain ⟨n_, rfl⟩ : ∃ j_, n_ = j_ + 1 := ⟨n_ - 1, by omega⟩
    refine ⟨h_, ?_, x_, fun j_ hj => g3_ j_ (by omega)⟩
    rw [f_X12_undo_141, if_neg (show ¬ nI k_ < (20 : Int32) from nI_nlt (b := 20) (by omega) (by omega))]
  | succ m_ ih_ =>
    intro k_ n_ h_ g1 g2 x_ g3_
    obtain ⟨n_, rfl⟩ : ∃ j_, n_ = j_ + 1 := ⟨n_ - 1, by omega⟩
    have hin : vp_in (nI k_) 20 := vp_in_nI (by omega) (by decide)
    rw [f_X12_undo_141, if_pos (show nI k_ < (20 : Int32) from nI_lt (b := 20) (by omega) (by decide))]
    rw [nI_clamp (n := k_) (by omega)]
    rw [chk_of hin, chk_of hin, nm_eq]
    rw [nm_eq, nI_1]
    have hh : ∀ z_, z_ = (tI h_ 57 k_ (aI h_ 80 k_)) → ∃ h', f_X12_undo_141 n_ z_ (nI (k_ + 1)) = f_X12_undo_167 2000 h' (0 : Int32) ∧ agK (fun a_ => a_ = 57) h0 h' ∧ ∀ j_, j_ < 20 → aI h' 57 j_ = aI h0 80 j_ := by
      intro z_ hz
      refine ih_ (k_ + 1) n_ z_ (by omega) (by omega) (x_.tr ?_) (fun j_ hj => ?_)
      · rw [hz]
        exact (agK_tI (by omega))
      · have e_ : ∀ a_, (a_ = 80) → aI h_ a_ = aI h0 a_ := fun a_ ha_ => x_.2.2.2 a_ (by omega)
        rw [hz]
        show (if 57 = 57 ∧ j_ = k_ then aI h_ 80 k_ else aI h_ 57 j_) = aI h0 80 j_
        by_cases ej : j_ = k_
        · rw [if_pos ⟨rfl, ej⟩, ej, e_ 80 (by omega)]
        · rw [if_neg (by rintro ⟨-, hh⟩; exact ej hh)]; exact (g3_ j_ (by omega))
    exact hh _ rfl
theorem M_undo_lp3 {h0 : hp} : ∀ m_ k_ n_ h_, k_ + m_ = 8 → m_ < n_ → agK (fun a_ => a_ = 53 ∨ a_ = 73 ∨ a_ = 74 ∨ a_ = 75) h0 h_ → (∀ j_, j_ < k_ → aI h_ 53 j_ = aI h0 76 j_ ∧ aI h_ 73 j_ = aI h0 83 j_ ∧ aI h_ 74 j_ = aI h0 84 j_ ∧ aI h_ 75 j_ = aI h0 85 j_) → ∃ h', f_X12_undo_167 n_ h_ (nI k_) = some (h', hI h' 52 1) ∧ agK (fun a_ => a_ = 53 ∨ a_ = 73 ∨ a_ = 74 ∨ a_ = 75) h0 h' ∧ ∀ j_, j_ < 8 → aI h' 53 j_ = aI h0 76 j_ ∧ aI h' 73 j_ = aI h0 83 j_ ∧ aI h' 74 j_ = aI h0 84 j_ ∧ aI h' 75 j_ = aI h0 85 j_ := by
  intro m_
  induction m_ with
  | zero =>
    intro k_ n_ h_ g1 g2 x_ g3_
    obtain ⟨n_, rfl⟩ : ∃ j_, n_ = j_ + 1 := ⟨n_ - 1, by omega⟩
    refine ⟨h_, ?_, x_, fun j_ hj => g3_ j_ (by omega)⟩
    rw [f_X12_undo_167, if_neg (show ¬ nI k_ < (8 : Int32) from nI_nlt (b := 8) (by omega) (by omega))]
  | succ m_ ih_ =>
    intro k_ n_ h_ g1 g2 x_ g3_
    obtain ⟨n_, rfl⟩ : ∃ j_, n_ = j_ + 1 := ⟨n_ - 1, by omega⟩
    have hin : vp_in (nI k_) 8 := vp_in_nI (by omega) (by decide)
    rw [f_X12_undo_167, if_pos (show nI k_ < (8 : Int32) from nI_lt (b := 8) (by omega) (by decide))]
    rw [nI_clamp (n := k_) (by omega)]
    rw [chk_of hin, chk_of hin, nm_eq]
    rw [chk_of hin, chk_of hin, nm_eq]
    rw [chk_of hin, chk_of hin, nm_eq]
    rw [chk_of hin, chk_of hin, nm_eq]
    rw [nm_eq, nI_1]
    have hh : ∀ z_, z_ = (tI (tI (tI (tI h_ 53 k_ (aI h_ 76 k_)) 73 k_ (aI h_ 83 k_)) 74 k_ (aI h_ 84 k_)) 75 k_ (aI h_ 85 k_)) → ∃ h', f_X12_undo_167 n_ z_ (nI (k_ + 1)) = some (h', hI h' 52 1) ∧ agK (fun a_ => a_ = 53 ∨ a_ = 73 ∨ a_ = 74 ∨ a_ = 75) h0 h' ∧ ∀ j_, j_ < 8 → aI h' 53 j_ = aI h0 76 j_ ∧ aI h' 73 j_ = aI h0 83 j_ ∧ aI h' 74 j_ = aI h0 84 j_ ∧ aI h' 75 j_ = aI h0 85 j_ := by
      intro z_ hz
      refine ih_ (k_ + 1) n_ z_ (by omega) (by omega) (x_.tr ?_) (fun j_ hj => ?_)
      · rw [hz]
        exact ((((agK_tI (by omega)).tr (agK_tI (by omega))).tr (agK_tI (by omega))).tr (agK_tI (by omega)))
      · have e_ : ∀ a_, (a_ = 76 ∨ a_ = 83 ∨ a_ = 84 ∨ a_ = 85) → aI h_ a_ = aI h0 a_ := fun a_ ha_ => x_.2.2.2 a_ (by omega)
        rw [hz]
        refine ⟨?_, ?_, ?_, ?_⟩
        · show (if 53 = 53 ∧ j_ = k_ then aI h_ 76 k_ else aI h_ 53 j_) = aI h0 76 j_
          by_cases ej : j_ = k_
          · rw [if_pos ⟨rfl, ej⟩, ej, e_ 76 (by omega)]
          · rw [if_neg (by rintro ⟨-, hh⟩; exact ej hh)]; exact (g3_ j_ (by omega)).1
        · show (if 73 = 73 ∧ j_ = k_ then aI h_ 83 k_ else aI h_ 73 j_) = aI h0 83 j_
          by_cases ej : j_ = k_
          · rw [if_pos ⟨rfl, ej⟩, ej, e_ 83 (by omega)]
          · rw [if_neg (by rintro ⟨-, hh⟩; exact ej hh)]; exact (g3_ j_ (by omega)).2.1
        · show (if 74 = 74 ∧ j_ = k_ then aI h_ 84 k_ else aI h_ 74 j_) = aI h0 84 j_
          by_cases ej : j_ = k_
          · rw [if_pos ⟨rfl, ej⟩, ej, e_ 84 (by omega)]
          · rw [if_neg (by rintro ⟨-, hh⟩; exact ej hh)]; exact (g3_ j_ (by omega)).2.2.1
        · show (if 75 = 75 ∧ j_ = k_ then aI h_ 85 k_ else aI h_ 75 j_) = aI h0 85 j_
          by_cases ej : j_ = k_
          · rw [if_pos ⟨rfl, ej⟩, ej, e_ 85 (by omega)]
          · rw [if_neg (by rintro ⟨-, hh⟩; exact ej hh)]; exact (g3_ j_ (by omega)).2.2.2
    exact hh _ rfl
/-- what the rows_ of_ a_ scene are after a_ copy_ -/
theorem scM_copy {h_ h' : hp} {f0_ f1_ f2_ f3_ f4_ f5_ f6_ g0 g1 g2 g3_ g4 g5_ g6 r0 r1_ r2 r3 r4 r5_ r6 r7 r8 r9 s0_ s1_ s2_ s3_ s4_ s5 s6_ s7 s8 s9 : Nat} {σ : scn} (hok : scOK σ) (H_ : scM h_ f0_ f1_ f2_ f3_ f4_ f5_ f6_ r0 r1_ r2 r3 r4 r5_ r6 r7 r8 r9 σ) (e0_ : hI h' 52 g0 = hI h_ 52 f0_) (e1_ : hI h' 52 g1 = hI h_ 52 f1_) (e2_ : hI h' 52 g2 = hI h_ 52 f2_) (e3_ : hI h' 52 g3_ = hI h_ 52 f3_) (e4_ : hI h' 52 g4 = hI h_ 52 f4_) (e5_ : hI h' 52 g5_ = hI h_ 52 f5_) (e6_ : hI h' 52 g6 = hI h_ 52 f6_) (e8 : hI h' 52 8 = hI h_ 52 8) (a0_ : ∀ j_, j_ < 8 → aI h' s0_ j_ = aI h_ r0 j_) (a1_ : ∀ j_, j_ < 5 → aI h' s1_ j_ = aI h_ r1_ j_) (a2 : ∀ j_, j_ < 5 → aI h' s2_ j_ = aI h_ r2 j_) (a3 : ∀ j_, j_ < 5 → aI h' s3_ j_ = aI h_ r3 j_) (a4 : ∀ j_, j_ < 20 → aI h' s4_ j_ = aI h_ r4 j_) (a5 : ∀ j_, j_ < 5 → aI h' s5 j_ = aI h_ r5_ j_) (a6 : ∀ j_, j_ < 5 → aI h' s6_ j_ = aI h_ r6 j_) (a7 : ∀ j_, j_ < 8 → aI h' s7 j_ = aI h_ r7 j_) (a8 : ∀ j_, j_ < 8 → aI h' s8 j_ = aI h_ r8 j_) (a9 : ∀ j_, j_ < 8 → aI h' s9 j_ = aI h_ r9 j_) (c_ : ∀ a_, 59 ≤ a_ → a_ ≤ 64 → aI h' a_ = aI h_ a_) : scM h' g0 g1 g2 g3_ g4 g5_ g6 s0_ s1_ s2_ s3_ s4_ s5 s6_ s7 s8 s9 σ := by
  obtain ⟨q1_, q2_, q3_, q4_, q5_, q6_, q7_⟩ := H_
  have n8 := hok.1.1
  have p5_ := hok.2.1.1
  have n5_ := hok.2.2.2.1.1
  have l8 := hok.2.2.2.2.1.1
  have b8 := hok.2.2.2.2.2.1.1
  refine ⟨⟨e0_.trans q1_.1, fun k_ hk => (a0_ k_ (by omega)).trans (q1_.2 k_ hk)⟩, ⟨e1_.trans q2_.1, fun p_ hp => ?_⟩, e2_.trans q3_, ⟨e3_.trans q4_.1, fun k_ hk => ⟨(a5 k_ (by omega)).trans (q4_.2 k_ hk).1, (a6 k_ (by omega)).trans (q4_.2 k_ hk).2⟩⟩, ⟨e4_.trans q5_.1, fun k_ hk => (a7 k_ (by omega)).trans (q5_.2 k_ hk)⟩, ⟨e5_.trans q6_.1, fun k_ hk => ⟨(a8 k_ (by omega)).trans (q6_.2 k_ hk).1, (a9 k_ (by omega)).trans (q6_.2 k_ hk).2⟩⟩, ?_⟩
  · obtain ⟨u1_, u2_, u3, u4_⟩ := q2_.2 p_ hp
    exact ⟨(a1_ p_ (by omega)).trans u1_, (a2 p_ (by omega)).trans u2_, (a3 p_ (by omega)).trans u3, fun j_ hj => (a4 _ (by omega)).trans (u4_ j_ hj)⟩
  · cases hC : sC σ with
    | none => rw [hC] at q7_; exact e6_.trans q7_
    | some C_ =>
      rw [hC] at q7_
      obtain ⟨f_, wn_, v1_, v2, v3, v4_, v5⟩ := q7_
      refine ⟨f_, wn_, v1_, v2, e8.trans v3, e6_.trans v4_, ?_⟩
      unfold wdM at v5 ⊢
      simp only [c_ 59 (by decide) (by decide), c_ 60 (by decide) (by decide), c_ 61 (by decide) (by decide), c_ 62 (by decide) (by decide), c_ 63 (by decide) (by decide), c_ 64 (by decide) (by decide)]
      exact v5
theorem M_image {h_ : hp} {S_ : sst} (hM_ : RM h_ S_) (hok : SOK S_) : ∃ h', f_X12_image h_ = some (h', nI (sp S_.1)) ∧ RM h' (S_.1, some S_.1, S_.2.2) ∧ aI h' 87 = aI h_ 87 ∧ aI h' 88 = aI h_ 88 ∧ aL h' 89 = aL h_ 89 := by
  unfold f_X12_image
  rw [nm_eq, nm_eq, nm_eq, nm_eq, nm_eq, nm_eq, nm_eq, nm_eq]
  generalize hg : sI (sI (sI (sI (sI (sI (sI (sI h_ 52 37 1) 52 38 (hI (sI h_ 52 37 1) 52 9)) 52 39 (hI (sI (sI h_ 52 37 1) 52 38 (hI (sI h_ 52 37 1) 52 9)) 52 0)) 52 40 _) 52 41 _) 52 42 _) 52 43 _) 52 44 _ = g_
  have gI : ∀ k_, k_ < 37 ∨ 44 < k_ → hI g_ 52 k_ = hI h_ 52 k_ := fun k_ hk => by
    rw [← hg]
    rw [hI_sI, if_neg (by omega), hI_sI, if_neg (by omega), hI_sI, if_neg (by omega), hI_sI, if_neg (by omega), hI_sI, if_neg (by omega), hI_sI, if_neg (by omega), hI_sI, if_neg (by omega), hI_sI, if_neg (by omega)]
  have g37 : hI g_ 52 37 = 1 := by rw [← hg]; rfl
  have g38 : hI g_ 52 38 = hI h_ 52 9 := by rw [← hg]; rfl
  have g39 : hI g_ 52 39 = hI h_ 52 0 := by rw [← hg]; rfl
  have g40 : hI g_ 52 40 = hI h_ 52 1 := by rw [← hg]; rfl
  have g41 : hI g_ 52 41 = hI h_ 52 2 := by rw [← hg]; rfl
  have g42 : hI g_ 52 42 = hI h_ 52 29 := by rw [← hg]; rfl
  have g43 : hI g_ 52 43 = hI h_ 52 32 := by rw [← hg]; rfl
  have g44 : hI g_ 52 44 = hI h_ 52 33 := by rw [← hg]; rfl
  have ga : aI g_ = aI h_ := by rw [← hg]; rfl
  have gr : g_.2.2.2 = h_.2.2.2 := by rw [← hg]; rfl
  obtain ⟨h1, x1_, x2_, x3⟩ := M_image_lp1 (h0 := g_) 5 0 2000 g_ rfl (by decide) agK.rf (fun j_ hj => by omega)
  obtain ⟨h2, y1, y2, y3⟩ := M_image_lp2 (h0 := h1) 20 0 2000 h1 rfl (by decide) agK.rf (fun j_ hj => by omega)
  obtain ⟨h3, z1, z2, z3⟩ := M_image_lp3 (h0 := h2) 8 0 2000 h2 rfl (by decide) agK.rf (fun j_ hj => by omega)
  have hh : h3.1 = g_.1 := by rw [z2.1, y2.1, x2_.1]
  have hI3 : ∀ k_, hI h3 52 k_ = hI g_ 52 k_ := fun k_ => by show h3.1 52 k_ = g_.1 52 k_; rw [hh]
  have keep_ : ∀ a_, a_ < 76 ∨ 85 < a_ → aI h3 a_ = aI h_ a_ := fun a_ ha_ => by rw [z2.2.2.2 a_ (by omega), y2.2.2.2 a_ (by omega), x2_.2.2.2 a_ (by omega), ga]
  have k12 : ∀ a_, a_ < 76 ∨ 85 < a_ → aI h1 a_ = aI h_ a_ := fun a_ ha_ => by rw [x2_.2.2.2 a_ (by omega), ga]
  have k22 : ∀ a_, a_ < 76 ∨ 85 < a_ → aI h2 a_ = aI h_ a_ := fun a_ ha_ => by rw [y2.2.2.2 a_ (by omega), k12 a_ ha_]
  have e1_ : hI h3 52 1 = nI (sp S_.1) := by rw [hI3, gI 1 (by omega)]; exact hM_.1.2.1.1
  have r5_ : ∀ a_, (a_ = 77 ∨ a_ = 78 ∨ a_ = 79 ∨ a_ = 81 ∨ a_ = 82) → aI h3 a_ = aI h1 a_ := fun a_ ha_ => by rw [z2.2.2.2 a_ (by omega), y2.2.2.2 a_ (by omega)]
  refine ⟨h3, ?_, ⟨?_, ⟨by rw [hI3]; exact g37, ?_⟩, by rw [hI3, gI 8 (by omega)]; exact hM_.2.2.1, ⟨by rw [hI3, gI 10 (by omega)]; exact hM_.2.2.2.1.1, by rw [keep_ 58 (by omega)]; exact hM_.2.2.2.1.2⟩, by rw [keep_ 66 (by omega)]; exact hM_.2.2.2.2.1, ⟨by rw [hI3, gI 55 (by omega)]; exact hM_.2.2.2.2.2.1, by rw [keep_ 86 (by omega)]; exact hM_.2.2.2.2.2.2⟩⟩, keep_ 87 (by omega), keep_ 88 (by omega), ?_⟩
  · have x1_ : f_X12_image_63 2000 g_ (0 : Int32) = f_X12_image_136 2000 h1 (0 : Int32) := x1_
    have y1 : f_X12_image_136 2000 h1 (0 : Int32) = f_X12_image_162 2000 h2 (0 : Int32) := y1
    have z1 : f_X12_image_162 2000 h2 (0 : Int32) = some (h3, hI h3 52 1) := z1
    rw [x1_, y1, z1, e1_]
  · refine scM_copy hok.1.1 hM_.1 (by rw [hI3, gI 0 (by omega)]) (by rw [hI3, gI 1 (by omega)]) (by rw [hI3, gI 2 (by omega)]) (by rw [hI3, gI 29 (by omega)]) (by rw [hI3, gI 32 (by omega)]) (by rw [hI3, gI 33 (by omega)]) (by rw [hI3, gI 9 (by omega)]) (by rw [hI3, gI 8 (by omega)]) (fun j_ _ => by rw [keep_ 53 (by omega)]) (fun j_ _ => by rw [keep_ 54 (by omega)]) (fun j_ _ => by rw [keep_ 55 (by omega)]) (fun j_ _ => by rw [keep_ 56 (by omega)]) (fun j_ _ => by rw [keep_ 57 (by omega)]) (fun j_ _ => by rw [keep_ 71 (by omega)]) (fun j_ _ => by rw [keep_ 72 (by omega)]) (fun j_ _ => by rw [keep_ 73 (by omega)]) (fun j_ _ => by rw [keep_ 74 (by omega)]) (fun j_ _ => by rw [keep_ 75 (by omega)]) (fun a_ h1 h2 => keep_ a_ (by omega))
  · refine scM_copy hok.1.1 hM_.1 (by rw [hI3]; exact g39) (by rw [hI3]; exact g40) (by rw [hI3]; exact g41) (by rw [hI3]; exact g42) (by rw [hI3]; exact g43) (by rw [hI3]; exact g44) (by rw [hI3]; exact g38) (by rw [hI3, gI 8 (by omega)]) (fun j_ hj => by rw [(z3 j_ hj).1, k22 53 (by omega)]) (fun j_ hj => by rw [r5_ 77 (by omega), (x3 j_ hj).1, ga]) (fun j_ hj => by rw [r5_ 78 (by omega), (x3 j_ hj).2.1, ga]) (fun j_ hj => by rw [r5_ 79 (by omega), (x3 j_ hj).2.2.1, ga]) (fun j_ hj => by rw [z2.2.2.2 80 (by omega), y3 j_ hj, k12 57 (by omega)]) (fun j_ hj => by rw [r5_ 81 (by omega), (x3 j_ hj).2.2.2.1, ga]) (fun j_ hj => by rw [r5_ 82 (by omega), (x3 j_ hj).2.2.2.2, ga]) (fun j_ hj => by rw [(z3 j_ hj).2.1, k22 73 (by omega)]) (fun j_ hj => by rw [(z3 j_ hj).2.2.1, k22 74 (by omega)]) (fun j_ hj => by rw [(z3 j_ hj).2.2.2, k22 75 (by omega)]) (fun a_ h1 h2 => keep_ a_ (by omega))
  · have : h3.2.2.2 = h_.2.2.2 := by rw [z2.2.2.1, y2.2.2.1, x2_.2.2.1, gr]
    funext k_
    show h3.2.2.2.1 89 k_ = h_.2.2.2.1 89 k_
    rw [this]
theorem M_undo {h_ : hp} {S_ : sst} {σ : scn} (hM_ : RM h_ S_) (hi_ : S_.2.1 = some σ) (hok : SOK S_) : ∃ h', f_X12_undo h_ = some (h', nI (sp σ)) ∧ RM h' (σ, S_.2) ∧ aI h' 87 = aI h_ 87 ∧ aI h' 88 = aI h_ 88 ∧ aL h' 89 = aL h_ 89 := by
  have hk := hM_.2.1
  unfold tkM at hk
  rw [hi_] at hk
  obtain ⟨h37, hs⟩ := hk
  have hoo := (hok.2.1 σ hi_).1
  unfold f_X12_undo
  rw [h37, if_neg ne10, nm_eq, nm_eq, nm_eq, nm_eq, nm_eq, nm_eq, nm_eq]
  generalize hg : sI (sI (sI (sI (sI (sI (sI h_ 52 9 (hI h_ 52 38)) 52 0 _) 52 1 _) 52 2 _) 52 29 _) 52 32 _) 52 33 _ = g_
  have gI : ∀ k_, ¬ (k_ = 9 ∨ k_ = 0 ∨ k_ = 1 ∨ k_ = 2 ∨ k_ = 29 ∨ k_ = 32 ∨ k_ = 33) → hI g_ 52 k_ = hI h_ 52 k_ := fun k_ hk => by
    rw [← hg]
    rw [hI_sI, if_neg (by omega), hI_sI, if_neg (by omega), hI_sI, if_neg (by omega), hI_sI, if_neg (by omega), hI_sI, if_neg (by omega), hI_sI, if_neg (by omega), hI_sI, if_neg (by omega)]
  have g9 : hI g_ 52 9 = hI h_ 52 38 := by rw [← hg]; rfl
  have g0 : hI g_ 52 0 = hI h_ 52 39 := by rw [← hg]; rfl
  have g1 : hI g_ 52 1 = hI h_ 52 40 := by rw [← hg]; rfl
  have g2 : hI g_ 52 2 = hI h_ 52 41 := by rw [← hg]; rfl
  have g29 : hI g_ 52 29 = hI h_ 52 42 := by rw [← hg]; rfl
  have g32 : hI g_ 52 32 = hI h_ 52 43 := by rw [← hg]; rfl
  have g33 : hI g_ 52 33 = hI h_ 52 44 := by rw [← hg]; rfl
  have ga : aI g_ = aI h_ := by rw [← hg]; rfl
  have gr : g_.2.2.2 = h_.2.2.2 := by rw [← hg]; rfl
  obtain ⟨h1, x1_, x2_, x3⟩ := M_undo_lp1 (h0 := g_) 5 0 2000 g_ rfl (by decide) agK.rf (fun j_ hj => by omega)
  obtain ⟨h2, y1, y2, y3⟩ := M_undo_lp2 (h0 := h1) 20 0 2000 h1 rfl (by decide) agK.rf (fun j_ hj => by omega)
  obtain ⟨h3, z1, z2, z3⟩ := M_undo_lp3 (h0 := h2) 8 0 2000 h2 rfl (by decide) agK.rf (fun j_ hj => by omega)
  have hh : h3.1 = g_.1 := by rw [z2.1, y2.1, x2_.1]
  have hI3 : ∀ k_, hI h3 52 k_ = hI g_ 52 k_ := fun k_ => by show h3.1 52 k_ = g_.1 52 k_; rw [hh]
  have keep_ : ∀ a_, ¬ (53 ≤ a_ ∧ a_ ≤ 57) → ¬ (71 ≤ a_ ∧ a_ ≤ 75) → aI h3 a_ = aI h_ a_ := fun a_ ha_ hb_ => by rw [z2.2.2.2 a_ (by omega), y2.2.2.2 a_ (by omega), x2_.2.2.2 a_ (by omega), ga]
  have k12 : ∀ a_, ¬ (53 ≤ a_ ∧ a_ ≤ 57) → ¬ (71 ≤ a_ ∧ a_ ≤ 75) → aI h1 a_ = aI h_ a_ := fun a_ ha_ hb_ => by rw [x2_.2.2.2 a_ (by omega), ga]
  have k22 : ∀ a_, ¬ (53 ≤ a_ ∧ a_ ≤ 57) → ¬ (71 ≤ a_ ∧ a_ ≤ 75) → aI h2 a_ = aI h_ a_ := fun a_ ha_ hb_ => by rw [y2.2.2.2 a_ (by omega), k12 a_ ha_ hb_]
  have e1_ : hI h3 52 1 = nI (sp σ) := by rw [hI3, g1]; exact hs.2.1.1
  have r5_ : ∀ a_, (a_ = 54 ∨ a_ = 55 ∨ a_ = 56 ∨ a_ = 71 ∨ a_ = 72) → aI h3 a_ = aI h1 a_ := fun a_ ha_ => by rw [z2.2.2.2 a_ (by omega), y2.2.2.2 a_ (by omega)]
  refine ⟨h3, ?_, ⟨?_, ?_, by rw [hI3, gI 8 (by omega)]; exact hM_.2.2.1, ⟨by rw [hI3, gI 10 (by omega)]; exact hM_.2.2.2.1.1, by rw [keep_ 58 (by omega) (by omega)]; exact hM_.2.2.2.1.2⟩, by rw [keep_ 66 (by omega) (by omega)]; exact hM_.2.2.2.2.1, ⟨by rw [hI3, gI 55 (by omega)]; exact hM_.2.2.2.2.2.1, by rw [keep_ 86 (by omega) (by omega)]; exact hM_.2.2.2.2.2.2⟩⟩, keep_ 87 (by omega) (by omega), keep_ 88 (by omega) (by omega), ?_⟩
  · have x1_ : f_X12_undo_68 2000 g_ (0 : Int32) = f_X12_undo_141 2000 h1 (0 : Int32) := x1_
    have y1 : f_X12_undo_141 2000 h1 (0 : Int32) = f_X12_undo_167 2000 h2 (0 : Int32) := y1
    have z1 : f_X12_undo_167 2000 h2 (0 : Int32) = some (h3, hI h3 52 1) := z1
    rw [x1_, y1, z1, e1_]
  · refine scM_copy hoo hs (by rw [hI3]; exact g0) (by rw [hI3]; exact g1) (by rw [hI3]; exact g2) (by rw [hI3]; exact g29) (by rw [hI3]; exact g32) (by rw [hI3]; exact g33) (by rw [hI3]; exact g9) (by rw [hI3, gI 8 (by omega)]) (fun j_ hj => by rw [(z3 j_ hj).1, k22 76 (by omega) (by omega)]) (fun j_ hj => by rw [r5_ 54 (by omega), (x3 j_ hj).1, ga]) (fun j_ hj => by rw [r5_ 55 (by omega), (x3 j_ hj).2.1, ga]) (fun j_ hj => by rw [r5_ 56 (by omega), (x3 j_ hj).2.2.1, ga]) (fun j_ hj => by rw [z2.2.2.2 57 (by omega), y3 j_ hj, k12 80 (by omega) (by omega)]) (fun j_ hj => by rw [r5_ 71 (by omega), (x3 j_ hj).2.2.2.1, ga]) (fun j_ hj => by rw [r5_ 72 (by omega), (x3 j_ hj).2.2.2.2, ga]) (fun j_ hj => by rw [(z3 j_ hj).2.1, k22 83 (by omega) (by omega)]) (fun j_ hj => by rw [(z3 j_ hj).2.2.1, k22 84 (by omega) (by omega)]) (fun j_ hj => by rw [(z3 j_ hj).2.2.2, k22 85 (by omega) (by omega)]) (fun a_ h1 h2 => keep_ a_ (by omega) (by omega))
  · unfold tkM
    rw [hi_]
    refine ⟨by rw [hI3, gI 37 (by omega)]; exact h37, ?_⟩
    refine scM_copy hoo hs (by rw [hI3, gI 39 (by omega)]) (by rw [hI3, gI 40 (by omega)]) (by rw [hI3, gI 41 (by omega)]) (by rw [hI3, gI 42 (by omega)]) (by rw [hI3, gI 43 (by omega)]) (by rw [hI3, gI 44 (by omega)]) (by rw [hI3, gI 38 (by omega)]) (by rw [hI3, gI 8 (by omega)]) (fun j_ _ => by rw [keep_ 76 (by omega) (by omega)]) (fun j_ _ => by rw [keep_ 77 (by omega) (by omega)]) (fun j_ _ => by rw [keep_ 78 (by omega) (by omega)]) (fun j_ _ => by rw [keep_ 79 (by omega) (by omega)]) (fun j_ _ => by rw [keep_ 80 (by omega) (by omega)]) (fun j_ _ => by rw [keep_ 81 (by omega) (by omega)]) (fun j_ _ => by rw [keep_ 82 (by omega) (by omega)]) (fun j_ _ => by rw [keep_ 83 (by omega) (by omega)]) (fun j_ _ => by rw [keep_ 84 (by omega) (by omega)]) (fun j_ _ => by rw [keep_ 85 (by omega) (by omega)]) (fun a_ h1 h2 => keep_ a_ (by omega) (by omega))
  · have : h3.2.2.2 = h_.2.2.2 := by rw [z2.2.2.1, y2.2.2.1, x2_.2.2.1, gr]
    funext k_
    show h3.2.2.2.1 89 k_ = h_.2.2.2.1 89 k_
    rw [this]
theorem s_image {hx hm_ : hp} (H_ : Sim hx hm_) : ∃ hx' hm' r_, f_X11_image hx = some (hx', r_) ∧ f_X12_image hm_ = some (hm', r_) ∧ Sim hx' hm' := by
  obtain ⟨S_, hX, hM_, hok, ht⟩ := H_
  obtain ⟨h1, x1_, x2_, x3, x4_, x5_⟩ := X3_becomes (b_ := 13) (u_ := 1) (by decide) (by decide) (SK_13 hx) (SK_1 hx) hX.1.1 hX.1.2 hok.1.1
  obtain ⟨hm', m1_, m2_, m3_, m4_, m5_⟩ := M_image hM_ hok
  have w_ : agX (fun j_ => (13 ≤ j_ ∧ j_ ≤ 24) ∨ j_ = 0) hx (sI h1 0 2 1) := (agX_up (fun a_ ha_ => Or.inl ha_) x2_).tr (agX_sI (Or.inr rfl))
  have p2_ : hI (sI h1 0 2 1) 1 2 = nI (sp S_.1) := by
    rw [hI_sI, if_neg (by rintro ⟨hh, -⟩; exact absurd hh (by decide)), (x2_.2 1 (by omega)).1]; exact hX.1.1.2.1.1
  refine ⟨sI h1 0 2 1, hm', nI (sp S_.1), ?_, m1_, (S_.1, some S_.1, S_.2.2), ?_, m2_, ⟨hok.1, fun σ h_σ => by rw [← Option.some.inj h_σ]; exact hok.1, hok.2.2⟩, ?_⟩
  · unfold f_X11_image
    rw [bnd_of x1_, nm_eq, p2_]
  · have e_ := fun a_ (h1 : ¬ ((13 ≤ a_ ∧ a_ ≤ 24) ∨ a_ = 0)) => w_.2 a_ h1
    refine ⟨⟨scX_ag w_ (fun a_ ha_ => by omega) hX.1.1, by rw [(e_ 4 (by omega)).2.2.2.2]; exact hX.1.2⟩, ⟨?_, ?_, x4_⟩, ?_, by rw [(e_ 25 (by omega)).1, (e_ 26 (by omega)).2.2.1]; exact hX.2.2.2.1, ?_, by rw [(e_ 33 (by omega)).1, (e_ 34 (by omega)).2.2.1]; exact hX.2.2.2.2.2.1, nid_ag w_.1 hX.2.2.2.2.2.2⟩
    · rw [hI_sI, if_pos ⟨rfl, rfl⟩]
    · exact scX_ag (P := fun j_ => j_ = 0) (agX_sI rfl) (fun a_ ha_ => by omega) x3
    · rw [hI_sI, if_neg (by rintro ⟨-, hh⟩; exact absurd hh (by decide)), (x2_.2 0 (by omega)).1]; exact hX.2.2.1
    · obtain ⟨w1_, a1_, a2, a3⟩ := hX.2.2.2.2.1
      refine ⟨w1_, ?_, wdK_kd w_.kd a2, fun v_ hv => ?_⟩
      · rw [hR_sI, (x2_.2 0 (by omega)).2.1]; exact a1_
      · rw [hR_sI, hR_sI, (x2_.2 1 (by omega)).2.1, x5_] at hv
        exact a3 v_ (Or.inl (hv.elim id id))
  · exact TP_ag w_ (fun a_ ha_ => by omega) m3_ m4_ m5_ ht
theorem s_undo {hx hm_ : hp} (H_ : Sim hx hm_) : ∃ hx' hm' r_, f_X11_undo hx = some (hx', r_) ∧ f_X12_undo hm_ = some (hm', r_) ∧ Sim hx' hm' := by
  have H0 := H_
  obtain ⟨S_, hX, hM_, hok, ht⟩ := H_
  have tk := hX.2.1
  have tm := hM_.2.1
  unfold tkX at tk
  unfold tkM at tm
  cases hi_ : S_.2.1 with
  | none =>
    rw [hi_] at tk tm
    refine ⟨hx, hm_, -3, ?_, ?_, H0⟩
    · unfold f_X11_undo; rw [show hI hx 0 2 = 0 from tk]; rfl
    · unfold f_X12_undo; rw [show hI hm_ 52 37 = 0 from tm]; rfl
  | some σ =>
    rw [hi_] at tk
    obtain ⟨t1_, t2_, t3_⟩ := tk
    obtain ⟨h1, x1_, x2_, x3, x4_, x5_⟩ := X3_becomes (b_ := 1) (u_ := 13) (by decide) (by decide) (SK_1 hx) (SK_13 hx) t2_ t3_ (hok.2.1 σ hi_).1
    obtain ⟨hm', m1_, m2_, m3_, m4_, m5_⟩ := M_undo hM_ hi_ hok
    refine ⟨h1, hm', nI (sp σ), ?_, m1_, (σ, S_.2), ?_, m2_, ⟨hok.2.1 σ hi_, hok.2⟩, TP_ag x2_ (fun a_ ha_ => by omega) m3_ m4_ m5_ ht⟩
    · unfold f_X11_undo
      rw [t1_, if_neg ne10, bnd_of x1_, show hI h1 1 2 = nI (sp σ) from x3.2.1.1]
    · have e_ := fun a_ (h1 : ¬ (1 ≤ a_ ∧ a_ ≤ 12)) => x2_.2 a_ (by omega)
      refine ⟨⟨x3, x4_⟩, ?_, by rw [(e_ 0 (by omega)).1]; exact hX.2.2.1, by rw [(e_ 25 (by omega)).1, (e_ 26 (by omega)).2.2.1]; exact hX.2.2.2.1, ?_, by rw [(e_ 33 (by omega)).1, (e_ 34 (by omega)).2.2.1]; exact hX.2.2.2.2.2.1, nid_ag x2_.1 hX.2.2.2.2.2.2⟩
      · exact tkX_ag (S := S_) x2_ (fun a_ ha_ => by omega) (by rw [(e_ 0 (by omega)).1]) hX.2.1
      · obtain ⟨w1_, a1_, a2, a3⟩ := hX.2.2.2.2.1
        refine ⟨w1_, by rw [(e_ 0 (by omega)).2.1]; exact a1_, wdK_kd x2_.kd a2, fun v_ hv => ?_⟩
        rw [x5_, (e_ 13 (by omega)).2.1] at hv
        exact a3 v_ (Or.inr (hv.elim id id))
