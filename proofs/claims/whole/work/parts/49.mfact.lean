-- ===== what a sender shows: the reference's way =====
theorem M_factOf {h : hp} {p s k v sS t j : Nat} (hp : p < 5) (hs : s < 1024) (hk : aI h 54 p = nI k) (hv : aI h 55 p = nI v) (hS : aI h 56 p = nI sS) (ht : hI h 52 2 = nI t) (hSb : sS < 2 ^ 31) (htb : t < 2 ^ 31) (hj : j < 6) : f_X12_factOf h (nI j) (nI p) (nI s) = some (nI (if j = 0 then p else if j = 1 then k else if j = 2 then v else if j = 3 then pop 10 s else if j = 4 then sS % 10 else t % 24)) := by
  have hcp : (nI p).toNatClampNeg = p := nI_clamp (by omega)
  have hin : vp_in (nI p) 5 := vp_in_nI hp (by decide)
  unfold f_X12_factOf
  rcases (show j = 0 ∨ j = 1 ∨ j = 2 ∨ j = 3 ∨ j = 4 ∨ j = 5 by omega) with rfl | rfl | rfl | rfl | rfl | rfl
  · rfl
  · rw [if_neg (by decide), if_pos (by decide), chk_of hin, hcp, hk]; rfl
  · rw [if_neg (by decide), if_neg (by decide), if_pos (by decide), chk_of hin, hcp, hv]; rfl
  · rw [if_neg (by decide), if_neg (by decide), if_neg (by decide), if_pos (by decide), bnr_of (M_bits hs)]; rfl
  · rw [if_neg (by decide), if_neg (by decide), if_neg (by decide), if_neg (by decide), if_pos (by decide), chk_of hin, nz_of (by decide), hcp, hS, rem10 hSb]; rfl
  · rw [if_neg (by decide), if_neg (by decide), if_neg (by decide), if_neg (by decide), if_neg (by decide), nz_of (by decide), ht, rem24 htb]; rfl
