-- ===== the reference: numbers of words and senders =====
theorem m_below {x : Int32} {n : Nat} (hn : n < 2 ^ 30) : nI n - 1 < x ↔ nI n ≤ x := by
  have e : (nI n - 1).toInt = (n : Int) - 1 := pk_sub_toInt (b := 1) hn (by decide)
  rw [Int32.lt_iff_toInt_lt, Int32.le_iff_toInt_le, e, nI_toInt (by omega)]
  omega
theorem M_isWord {h : hp} {n : Nat} (e : hI h 52 0 = nI n) (hn : n < 2 ^ 30) {x : Int32} : f_X12_isWord h x = some (if x < 0 ∨ nI n ≤ x then 0 else 1) := by
  unfold f_X12_isWord
  rw [e, bnr_of M_in, ckZ_01]
  simp only [m_below hn]
theorem M_isSender {h : hp} {n : Nat} (e : hI h 52 1 = nI n) (hn : n < 2 ^ 30) {x : Int32} : f_X12_isSender h x = some (if x < 0 ∨ nI n ≤ x then 0 else 1) := by
  unfold f_X12_isSender
  rw [e, bnr_of M_in, ckZ_01]
  simp only [m_below hn]
