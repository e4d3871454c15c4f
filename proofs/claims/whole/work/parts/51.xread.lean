theorem nearL_lt : ∀ (C : List cla) (n : Nat), n < 100 → (∀ c ∈ C, clOK c) → nearL C n < 100 := by
  intro C
  induction C with
  | nil => intro n h _; exact h
  | cons c C ih =>
    intro n h hc
    show nearL C (if c.1 = 3 then c.2.1 else n) < 100
    refine ih _ ?_ (fun x hx => hc x (List.mem_cons_of_mem _ hx))
    split
    · exact (hc c List.mem_cons_self).2.1
    · exact h
theorem nearS_lt {σ : scn} (hok : scOK σ) : nearS σ < 100 := by
  unfold nearS cls
  cases hC : sC σ with
  | none => exact (by decide : (2 : Nat) < 100)
  | some C => exact nearL_lt C 2 (by decide) (hok.2.2.2.2.2.2 C hC).2
theorem X_get {h : hp} {σ : scn} (hsc : scX h 1 σ) (hok : scOK σ) {k : Nat} (hk : k < sn σ) : f_X2_get h 2 (nI k) = some (nI (sW σ k)) := by
  have hn := hok.1.1
  have e : hI h 2 1 = nI (sn σ) := hsc.1.1
  have hA := fun (a : Option Int32) => ckA_of (b := 1) (h := h) (i := 2 + 1) (e := 0) (n := 8) (a := a) rfl rfl (by decide)
  have hl : alen h (2 + 1) = 8 := (hA none).2
  unfold f_X2_get f_X2_get_22
  rw [if_neg (nI_pos (by omega)), ckO_of (show sd 1 2 = true from rfl) (show kdOf h 2 = 4 from rfl), e, if_pos (nI_lt hk (by omega)), ckO_of (show sd 1 2 = true from rfl) (show kdOf h 2 = 4 from rfl), (hA _).1, hl, chk_of (vp_in_nI (by omega) (by decide)), nI_clamp (by omega)]
  exact congrArg some (hsc.1.2 k hk)
theorem X_read_lp {h : hp} {σ : scn} (hsc : scX h 1 σ) (hok : scOK σ) {s : Nat} (hs : s < 1024) : ∀ m i r low n, i + m = sn σ → m < n → low < 2 ^ 31 → f_X11_readAs_13 h n (nI s) (rdI r) (nI low) (nI i) = some (rdI (lp (readG σ s) i m (r, low)).1) := by
  have hn := hok.1.1
  have e : hI h 2 1 = nI (sn σ) := hsc.1.1
  intro m
  induction m with
  | zero =>
    intro i r low n h1 h2 h3
    obtain ⟨n, rfl⟩ : ∃ k, n = k + 1 := ⟨n - 1, by omega⟩
    rw [f_X11_readAs_13, e, if_neg (nI_nlt (by omega) (by omega))]; rfl
  | succ m ih =>
    intro i r low n h1 h2 h3
    obtain ⟨n, rfl⟩ : ∃ k, n = k + 1 := ⟨n - 1, by omega⟩
    have hi : i < sn σ := by omega
    have hp := pop_le 10 (sW σ i ^^^ s)
    rw [f_X11_readAs_13, e, if_pos (nI_lt hi (by omega)), bnr_of (X_get hsc hok hi), bnr_of (X_apart hs (hok.1.2 i hi)), Nat.xor_comm s]
    show _ = some (rdI (lp (readG σ s) (i + 1) m (if pop 10 (sW σ i ^^^ s) < low then (i + 1, pop 10 (sW σ i ^^^ s)) else (r, low))).1)
    unfold f_X11_readAs_58
    by_cases hlt : pop 10 (sW σ i ^^^ s) < low
    · rw [if_pos (nI_lt hlt h3), if_pos hlt, nm_eq, nI_1]
      exact ih (i + 1) (i + 1) _ n (by omega) (by omega) (by omega)
    · rw [if_neg (nI_nlt (by omega) (by omega)), if_neg hlt, nm_eq, nI_1]
      exact ih (i + 1) r low n (by omega) (by omega) h3
theorem X_readAs {h : hp} {σ : scn} (hsc : scX h 1 σ) (hok : scOK σ) {s : Nat} (hs : s < 1024) : f_X11_readAs h (nI s) = some (rdI (readS σ s)) := by
  have hl := nearS_lt hok
  have hn := hok.1.1
  unfold f_X11_readAs
  rw [bnr_of (X_near hsc), nm_eq, nI_1]
  exact X_read_lp hsc hok hs (sn σ) 0 0 (nearS σ + 1) 2000 (by omega) (by omega) (by omega)
