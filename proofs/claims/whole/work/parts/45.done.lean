-- ===== the clauses one behind the other: the class's way =====
theorem offs_succ : ∀ (C : List cla) (k : Nat) (c : cla), C[k]? = some c → offs C (k + 1) = offs C k + c.2.2.length := by
  intro C
  induction C with
  | nil => intro k c h; simp at h
  | cons x C ih =>
    intro k c h
    match k, h with
    | 0, h =>
      have : x = c := by simpa using h
      subst this
      show x.2.2.length + offs C 0 = 0 + x.2.2.length
      have : offs C 0 = 0 := by cases C <;> rfl
      omega
    | k + 1, h =>
      have := ih k c (by simpa using h)
      show x.2.2.length + offs C (k + 1) = (x.2.2.length + offs C k) + c.2.2.length
      omega
theorem offs_mono : ∀ (C : List cla) (k : Nat), k ≤ C.length → offs C k ≤ offs C C.length := by
  intro C
  induction C with
  | nil => intro k h; have : k = 0 := by simpa using h
           subst this; exact Nat.le_refl _
  | cons x C ih =>
    intro k h
    match k, h with
    | 0, _ => exact Nat.zero_le _
    | k + 1, h => have := ih k (by simpa using h); show x.2.2.length + offs C k ≤ x.2.2.length + offs C C.length; omega
theorem mvd_lt {v n b : Nat} (hb : b < 1024) : mvd v n b < 1024 := by
  unfold mvd
  have : 2 ^ (n % 10) < 1024 := by
    have h1 : n % 10 < 10 := Nat.mod_lt _ (by decide)
    have : 2 ^ (n % 10) ≤ 2 ^ 9 := Nat.pow_le_pow_right (by decide) (by omega)
    omega
  split
  · exact Nat.or_lt_two_pow (n := 10) hb this
  · split
    · exact and_lt hb
    · exact trn_lt _ _
theorem blS_lt (F : Nat → Nat) : ∀ (cs : List cla) (b : Nat), b < 1024 → blS F cs b < 1024 := by
  intro cs
  induction cs with
  | nil => intro b h; exact h
  | cons c cs ih =>
    intro b h
    show blS F cs (if c.1 = 3 then b else if (evl F c.2.2 []).head? = some true then mvd c.1 c.2.1 b else b) < 1024
    apply ih
    split
    · exact h
    · split
      · exact mvd_lt h
      · exact h
theorem b01_0 {c : Prop} [Decidable c] (h : ¬ c) : b01 (decide c) = 0 := by rw [decide_eq_false h]; rfl
theorem b01_1 {c : Prop} [Decidable c] (h : c) : b01 (decide c) = 1 := by rw [decide_eq_true h]; rfl
theorem X_done_lp {h : hp} {w : Nat} {F : Nat → Nat} {C : List cla} (hw : wdX h w C) (hC : C.length ≤ 10 ∧ ∀ c ∈ C, clOK c) (hF : ∀ j, j < 6 → aI h 35 j = nI (F j) ∧ F j < 2 ^ 31) : ∀ (m k b n : Nat), k + m = C.length → m < n → b < 1024 → f_X9_done_8 h n w 35 (nI b) (nI (offs C k)) (nI k) = some (nI (blS F (C.drop k) b)) := by
  obtain ⟨hk, w3, w6, hof, hcl⟩ := hw
  have hK := hk
  obtain ⟨k1, k2, ⟨k3, k4, k5, k6⟩, s1, s2, s3, s4⟩ := hk
  have hA1 := fun (a : Option Int32) => ckA_of (b := 1) (h := h) (i := w + 1) (e := 0) (n := 10) (a := a) s1 k3 (by decide)
  have hA2 := fun (a : Option Int32) => ckA_of (b := 1) (h := h) (i := w + 2) (e := 0) (n := 10) (a := a) s2 k4 (by decide)
  have hA3 := fun (a : Option Int32) => ckA_of (b := 1) (h := h) (i := w + 3) (e := 0) (n := 10) (a := a) s3 k5 (by decide)
  have hl1 : alen h (w + 1) = 10 := (hA1 none).2
  have hl2 : alen h (w + 2) = 10 := (hA2 none).2
  have hl3 : alen h (w + 3) = 10 := (hA3 none).2
  intro m
  induction m with
  | zero =>
    intro k b n h1 h2 h3
    obtain ⟨n, rfl⟩ : ∃ m, n = m + 1 := ⟨n - 1, by omega⟩
    have : k = C.length := by omega
    rw [f_X9_done_8, ckO_of k1 k2, w3, if_neg (nI_nlt (by omega) (by omega)), this, List.drop_length]
    rfl
  | succ m ih =>
    intro k b n h1 h2 h3
    obtain ⟨n, rfl⟩ : ∃ m, n = m + 1 := ⟨n - 1, by omega⟩
    have hlt : k < C.length := by omega
    have hg : C[k]? = some C[k] := List.getElem?_eq_getElem hlt
    obtain ⟨g1, g2, g3, g4⟩ := hcl k _ hg
    obtain ⟨o1, o2, o3⟩ := hC.2 _ (List.getElem_mem hlt)
    have hkc : (nI k).toNatClampNeg = k := nI_clamp (by omega)
    have hin : vp_in (nI k) 10 := vp_in_nI (by omega) (by decide)
    have hdr : C.drop k = C[k] :: C.drop (k + 1) := List.drop_eq_getElem_cons hlt
    have hos := offs_succ C k _ hg
    have hmo := offs_mono C (k + 1) (by omega)
    have tail : ∀ b2, b2 < 1024 → f_X9_done_64 h (f_X9_done_8 h n) w 35 (nI b2) (nI k) = some (nI (blS F (C.drop (k + 1)) b2)) := by
      intro b2 hb2
      unfold f_X9_done_64
      rw [ckO_of k1 k2, (hA3 _).1, hl3, chk_of hin, nm_eq, nm_eq, hkc, g3, show (1 : Int32) = nI 1 from rfl, nI_add]
      exact ih (k + 1) b2 n (by omega) (by omega) hb2
    rw [hdr]
    show _ = some (nI (blS F (C.drop (k + 1)) (if C[k].1 = 3 then b else if (evl F C[k].2.2 []).head? = some true then mvd C[k].1 C[k].2.1 b else b)))
    rw [f_X9_done_8, ckO_of k1 k2, w3, if_pos (nI_lt hlt (by omega)), ckO_of k1 k2, (hA1 _).1, hl1, chk_of hin, hkc, g1]
    by_cases e3 : C[k].1 = 3
    · rw [if_pos (show nI C[k].1 = (3 : Int32) by rw [e3]; rfl), if_pos e3]
      exact tail b h3
    · rw [if_neg (show ¬ nI C[k].1 = (3 : Int32) from fun z => e3 ((nI_eq (b := 3) (by omega) (by decide)).mp z)), if_neg e3, ckO_of k1 k2, (hA3 _).1, hl3, chk_of hin, ckO_of k1 k2, g3, hos]
      have hh := X_holds_lp hK hF C[k].2.2 [] (offs C k) 2000 (o3.resolve_left e3) (by simp) (by omega) (fun i d hi => g4 i d hi) (by omega)
      have hh2 : f_X9_holds h w (nI (offs C k)) (nI (offs C k + C[k].2.2.length)) 35 = some (b01 (decide ((evl F C[k].2.2 []).head? = some true))) := hh
      rw [bnr_of hh2]
      by_cases e5 : (evl F C[k].2.2 []).head? = some true
      · rw [b01_1 e5, if_neg (show ¬ (1 : Int32) = 0 by decide), if_pos e5, ckO_of k1 k2, (hA1 _).1, chk_of hin, ckO_of k1 k2, (hA2 _).1, hl2, chk_of hin, g2, bnr_of (X_moved (by omega) (by omega) h3)]
        exact tail _ (mvd_lt h3)
      · rw [b01_0 e5, if_pos rfl, if_neg e5]
        exact tail b h3
theorem X_done {h : hp} {w : Nat} {F : Nat → Nat} {C : List cla} (hw : wdX h w C) (hC : C.length ≤ 10 ∧ ∀ c ∈ C, clOK c) (hF : ∀ j, j < 6 → aI h 35 j = nI (F j) ∧ F j < 2 ^ 31) {s : Nat} (hs : s < 1024) : f_X9_done h w (nI s) 35 = some (nI (blS F C s)) := by
  have h0 : offs C 0 = 0 := by cases C <;> rfl
  have := X_done_lp hw hC hF C.length 0 s 2000 (by omega) (by omega) hs
  rw [h0] at this
  exact this
