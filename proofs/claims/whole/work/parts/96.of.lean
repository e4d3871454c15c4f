-- ===== call: of =====
theorem scrX_tL {h : hp} {k : Nat} {v : Int64} : scrX h (tL h 36 k v) := ⟨rfl, rfl, fun _ _ _ _ => rfl, fun i h1 => by funext j; rw [aL_tL, if_neg (by omega)], rfl⟩
def cntT (T : Nat → Bool) : Nat → Nat
  | 0 => 0
  | n + 1 => cntT T n + (T n).toNat
theorem cntT_le {T : Nat → Bool} : ∀ n, cntT T n ≤ n := by
  intro n
  induction n with
  | zero => exact Nat.le_refl _
  | succ n ih =>
    show cntT T n + (T n).toNat ≤ n + 1
    have : (T n).toNat ≤ 1 := Bool.toNat_le _
    omega
theorem cntT_pcn {T : Nat → Bool} {x c : Nat} : ∀ n, (∀ j, j < n → x.testBit j = T (c + j)) → cntT T (c + n) = cntT T c + pcn x n := by
  intro n
  induction n with
  | zero => intro _; rfl
  | succ n ih =>
    intro H
    show cntT T (c + n) + (T (c + n)).toNat = cntT T c + (pcn x n + (x.testBit n).toNat)
    rw [ih (fun j hj => H j (by omega)), H n (by omega)]; omega
def relX (h : hp) (T : Nat → Bool) : Prop := ∀ i, i < 16 → ∀ j, j < 64 → (n64 (aL h 36 i)).testBit j = T (64 * i + j)
def relM (h : hp) (T : Nat → Bool) : Prop := ∀ v, v < 1024 → aI h 68 v = b01 (T v)
theorem X_us2 {h0 : hp} {p : Int32} : ∀ m k n h, scrX h0 h → k + m = 16 → m < n → (∀ i, i < k → aL h 36 i = 0) → ∃ h', f_X11_unlikeSigns_2 n h p (nI k) = f_X11_unlikeSigns_26 2000 h' p (nI 0) ∧ scrX h0 h' ∧ ∀ i, i < 16 → aL h' 36 i = 0 := by
  intro m
  induction m with
  | zero =>
    intro k n h sx h1 h2 H
    obtain ⟨n, rfl⟩ : ∃ j, n = j + 1 := ⟨n - 1, by omega⟩
    have hk : k = 16 := by omega
    subst hk
    rw [f_X11_unlikeSigns_2, if_neg (show ¬ nI 16 < (16 : Int32) by decide)]
    exact ⟨h, rfl, sx, H⟩
  | succ m ih =>
    intro k n h sx h1 h2 H
    obtain ⟨n, rfl⟩ : ∃ j, n = j + 1 := ⟨n - 1, by omega⟩
    rw [f_X11_unlikeSigns_2, if_pos (show nI k < (16 : Int32) from nI_lt (b := 16) (by omega) (by decide)), chk_of (vp_in_nI (n := k) (N := 16) (by omega) (by decide)), nm_eq, nm_eq, nI_clamp (n := k) (by omega), nI_1]
    refine ih (k + 1) n _ (sx.tr scrX_tL) (by omega) (by omega) (fun i hi => ?_)
    rw [aL_tL]
    by_cases e : i = k
    · rw [if_pos ⟨rfl, e⟩]
    · rw [if_neg (by rintro ⟨-, hh⟩; exact e hh)]; exact H i (by omega)
theorem M_cl2 {h0 : hp} {p : Int32} : ∀ m k n h, scrM h0 h → k + m = 1024 → m < n → (∀ i, i < k → aI h 68 i = 0) → ∃ h', f_X12_clear_2 n h p (nI k) = f_X12_clear_24 2000 h' p (nI 0) ∧ scrM h0 h' ∧ ∀ i, i < 1024 → aI h' 68 i = 0 := by
  intro m
  induction m with
  | zero =>
    intro k n h sx h1 h2 H
    obtain ⟨n, rfl⟩ : ∃ j, n = j + 1 := ⟨n - 1, by omega⟩
    have hk : k = 1024 := by omega
    subst hk
    rw [f_X12_clear_2, if_neg (show ¬ nI 1024 < (1024 : Int32) by decide)]
    exact ⟨h, rfl, sx, H⟩
  | succ m ih =>
    intro k n h sx h1 h2 H
    obtain ⟨n, rfl⟩ : ∃ j, n = j + 1 := ⟨n - 1, by omega⟩
    rw [f_X12_clear_2, if_pos (show nI k < (1024 : Int32) from nI_lt (b := 1024) (by omega) (by decide)), chk_of (vp_in_nI (n := k) (N := 1024) (by omega) (by decide)), nm_eq, nm_eq, nI_clamp (n := k) (by omega), nI_1]
    refine ih (k + 1) n _ (sx.tr (scrM_tI (Or.inr (Or.inl rfl)))) (by omega) (by omega) (fun i hi => ?_)
    rw [aI_tI]
    by_cases e : i = k
    · rw [if_pos ⟨rfl, e⟩]; rfl
    · rw [if_neg (by rintro ⟨-, hh⟩; exact e hh)]; exact H i (by omega)
theorem bit_at : ∀ v, v < 1024 → n64 ((1 : Int64) <<< ((nI v - nI v / (64 : Int32) * (64 : Int32)).toInt64 &&& 63)) = 2 ^ (v % 64) ∧ nI v / (64 : Int32) = nI (v / 64) := by decide +kernel
theorem n64_or (x y : Int64) : n64 (x ||| y) = n64 x ||| n64 y := by
  unfold n64
  rw [Int64.toUInt64_or, UInt64.toNat_or]
theorem clear_lp {hx0 hm0 : hp} {S : sst} (hX0 : RX hx0 S) (hM0 : RM hm0 S) (hok : SOK S) {p : Nat} (hp : p < sp S.1) : ∀ m k n hx hm T, scrX hx0 hx → scrM hm0 hm → k + m = 1024 → m < n → relX hx T → relM hm T → ∃ hx' hm' T', f_X11_unlikeSigns_26 n hx (nI p) (nI k) = f_X11_unlikeSigns_68 2000 hx' (nI 0) (nI 0) ∧ f_X12_clear_24 n hm (nI p) (nI k) = f_X12_clear_53 2000 hm' (nI 0) (nI 0) ∧ scrX hx0 hx' ∧ scrM hm0 hm' ∧ relX hx' T' ∧ relM hm' T' := by
  intro m
  induction m with
  | zero =>
    intro k n hx hm T sx sm h1 h2 rx rm
    obtain ⟨n, rfl⟩ : ∃ j, n = j + 1 := ⟨n - 1, by omega⟩
    have hk : k = 1024 := by omega
    subst hk
    rw [f_X11_unlikeSigns_26, f_X12_clear_24, if_neg (show ¬ nI 1024 < (1024 : Int32) by decide), if_neg (show ¬ nI 1024 < (1024 : Int32) by decide)]
    exact ⟨hx, hm, T, rfl, rfl, sx, sm, rx, rm⟩
  | succ m ih =>
    intro k n hx hm T sx sm h1 h2 rx rm
    obtain ⟨n, rfl⟩ : ∃ j, n = j + 1 := ⟨n - 1, by omega⟩
    have e : nI k < (1024 : Int32) := nI_lt (b := 1024) (by omega) (by decide)
    obtain ⟨hx', hm', v, hv, y1, z1, y2, z2, -⟩ := XM_show (RX_scr sx hX0) (RM_scr sm hM0) hok hp (show k < 1024 by omega)
    have kx : aL hx' 36 = aL hx 36 := keepX (Q_ := fun h => aL h 36 = aL hx 36) (fun h k v H => H) rfl _ _ y1
    have km : aI hm' 68 = aI hm 68 := keepM (Q_ := fun h => aI h 68 = aI hm 68) (fun h k v H => by rw [← H]; funext j; rw [aI_tI, if_neg (by omega)]) rfl _ _ z1
    obtain ⟨b1, b2⟩ := bit_at v hv
    rw [f_X11_unlikeSigns_26, f_X12_clear_24, if_pos e, if_pos e, bnd_of y1, bnd_of z1, nz_of (by decide), b2, chk_of (vp_in_nI (n := v / 64) (N := 16) (by omega) (by decide)), nz_of (by decide), chk_of (vp_in_nI (n := v / 64) (N := 16) (by omega) (by decide)), chk_of (vp_in_nI (n := v) (N := 1024) hv (by decide)), nm_eq, nm_eq, nm_eq, nm_eq, nI_clamp (n := v / 64) (by omega), nI_clamp (n := v) (by omega), nI_1]
    rw [b2] at b1
    refine ih (k + 1) n _ _ (fun w => decide (w = v) || T w) (sx.tr (y2.tr scrX_tL)) (sm.tr (z2.tr (scrM_tI (Or.inr (Or.inl rfl))))) (by omega) (by omega) (fun i hi j hj => ?_) (fun w hw => ?_)
    · show _ = (decide (64 * i + j = v) || T (64 * i + j))
      rw [aL_tL, kx]
      by_cases ei : i = v / 64
      · rw [if_pos ⟨rfl, ei⟩, n64_or, b1, Nat.testBit_or, Nat.testBit_two_pow, ← ei, rx i hi j hj, Bool.or_comm]
        have : decide (v % 64 = j) = decide (64 * i + j = v) := by
          by_cases ej : v % 64 = j
          · rw [decide_eq_true ej, decide_eq_true (by omega)]
          · rw [decide_eq_false ej, decide_eq_false (by omega)]
        rw [this]
      · rw [if_neg (by rintro ⟨-, hh⟩; exact ei hh), rx i hi j hj, decide_eq_false (show ¬ 64 * i + j = v by omega), Bool.false_or]
    · show _ = b01 (decide (w = v) || T w)
      rw [aI_tI, km]
      by_cases ei : w = v
      · rw [if_pos ⟨rfl, ei⟩, decide_eq_true ei, Bool.true_or]; rfl
      · rw [if_neg (by rintro ⟨-, hh⟩; exact ei hh), decide_eq_false ei, Bool.false_or]; exact rm w hw
theorem X_us68 {h : hp} {T : Nat → Bool} (rx : relX h T) : ∀ m k n, k + m = 16 → m < n → f_X11_unlikeSigns_68 n h (nI (cntT T (64 * k))) (nI k) = some (h, nI (cntT T 1024)) := by
  intro m
  induction m with
  | zero =>
    intro k n h1 h2
    obtain ⟨n, rfl⟩ : ∃ j, n = j + 1 := ⟨n - 1, by omega⟩
    have hk : k = 16 := by omega
    subst hk
    rw [f_X11_unlikeSigns_68, if_neg (show ¬ nI 16 < (16 : Int32) by decide)]
  | succ m ih =>
    intro k n h1 h2
    obtain ⟨n, rfl⟩ : ∃ j, n = j + 1 := ⟨n - 1, by omega⟩
    rw [f_X11_unlikeSigns_68, if_pos (show nI k < (16 : Int32) from nI_lt (b := 16) (by omega) (by decide)), chk_of (vp_in_nI (n := k) (N := 16) (by omega) (by decide)), nI_clamp (n := k) (by omega), bnr_of (popc _ _), nm_eq, nm_eq, nI_1, nI_add, ← cntT_pcn (T := T) (c := 64 * k) 64 (fun j hj => rx k (by omega) j hj)]
    exact ih (k + 1) n (by omega) (by omega)
theorem M_cl53 {h : hp} {T : Nat → Bool} (rm : relM h T) : ∀ m k n, k + m = 1024 → m < n → f_X12_clear_53 n h (nI (cntT T k)) (nI k) = some (h, nI (cntT T 1024)) := by
  intro m
  induction m with
  | zero =>
    intro k n h1 h2
    obtain ⟨n, rfl⟩ : ∃ j, n = j + 1 := ⟨n - 1, by omega⟩
    have hk : k = 1024 := by omega
    subst hk
    rw [f_X12_clear_53, if_neg (show ¬ nI 1024 < (1024 : Int32) by decide)]
  | succ m ih =>
    intro k n h1 h2
    obtain ⟨n, rfl⟩ : ∃ j, n = j + 1 := ⟨n - 1, by omega⟩
    have hs : cntT T (k + 1) = cntT T k + (T k).toNat := rfl
    rw [f_X12_clear_53, if_pos (show nI k < (1024 : Int32) from nI_lt (b := 1024) (by omega) (by decide)), chk_of (vp_in_nI (n := k) (N := 1024) (by omega) (by decide)), nI_clamp (n := k) (by omega), rm k (by omega)]
    unfold f_X12_clear_75
    cases hT : T k with
    | false =>
      rw [if_pos (show b01 false = 0 from rfl), nm_eq, nm_eq, nI_1]
      have := ih (k + 1) n (by omega) (by omega)
      rw [hs, hT] at this
      rw [show nI (cntT T k) + (0 : Int32) = nI (cntT T k + false.toNat) from (Int32.add_zero _)]
      exact this
    | true =>
      rw [if_neg (show ¬ b01 true = 0 by decide), nm_eq, nm_eq, nI_1, nI_1]
      have := ih (k + 1) n (by omega) (by omega)
      rw [hs, hT] at this
      exact this
theorem XM_clear {hx hm : hp} {S : sst} (hX : RX hx S) (hM : RM hm S) (hok : SOK S) {p : Nat} (hp : p < sp S.1) : ∃ hx' hm' r, f_X11_unlikeSigns hx (nI p) = some (hx', r) ∧ f_X12_clear hm (nI p) = some (hm', r) ∧ scrX hx hx' ∧ scrM hm hm' := by
  obtain ⟨h1, a1, a2, a3⟩ := X_us2 (h0 := hx) (p := nI p) 16 0 2000 hx scrX.rf rfl (by decide) (fun i hi => absurd hi (Nat.not_lt_zero _))
  obtain ⟨g1, c1, c2, c3⟩ := M_cl2 (h0 := hm) (p := nI p) 1024 0 2000 hm scrM.rf rfl (by decide) (fun i hi => absurd hi (Nat.not_lt_zero _))
  obtain ⟨h2, g2, T, e1, e2, e3, e4, e5, e6⟩ := clear_lp hX hM hok hp 1024 0 2000 h1 g1 (fun _ => false) a2 c2 rfl (by decide) (fun i hi j hj => by rw [a3 i hi]; exact Nat.zero_testBit _) (fun v hv => c3 v hv)
  refine ⟨h2, g2, nI (cntT T 1024), ?_, ?_, e3, e4⟩
  · unfold f_X11_unlikeSigns
    exact a1.trans (e1.trans (X_us68 e5 16 0 2000 rfl (by decide)))
  · unfold f_X12_clear
    exact c1.trans (e2.trans (M_cl53 e6 1024 0 2000 rfl (by decide)))
theorem s_of {hx hm : hp} (H : Sim hx hm) (a b : Int32) : ∃ hx' hm' r, f_X11_of hx a b = some (hx', r) ∧ f_X12_of hm a b = some (hm', r) ∧ Sim hx' hm' := by
  have H0 := H
  obtain ⟨S, hX, hM, hok, ht⟩ := H
  have hp5 := hok.1.1.2.1.1
  have e0 : hI hm 52 1 = nI (sp S.1) := hM.1.2.1.1
  have hn8 := hok.1.1.1.1
  unfold f_X11_of f_X12_of
  rw [bnr_of (X_isSender hX.1.1 hok.1.1), bnr_of (M_isSender e0 (by omega))]
  rcases arg_split a (sp S.1) (by omega) with ⟨p, hp, rfl⟩ | hx0
  · rw [if_neg (arg_no hp (by omega)), if_neg ne10, if_neg ne10]
    obtain ⟨o, ho, hs⟩ := hX.1.1.2.1.2.1 p hp
    have hS : kdOf hx o ∈ sndK := by rw [hs.2.2.1]; exact sndQ_in
    have hin : vp_in (nI p) 5 := vp_in_nI (by omega) (by decide)
    have hcp : (nI p).toNatClampNeg = p := nI_clamp (by omega)
    obtain ⟨m1, m2, m3, -⟩ := hM.1.2.1.2 p hp
    by_cases b0 : b = 0
    · rw [if_pos b0, if_pos b0, chk_of hin, chk_of hin, hcp, onO_of (show aR hx 4 p = some o from ho), ckS_of hs.1 hS, hs.2.2.2.2.1, m1]
      exact ⟨hx, hm, _, rfl, rfl, H0⟩
    rw [if_neg b0, if_neg b0]
    by_cases b1 : b = 1
    · rw [if_pos b1, if_pos b1, chk_of hin, chk_of hin, hcp, onO_of (show aR hx 4 p = some o from ho), ckS_of hs.1 hS, hs.2.2.2.2.2, m2]
      exact ⟨hx, hm, _, rfl, rfl, H0⟩
    rw [if_neg b1, if_neg b1]
    by_cases b2 : b = 2
    · rw [if_pos b2, if_pos b2, chk_of hin, chk_of hin, hcp, show aI hx 5 p = _ from hX.1.1.2.1.2.2.1 p (by omega), if_pos hp, m3]
      exact ⟨hx, hm, _, rfl, rfl, H0⟩
    rw [if_neg b2, if_neg b2]
    by_cases b3 : b = 3
    · rw [if_pos b3, if_pos b3]
      obtain ⟨hx', hm', r, y1, y2, y3, y4⟩ := through_lp hX hM hok hp (sn S.1) 0 2000 hx hm 0 scrX.rf scrM.rf (Nat.zero_add _) (by omega)
      have y1' : f_X11_wordsThrough hx (nI p) = some (hx', r) := y1
      have y2' : f_X12_through hm (nI p) = some (hm', r) := y2
      rw [bnd_of y1', bnd_of y2']
      exact ⟨hx', hm', r, rfl, rfl, Sim_scr y3 y4 H0⟩
    rw [if_neg b3, if_neg b3]
    by_cases b4 : b = 4
    · rw [if_pos b4, if_pos b4]
      obtain ⟨hx', hm', r, y1, y2, y3, y4⟩ := XM_clear hX hM hok hp
      rw [bnd_of y1, bnd_of y2]
      exact ⟨hx', hm', r, rfl, rfl, Sim_scr y3 y4 H0⟩
    rw [if_neg b4, if_neg b4]
    exact ⟨hx, hm, _, rfl, rfl, H0⟩
  · rw [if_pos hx0, if_pos rfl, if_pos rfl]
    exact ⟨hx, hm, _, rfl, rfl, H0⟩
