-- ===== the reference: what a sender shows, what a sign is read as =====
theorem scM1_scr {h h' : hp} {σ : scn} (hs : scrM h h') (H : scM1 h σ) : scM1 h' σ := by
  have hi : hI h' = hI h := by funext a b; show h'.1 a b = h.1 a b; rw [hs.1]
  have e := fun a h1 h2 h3 h4 => hs.2.2.1 a h1 h2 h3 h4
  unfold scM1 scM wdM at H ⊢
  simp only [hi, e 53 (by decide) (by decide) (by decide) (by decide), e 54 (by decide) (by decide) (by decide) (by decide), e 55 (by decide) (by decide) (by decide) (by decide), e 56 (by decide) (by decide) (by decide) (by decide), e 57 (by decide) (by decide) (by decide) (by decide), e 59 (by decide) (by decide) (by decide) (by decide), e 60 (by decide) (by decide) (by decide) (by decide), e 61 (by decide) (by decide) (by decide) (by decide), e 62 (by decide) (by decide) (by decide) (by decide), e 63 (by decide) (by decide) (by decide) (by decide), e 64 (by decide) (by decide) (by decide) (by decide), e 71 (by decide) (by decide) (by decide) (by decide), e 72 (by decide) (by decide) (by decide) (by decide), e 73 (by decide) (by decide) (by decide) (by decide), e 74 (by decide) (by decide) (by decide) (by decide), e 75 (by decide) (by decide) (by decide) (by decide)]
  exact H
theorem nI_10f {f : Nat} : (10 : Int32) * nI f = nI (10 * f) := by rw [show (10 : Int32) = nI 10 from rfl, pk_mul]
theorem M_behind_some {h : hp} {f : Nat} {C : List cla} (h9 : hI h 52 9 = nI f) (hf : f < 6) (hC : aI h 59 f = nI C.length) : f_X12_behind h = some (nI (10 * f + C.length)) := by
  unfold f_X12_behind f_X12_behind_28
  rw [h9, if_neg (nI_pos (by omega)), chk_of (vp_in_nI hf (by decide)), nI_clamp (by omega), hC, nI_10f, nI_add]
theorem M_begin_some {h : hp} {f : Nat} (h9 : hI h 52 9 = nI f) (hf : f < 6) : f_X12_begin h = some (nI (10 * f)) := by
  unfold f_X12_begin f_X12_begin_18
  rw [h9, if_neg (nI_pos (by omega)), nI_10f]
theorem M_near_lp {h : hp} {f : Nat} {C : List cla} (h9 : hI h 52 9 = nI f) (hf : f < 6) (hw : wdM h f C) (hC : C.length ≤ 10 ∧ ∀ c ∈ C, clOK c) : ∀ m k a n, k + m = C.length → m < n → f_X12_near_7 h n (nI a) (nI (10 * f + k)) = some (nI (nearL (C.drop k) a)) := by
  have hb := M_behind_some h9 hf hw.1
  intro m
  induction m with
  | zero =>
    intro k a n h1 h2
    obtain ⟨n, rfl⟩ : ∃ j, n = j + 1 := ⟨n - 1, by omega⟩
    have hk : k = C.length := by omega
    subst hk
    rw [f_X12_near_7, bnr_of hb, if_neg (nI_nlt (by omega) (by omega)), List.drop_length]; rfl
  | succ m ih =>
    intro k a n h1 h2
    obtain ⟨n, rfl⟩ : ∃ j, n = j + 1 := ⟨n - 1, by omega⟩
    have hlt : k < C.length := by omega
    have hg : C[k]? = some C[k] := List.getElem?_eq_getElem hlt
    obtain ⟨g1, g2, -⟩ := hw.2 k _ hg
    have o1 := (hC.2 _ (List.getElem_mem hlt)).1
    have hin : vp_in (nI (10 * f + k)) 60 := vp_in_nI (by omega) (by decide)
    have hcl : (nI (10 * f + k)).toNatClampNeg = 10 * f + k := nI_clamp (by omega)
    rw [List.drop_eq_getElem_cons hlt]
    show _ = some (nI (nearL (C.drop (k + 1)) (if C[k].1 = 3 then C[k].2.1 else a)))
    rw [f_X12_near_7, bnr_of hb, if_pos (nI_lt (by omega) (by omega)), chk_of hin, hcl, g1]
    unfold f_X12_near_35
    by_cases e3 : C[k].1 = 3
    · rw [if_pos (show nI C[k].1 = (3 : Int32) by rw [e3]; rfl), if_pos e3, chk_of hin, g2, nm_eq, nI_1]
      exact ih (k + 1) C[k].2.1 n (by omega) (by omega)
    · rw [if_neg (show ¬ nI C[k].1 = (3 : Int32) from fun z => e3 ((nI_eq (b := 3) (by omega) (by decide)).mp z)), if_neg e3, nm_eq, nI_1]
      exact ih (k + 1) a n (by omega) (by omega)
theorem M_near {h : hp} {σ : scn} (hsc : scM1 h σ) (hok : scOK σ) : f_X12_near h = some (nI (nearS σ)) := by
  obtain ⟨-, -, -, -, -, -, q8⟩ := hsc
  have o8 := hok.2.2.2.2.2.2
  unfold f_X12_near nearS cls
  cases hC : sC σ with
  | none =>
    rw [hC] at q8
    have e : hI h 52 9 = -1 := q8
    have hb : f_X12_begin h = some (0 : Int32) := by unfold f_X12_begin f_X12_begin_18; rw [e]; rfl
    have hh : f_X12_behind h = some (0 : Int32) := by unfold f_X12_behind f_X12_behind_28; rw [e]; rfl
    rw [bnr_of hb, f_X12_near_7, bnr_of hh]; rfl
  | some C =>
    rw [hC] at q8
    obtain ⟨f, wn, h1, h2, h3, h4, h5⟩ := q8
    rw [bnr_of (M_begin_some h4 (by omega))]
    exact M_near_lp h4 (by omega) h5 (o8 C hC) C.length 0 2 2000 (by omega) (by have := (o8 C hC).1; omega)
theorem M_holds {σ : scn} {f c p s : Nat} {cl : cla} {h : hp} {F : Nat → Nat} (hc : c < 60) (hF : ∀ h', scrM h h' → ∀ j, j < 6 → f_X12_factOf h' (nI j) (nI p) (nI s) = some (nI (F j)) ∧ F j < 2 ^ 31) (hf : f < 6) (hd : dep cl.2.2 0 = some 1) (hw : ∃ a, a + cl.2.2.length ≤ 100 * (f + 1) ∧ aI h 62 c = nI a ∧ aI h 63 c = nI (a + cl.2.2.length) ∧ ∀ j d, cl.2.2[j]? = some d → aI h 64 (a + j) = stepM d) : ∃ h', f_X12_holds h (nI c) (nI p) (nI s) = some (h', b01 (decide ((evl F cl.2.2 []).head? = some true))) ∧ scrM h h' := by
  obtain ⟨a, a1, a2, a3, a4⟩ := hw
  unfold f_X12_holds
  rw [chk_of (vp_in_nI hc (by decide)), nm_eq, nI_clamp (by omega), a2]
  exact M_holds_lp hc hF a3 (by omega) cl.2.2 [] a 2000 h scrM.rf hd (by simp) rfl (fun i d hi => a4 i d hi) (fun i hi => by simp at hi) (by omega)
theorem M_fact {h : hp} {σ : scn} {p s : Nat} (hsc : scM1 h σ) (hok : scOK σ) (hp : p < sp σ) (hs : s < 1024) : ∀ h', scrM h h' → ∀ j, j < 6 → f_X12_factOf h' (nI j) (nI p) (nI s) = some (nI (factS σ p (sV σ p) (sH σ) s j)) ∧ factS σ p (sV σ p) (sH σ) s j < 2 ^ 31 := by
  intro h' hs' j hj
  obtain ⟨-, ⟨-, q2⟩, q3, -⟩ := scM1_scr hs' hsc
  obtain ⟨g1, g2, g3, -⟩ := q2 p hp
  obtain ⟨o1, o2, o3, -⟩ := hok.2.1.2 p hp
  have hH : sH σ ≤ 20000 := hok.2.2.1
  have hp5 : p < 5 := by have := hok.2.1.1; omega
  have hp10 := pop_le 10 s
  refine ⟨M_factOf hp5 hs g1 g2 g3 q3 (by omega) (by omega) hj, ?_⟩
  unfold factS
  repeat' split
  all_goals omega
theorem M_blind_lp {h0 : hp} {σ : scn} {f p s : Nat} {C : List cla} (hsc : scM1 h0 σ) (hok : scOK σ) (hp : p < sp σ) (hs : s < 1024) (h9 : hI h0 52 9 = nI f) (hf : f < 6) (hw : wdM h0 f C) (hC : C.length ≤ 10 ∧ ∀ c ∈ C, clOK c) : ∀ m k b n h, k + m = C.length → m < n → b < 1024 → scrM h0 h → ∃ h', f_X12_blind_8 n h (nI p) (nI s) (nI b) (nI (10 * f + k)) = some (h', nI (blS (factS σ p (sV σ p) (sH σ) s) (C.drop k) b)) ∧ scrM h0 h' := by
  intro m
  induction m with
  | zero =>
    intro k b n h h1 h2 h3 h4
    obtain ⟨n, rfl⟩ : ∃ j, n = j + 1 := ⟨n - 1, by omega⟩
    have hk : k = C.length := by omega
    subst hk
    have e9 : hI h 52 9 = nI f := by show h.1 52 9 = _; rw [h4.1]; exact h9
    have e59 : aI h 59 f = nI C.length := by rw [h4.2.2.1 59 (by decide) (by decide) (by decide) (by decide)]; exact hw.1
    rw [f_X12_blind_8, bnr_of (M_behind_some e9 hf e59), if_neg (nI_nlt (by omega) (by omega)), List.drop_length]
    exact ⟨h, rfl, h4⟩
  | succ m ih =>
    intro k b n h h1 h2 h3 h4
    obtain ⟨n, rfl⟩ : ∃ j, n = j + 1 := ⟨n - 1, by omega⟩
    have hlt : k < C.length := by omega
    have hg : C[k]? = some C[k] := List.getElem?_eq_getElem hlt
    have r59 := h4.2.2.1 59 (by decide) (by decide) (by decide) (by decide)
    have r60 := h4.2.2.1 60 (by decide) (by decide) (by decide) (by decide)
    have r61 := h4.2.2.1 61 (by decide) (by decide) (by decide) (by decide)
    have r62 := h4.2.2.1 62 (by decide) (by decide) (by decide) (by decide)
    have r63 := h4.2.2.1 63 (by decide) (by decide) (by decide) (by decide)
    have r64 := h4.2.2.1 64 (by decide) (by decide) (by decide) (by decide)
    have e9 : hI h 52 9 = nI f := by show h.1 52 9 = _; rw [h4.1]; exact h9
    have e59 : aI h 59 f = nI C.length := by rw [r59]; exact hw.1
    obtain ⟨g1, g2, g3⟩ := hw.2 k _ hg
    obtain ⟨o1, o2, o3⟩ := hC.2 _ (List.getElem_mem hlt)
    have hin : vp_in (nI (10 * f + k)) 60 := vp_in_nI (by omega) (by decide)
    have hcl : (nI (10 * f + k)).toNatClampNeg = 10 * f + k := nI_clamp (by omega)
    rw [List.drop_eq_getElem_cons hlt]
    show ∃ h', _ = some (h', nI (blS (factS σ p (sV σ p) (sH σ) s) (C.drop (k + 1)) (if C[k].1 = 3 then b else if (evl (factS σ p (sV σ p) (sH σ) s) C[k].2.2 []).head? = some true then mvd C[k].1 C[k].2.1 b else b))) ∧ _
    rw [f_X12_blind_8, bnr_of (M_behind_some e9 hf e59), if_pos (nI_lt (by omega) (by omega)), chk_of hin, hcl, r60, g1]
    unfold f_X12_blind_105 f_X12_blind_106
    by_cases e3 : C[k].1 = 3
    · rw [if_pos (show nI C[k].1 = (3 : Int32) by rw [e3]; rfl), if_pos e3, nm_eq, nI_1]
      exact ih (k + 1) b n h (by omega) (by omega) h3 h4
    · rw [if_neg (show ¬ nI C[k].1 = (3 : Int32) from fun z => e3 ((nI_eq (b := 3) (by omega) (by decide)).mp z)), if_neg e3]
      obtain ⟨h1', x1, x2⟩ := M_holds (σ := σ) (f := f) (c := 10 * f + k) (p := p) (s := s) (cl := C[k]) (h := h) (F := factS σ p (sV σ p) (sH σ) s) (by omega) (M_fact (scM1_scr h4 hsc) hok hp hs) hf (o3.resolve_left e3) (by rw [r62, r63, r64]; exact g3.resolve_left e3)
      have s5 := h4.tr x2
      have t60 : aI h1' 60 (10 * f + k) = nI C[k].1 := by rw [s5.2.2.1 60 (by decide) (by decide) (by decide) (by decide)]; exact g1
      have t61 : aI h1' 61 (10 * f + k) = nI C[k].2.1 := by rw [s5.2.2.1 61 (by decide) (by decide) (by decide) (by decide)]; exact g2
      rw [bnd_of x1]
      by_cases e5 : (evl (factS σ p (sV σ p) (sH σ) s) C[k].2.2 []).head? = some true
      · rw [b01_1 e5, if_neg (show ¬ (1 : Int32) = 0 by decide), if_pos e5, chk_of hin, nz_of (by decide), t61, rem10 (by omega), one_shl _ (by omega), nm_eq, chk_of hin, t60, chk_of hin, chk_of hin]
        rcases (show C[k].1 = 0 ∨ C[k].1 = 1 ∨ C[k].1 = 2 by omega) with e | e | e
        · rw [e, if_pos (show nI 0 = 0 from rfl), nm_eq, nI_1, nI_or]
          exact ih (k + 1) _ n h1' (by omega) (by omega) (by have := mvd_lt (v := 0) (n := C[k].2.1) h3; exact this) s5
        · rw [e, if_neg (show ¬ nI 1 = 0 by decide), if_pos (show nI 1 = (1 : Int32) from rfl), nm_eq, nI_1, clr0 _ (Nat.mod_lt _ (by decide)) b h3]
          exact ih (k + 1) _ n h1' (by omega) (by omega) (by have := mvd_lt (v := 1) (n := C[k].2.1) h3; exact this) s5
        · rw [e, if_neg (show ¬ nI 2 = 0 by decide), if_neg (show ¬ nI 2 = (1 : Int32) by decide), bnr_of (M_turned h3 (by omega)), nm_eq, nI_1]
          exact ih (k + 1) _ n h1' (by omega) (by omega) (by have := mvd_lt (v := 2) (n := C[k].2.1) h3; exact this) s5
      · rw [b01_0 e5, if_pos rfl, if_neg e5, nm_eq, nI_1]
        exact ih (k + 1) b n h1' (by omega) (by omega) h3 s5
theorem M_blind {h : hp} {σ : scn} {p s : Nat} (hsc : scM1 h σ) (hok : scOK σ) (hp : p < sp σ) (hs : s < 1024) : ∃ h', f_X12_blind h (nI p) (nI s) = some (h', nI (blS (factS σ p (sV σ p) (sH σ) s) (cls σ) s)) ∧ scrM h h' := by
  have H := hsc
  obtain ⟨-, -, -, -, -, -, q8⟩ := hsc
  have o8 := hok.2.2.2.2.2.2
  unfold f_X12_blind cls
  cases hC : sC σ with
  | none =>
    rw [hC] at q8
    have e : hI h 52 9 = -1 := q8
    have hb : f_X12_begin h = some (0 : Int32) := by unfold f_X12_begin f_X12_begin_18; rw [e]; rfl
    have hh : f_X12_behind h = some (0 : Int32) := by unfold f_X12_behind f_X12_behind_28; rw [e]; rfl
    rw [bnr_of hb, f_X12_blind_8, bnr_of hh]
    exact ⟨h, rfl, scrM.rf⟩
  | some C =>
    rw [hC] at q8
    obtain ⟨f, wn, h1, h2, h3, h4, h5⟩ := q8
    rw [bnr_of (M_begin_some h4 (by omega))]
    exact M_blind_lp H hok hp hs h4 (by omega) h5 (o8 C hC) C.length 0 s 2000 h (by omega) (by have := (o8 C hC).1; omega) hs scrM.rf
theorem M_showsOf {h : hp} {σ : scn} {p s : Nat} (hsc : scM1 h σ) (hok : scOK σ) (hp : p < sp σ) (hs : s < 1024) : ∃ h', f_X12_showsOf h (nI p) (nI s) = some (h', nI (showsS σ p (sV σ p) (sH σ) s)) ∧ scrM h h' := by
  obtain ⟨h1, e1, e2⟩ := M_blind hsc hok hp hs
  have hb := blS_lt (factS σ p (sV σ p) (sH σ) s) (cls σ) s hs
  obtain ⟨-, ⟨-, q2⟩, q3, -⟩ := scM1_scr e2 hsc
  obtain ⟨g1, g2, g3, g4⟩ := q2 p hp
  obtain ⟨o1, o2, o3, -⟩ := hok.2.1.2 p hp
  have hH : sH σ ≤ 20000 := hok.2.2.1
  have hp5 : p < 5 := by have := hok.2.1.1; omega
  have hin : vp_in (nI p) 5 := vp_in_nI hp5 (by decide)
  have hm : sH σ % 4 < 4 := Nat.mod_lt _ (by decide)
  have e4 : (4 : Int32) * nI p + nI (sH σ % 4) = nI (4 * p + sH σ % 4) := by rw [show (4 : Int32) = nI 4 from rfl, pk_mul, nI_add]
  have e341 : nI (blS (factS σ p (sV σ p) (sH σ) s) (cls σ) s) &&& (341 : Int32) = nI (blS (factS σ p (sV σ p) (sH σ) s) (cls σ) s &&& 341) := nI_and _ 341
  refine ⟨h1, ?_, e2⟩
  have g1 : aI h1 54 p = nI (sK' σ p) := g1
  have q3 : hI h1 52 2 = nI (sH σ) := q3
  unfold f_X12_showsOf f_X12_showsOf_105 showsS shw
  rw [bnd_of e1, chk_of hin, nI_clamp (by omega), g1, chk_of hin, nz_of (by decide), nz_of (by decide), q3, rem2 (by omega), rem4 (by omega), e4, chk_of (vp_in_nI (n := 4 * p + sH σ % 4) (N := 20) (by omega) (by decide)), nI_clamp (n := 4 * p + sH σ % 4) (by omega), chk_of hin, show aI h1 55 p = nI (sV σ p) from g2, one_shl _ (by omega), show aI h1 57 (4 * p + sH σ % 4) = nI (sRw σ (4 * p + sH σ % 4)) from g4 _ hm, e341]
  generalize blS (factS σ p (sV σ p) (sH σ) s) (cls σ) s = B at hb ⊢
  rcases (show sK' σ p = 0 ∨ sK' σ p = 1 ∨ sK' σ p = 2 ∨ sK' σ p = 3 ∨ sK' σ p = 4 ∨ sK' σ p = 5 ∨ sK' σ p = 6 by omega) with e | e | e | e | e | e | e <;> rw [e]
  · rfl
  · rw [if_pos (show nI 1 = (1 : Int32) from rfl), bnr_of (show f_X12_turned h1 (nI B) (1 : Int32) = _ from M_turned (n := 1) hb (by decide))]; rfl
  · rfl
  · rw [nI_xor]; rfl
  · show (bnr (f_X12_turned h1 (nI B) 1) fun r12 => bnr (f_X12_mirrored h1 r12) fun r14 => some (h1, r14)) = _
    rw [bnr_of (show f_X12_turned h1 (nI B) (1 : Int32) = _ from M_turned (n := 1) hb (by decide)), bnr_of (M_mir (trn_lt _ _))]; rfl
  · by_cases ht : sH σ % 2 = 0
    · rw [ht]; rfl
    · rw [if_neg (show ¬ nI (sH σ % 2) = 0 from nI_ne0 (by omega) (by omega)), if_neg ht]; rfl
  · rw [nI_xor, nI_xor]; rfl
theorem M_read_lp {h : hp} {σ : scn} (hsc : scM1 h σ) (hok : scOK σ) {s : Nat} (hs : s < 1024) : ∀ m i r low n, i + m = sn σ → m < n → low < 2 ^ 31 → f_X12_readOf_13 h n (nI s) (rdI r) (nI low) (nI i) = some (rdI (lp (readG σ s) i m (r, low)).1) := by
  have hn := hok.1.1
  have e : hI h 52 0 = nI (sn σ) := hsc.1.1
  intro m
  induction m with
  | zero =>
    intro i r low n h1 h2 h3
    obtain ⟨n, rfl⟩ : ∃ k, n = k + 1 := ⟨n - 1, by omega⟩
    rw [f_X12_readOf_13, e, if_neg (nI_nlt (by omega) (by omega))]; rfl
  | succ m ih =>
    intro i r low n h1 h2 h3
    obtain ⟨n, rfl⟩ : ∃ k, n = k + 1 := ⟨n - 1, by omega⟩
    have hi : i < sn σ := by omega
    have hp := pop_le 10 (sW σ i ^^^ s)
    rw [f_X12_readOf_13, e, if_pos (nI_lt hi (by omega)), chk_of (vp_in_nI (by omega) (by decide)), nI_clamp (by omega), show aI h 53 i = nI (sW σ i) from hsc.1.2 i hi, bnr_of (M_bits_x (hok.1.2 i hi) hs)]
    show _ = some (rdI (lp (readG σ s) (i + 1) m (if pop 10 (sW σ i ^^^ s) < low then (i + 1, pop 10 (sW σ i ^^^ s)) else (r, low))).1)
    unfold f_X12_readOf_52
    by_cases hlt : pop 10 (sW σ i ^^^ s) < low
    · rw [if_pos (nI_lt hlt h3), if_pos hlt, nm_eq, nI_1]
      exact ih (i + 1) (i + 1) _ n (by omega) (by omega) (by omega)
    · rw [if_neg (nI_nlt (by omega) (by omega)), if_neg hlt, nm_eq, nI_1]
      exact ih (i + 1) r low n (by omega) (by omega) h3
theorem M_readOf {h : hp} {σ : scn} (hsc : scM1 h σ) (hok : scOK σ) {s : Nat} (hs : s < 1024) : f_X12_readOf h (nI s) = some (rdI (readS σ s)) := by
  have hl := nearS_lt hok
  have hn := hok.1.1
  unfold f_X12_readOf
  rw [bnr_of (M_near hsc hok), nm_eq, nI_1]
  exact M_read_lp hsc hok hs (sn σ) 0 0 (nearS σ + 1) 2000 (by omega) (by omega) (by omega)
theorem showsS_lt {σ : scn} {p v t s : Nat} (hok : scOK σ) (hp : p < sp σ) (hv : v < 10) (hs : s < 1024) : showsS σ p v t s < 1024 := shw_lt (blS_lt _ _ _ hs) hv ((hok.2.1.2 p hp).2.2.2 _ (Nat.mod_lt _ (by decide)))
