-- ===== calls that change now's scene, or ask little =====
theorem RX_now {P : Nat → Prop} {hx hx' : hp} {S : sst} {σ' : scn} (x : agX P hx hx') (hP : ∀ a, P a → 1 ≤ a ∧ a ≤ 12) (h1 : hR hx' 1 9 = hR hx 1 9) (hs : scX hx' 1 σ' ∧ ∀ p, sp σ' ≤ p → p < 5 → aR hx' 4 p = none) (H : RX hx S) : RX hx' (σ', S.2) := by
  have e := fun a (h1 : ¬ (1 ≤ a ∧ a ≤ 12)) => x.2 a (fun hc => h1 (hP a hc))
  obtain ⟨-, q2, q3, q4, q5, q6, q7⟩ := H
  have e0 := e 0 (by omega)
  have e13 := e 13 (by omega)
  refine ⟨hs, ?_, by rw [e0.1]; exact q3, by rw [(e 25 (by omega)).1, (e 26 (by omega)).2.2.1]; exact q4, spX_ag x.kd (by rw [e0.2.1]) h1 (by rw [e13.2.1]) q5, by rw [(e 33 (by omega)).1, (e 34 (by omega)).2.2.1]; exact q6, nid_ag x.1 q7⟩
  exact tkX_ag (S := S) x (fun a ha => by have := hP a ha; omega) (by rw [e0.1]) q2
theorem TP_ag {P : Nat → Prop} {hx hx' hm hm' : hp} (x : agX P hx hx') (hP : ∀ a, P a → a ≠ 32 ∧ ¬ (39 ≤ a ∧ a ≤ 50)) (m1 : aI hm' 87 = aI hm 87) (m2 : aI hm' 88 = aI hm 88) (m3 : aL hm' 89 = aL hm 89) (H : TP hx hm) : TP hx' hm' := by
  intro t ht
  have f1 := (x.2 32 (fun hc => (hP _ hc).1 rfl)).2.2.2.2
  have f2 := (x.2 (39 + 2 * t) (fun hc => (hP _ hc).2 (by omega))).1
  have f3 := (x.2 (40 + 2 * t) (fun hc => (hP _ hc).2 (by omega))).2.2.2.1
  rw [f1, f2, f3, m1, m2, m3]
  exact H t ht
theorem TP_now {P : Nat → Prop} {hx hx' hm hm' : hp} (x : agX P hx hx') (hP : ∀ a, P a → 1 ≤ a ∧ a ≤ 12) (m1 : aI hm' 87 = aI hm 87) (m2 : aI hm' 88 = aI hm 88) (m3 : aL hm' 89 = aL hm 89) (H : TP hx hm) : TP hx' hm' := TP_ag x (fun a ha => by have := hP a ha; omega) m1 m2 m3 H
theorem ne10 : ¬ (1 : Int32) = 0 := by decide
theorem S_at {α : Type} {f : Nat → α} {n : Nat} {v : α} : (fun k => if k = n then v else f k) n = v := if_pos rfl
theorem scX_word {hx : hp} {σ : scn} {s : Nat} (H : scX hx 1 σ) : scX (sI (tI hx 3 (sn σ) (nI s)) 2 1 (nI (sn σ + 1))) 1 ((sn σ + 1, fun k => if k = sn σ then s else sW σ k), σ.2) := by
  have x : agX (fun a => 2 ≤ a ∧ a ≤ 3) hx (sI (tI hx 3 (sn σ) (nI s)) 2 1 (nI (sn σ + 1))) := (agX_tI (by omega)).tr (agX_sI (by omega))
  obtain ⟨q1, q2, q3, q4, q5, q6, q7⟩ := H
  refine ⟨⟨rfl, fun k hk => ?_⟩, sndsX_ag (σ := σ) x (fun a ha => by omega) rfl rfl rfl rfl q2, q3, q4, q5, q6, wardX_ag (σ := σ) x (fun a ha => by omega) rfl q7⟩
  show (if 3 = 3 ∧ k = sn σ then nI s else aI hx 3 k) = nI (if k = sn σ then s else sW σ k)
  by_cases e : k = sn σ
  · rw [if_pos ⟨rfl, e⟩, if_pos e]
  · rw [if_neg (by rintro ⟨-, h⟩; exact e h), if_neg e]
    have : k < sn σ + 1 := hk
    exact q1.2 k (by omega)
theorem scM_word {hm : hp} {σ : scn} {s : Nat} (H : scM1 hm σ) : scM1 (sI (tI hm 53 (sn σ) (nI s)) 52 0 (nI (sn σ + 1))) ((sn σ + 1, fun k => if k = sn σ then s else sW σ k), σ.2) := by
  obtain ⟨q1, qr⟩ := H
  refine ⟨⟨rfl, fun k hk => ?_⟩, qr⟩
  show (if 53 = 53 ∧ k = sn σ then nI s else aI hm 53 k) = nI (if k = sn σ then s else sW σ k)
  by_cases e : k = sn σ
  · rw [if_pos ⟨rfl, e⟩, if_pos e]
  · rw [if_neg (by rintro ⟨-, h⟩; exact e h), if_neg e]
    have : k < sn σ + 1 := hk
    exact q1.2 k (by omega)
theorem scOK_word {σ : scn} {s : Nat} (h : scOK σ) (hc : sn σ < 8) (hs : s < 1024) : scOK ((sn σ + 1, fun k => if k = sn σ then s else sW σ k), σ.2) := by
  obtain ⟨o1, o2, o3, o4, o5, o6, o7⟩ := h
  refine ⟨⟨hc, fun k hk => ?_⟩, o2, o3, ⟨o4.1, fun k hk => ⟨Nat.lt_succ_of_lt (o4.2 k hk).1, (o4.2 k hk).2⟩⟩, o5, ⟨o6.1, fun k hk => ⟨Nat.lt_succ_of_lt (o6.2 k hk).1, (o6.2 k hk).2⟩⟩, o7⟩
  show (if k = sn σ then s else sW σ k) < 1024
  have : k < sn σ + 1 := hk
  split
  · exact hs
  · exact o1.2 k (by omega)
theorem s_word {hx hm : hp} (H : Sim hx hm) (a : Int32) : ∃ hx' hm' r, f_X11_word hx a = some (hx', r) ∧ f_X12_word hm a = some (hm', r) ∧ Sim hx' hm' := by
  have H0 := H
  obtain ⟨S, hX, hM, hok, ht⟩ := H
  have e0 : hI hm 52 0 = nI (sn S.1) := hM.1.1.1
  have hn := hok.1.1.1.1
  unfold f_X11_word f_X12_word
  rw [bnr_of X_isSign, bnr_of M_isSign]
  rcases arg_split a 1024 (by decide) with ⟨s, hs, rfl⟩ | hx0
  · rw [if_neg (arg_no hs (by decide)), if_neg ne10, if_neg ne10, bnr_of (X2_isFull (rwX_words hX.1.1 hok.1.1)), e0]
    by_cases hc : sn S.1 < 8
    · rw [if_pos hc, if_pos rfl, bnd_of (X2_add (rwX_words hX.1.1 hok.1.1) hc), nI_pred, if_neg (show ¬ nI (sn S.1) = (8 : Int32) from fun z => by have := (nI_eq (b := 8) (by omega) (by decide)).mp z; omega), chk_of (vp_in_nI hc (by decide)), nm_eq, nI_clamp (by omega), hI_tI, e0, nI_1, nm_eq, hI_sI, if_pos ⟨rfl, rfl⟩, nI_pred]
      have x : agX (fun a => 2 ≤ a ∧ a ≤ 3) hx (sI (tI hx 3 (sn S.1) (nI s)) 2 1 (nI (sn S.1 + 1))) := (agX_tI (by omega)).tr (agX_sI (by omega))
      refine ⟨_, _, _, rfl, rfl, (((sn S.1 + 1, fun k => if k = sn S.1 then s else sW S.1 k), S.1.2), S.2), ?_, ?_, ?_, ?_⟩
      · exact RX_now x (fun a ha => by omega) rfl ⟨scX_word hX.1.1, hX.1.2⟩ hX
      · exact ⟨scM_word hM.1, hM.2⟩
      · exact ⟨⟨scOK_word hok.1.1 hc hs, hok.1.2⟩, hok.2⟩
      · exact TP_now x (fun a ha => by omega) (by funext b; rfl) (by funext b; rfl) (by funext b; rfl) ht
    · have h8 : sn S.1 = 8 := by omega
      rw [if_neg hc, if_neg ne10, h8, if_pos (show nI 8 = (8 : Int32) from rfl)]
      exact ⟨hx, hm, _, rfl, rfl, H0⟩
  · rw [if_pos hx0, if_pos rfl, if_pos rfl]
    exact ⟨hx, hm, _, rfl, rfl, H0⟩
def setW (σ : scn) (w s : Nat) : scn := ((sn σ, fun k => if k = w then s else sW σ k), σ.2)
theorem s_alter {hx hm : hp} (H : Sim hx hm) (a b : Int32) : ∃ hx' hm' r, f_X11_alter hx a b = some (hx', r) ∧ f_X12_alter hm a b = some (hm', r) ∧ Sim hx' hm' := by
  have H0 := H
  obtain ⟨S, hX, hM, hok, ht⟩ := H
  have e0 : hI hm 52 0 = nI (sn S.1) := hM.1.1.1
  have hn := hok.1.1.1.1
  unfold f_X11_alter f_X12_alter
  rw [bnr_of (X_isWord hX.1.1 hok.1.1), bnr_of (M_isWord e0 (by omega))]
  rcases arg_split a (sn S.1) (by omega) with ⟨w, hw, rfl⟩ | hx0
  · rw [if_neg (arg_no hw (by omega)), if_neg ne10, if_neg ne10, bnr_of X_isSign, bnr_of M_isSign]
    rcases arg_split b 1024 (by decide) with ⟨s, hs, rfl⟩ | hx1
    · rw [if_neg (arg_no hs (by decide)), if_neg ne10, if_neg ne10, bnr_of (X2_get (rwX_words hX.1.1 hok.1.1) hw), bnd_of (X2_set (rwX_words hX.1.1 hok.1.1) hw), chk_of (vp_in_nI (by omega) (by decide)), nm_eq, chk_of (vp_in_nI (by omega) (by decide)), nm_eq, nI_clamp (by omega), show aI hx (2 + 1) w = nI (sW S.1 w) from hX.1.1.1.2 w hw, show aI hm 53 w = nI (sW S.1 w) from hM.1.1.2 w hw]
      have x : agX (fun a => 2 ≤ a ∧ a ≤ 3) hx (tI hx (2 + 1) w (nI s)) := agX_tI (by omega)
      refine ⟨_, _, _, rfl, rfl, (setW S.1 w s, S.2), ?_, ?_, ?_, ?_⟩
      · refine RX_now x (fun a ha => by omega) rfl ⟨?_, hX.1.2⟩ hX
        obtain ⟨⟨q1, q2, q3, q4, q5, q6, q7⟩, -⟩ := hX.1
        refine ⟨⟨q1.1, fun k hk => ?_⟩, sndsX_ag (σ := S.1) x (fun a ha => by omega) rfl rfl rfl rfl q2, q3, q4, q5, q6, wardX_ag (σ := S.1) x (fun a ha => by omega) rfl q7⟩
        show (if 3 = 3 ∧ k = w then nI s else aI hx 3 k) = nI (if k = w then s else sW S.1 k)
        by_cases e : k = w
        · rw [if_pos ⟨rfl, e⟩, if_pos e]
        · rw [if_neg (by rintro ⟨-, h⟩; exact e h), if_neg e]; exact q1.2 k hk
      · refine ⟨⟨⟨e0, fun k hk => ?_⟩, hM.1.2⟩, hM.2⟩
        show (if 53 = 53 ∧ k = w then nI s else aI hm 53 k) = nI (if k = w then s else sW S.1 k)
        by_cases e : k = w
        · rw [if_pos ⟨rfl, e⟩, if_pos e]
        · rw [if_neg (by rintro ⟨-, h⟩; exact e h), if_neg e]; exact hM.1.1.2 k hk
      · refine ⟨⟨⟨⟨hn, fun k hk => ?_⟩, hok.1.1.2⟩, hok.1.2⟩, hok.2⟩
        show (if k = w then s else sW S.1 k) < 1024
        split
        · exact hs
        · exact hok.1.1.1.2 k hk
      · exact TP_now x (fun a ha => by omega) (by funext b; rfl) (by funext b; rfl) (by funext b; rfl) ht
    · rw [if_pos hx1, if_pos rfl, if_pos rfl]
      exact ⟨hx, hm, _, rfl, rfl, H0⟩
  · rw [if_pos hx0, if_pos rfl, if_pos rfl]
    exact ⟨hx, hm, _, rfl, rfl, H0⟩
def setR (σ : scn) (j n : Nat) : scn := (σ.1, (sp σ, sK' σ, sV σ, sS σ, fun k => if k = j then n else sRw σ k), σ.2.2)
def setS (σ : scn) (p n : Nat) : scn := (σ.1, (sp σ, sK' σ, sV σ, fun k => if k = p then n else sS σ k, sRw σ), σ.2.2)
def setH (σ : scn) (t : Nat) : scn := (σ.1, σ.2.1, t, σ.2.2.2)
theorem isK_told {h : hp} {o k : Nat} (hk : kdOf h o = sndQ k) (hk7 : k < 7) : isK h o [10] = if k = 6 then 1 else 0 := by
  unfold isK
  rw [hk]
  rcases (show k = 0 ∨ k = 1 ∨ k = 2 ∨ k = 3 ∨ k = 4 ∨ k = 5 ∨ k = 6 by omega) with rfl | rfl | rfl | rfl | rfl | rfl | rfl <;> rfl
theorem s_row {hx hm : hp} (H : Sim hx hm) (a b c : Int32) : ∃ hx' hm' r, f_X11_row hx a b c = some (hx', r) ∧ f_X12_row hm a b c = some (hm', r) ∧ Sim hx' hm' := by
  have H0 := H
  obtain ⟨S, hX, hM, hok, ht⟩ := H
  have e0 : hI hm 52 1 = nI (sp S.1) := hM.1.2.1.1
  have hp5 := hok.1.1.2.1.1
  unfold f_X11_row f_X12_row f_X11_row_17 f_X12_row_18
  rw [bnr_of (X_isSender hX.1.1 hok.1.1), bnr_of (M_isSender e0 (by omega)), bnr_of (M_in0 (n := 4) (by decide) (by decide))]
  rcases arg_split a (sp S.1) (by omega) with ⟨p, hp, rfl⟩ | hx0
  · rw [if_neg (arg_no hp (by omega)), if_neg ne10, if_neg ne10]
    rcases arg_split b 4 (by decide) with ⟨j, hj, rfl⟩ | hx1
    · rw [if_neg (arg_no hj (by decide)), if_neg ne10, if_neg (nI_pos (by omega)), if_pos (show nI j < (4 : Int32) from nI_lt (b := 4) hj (by decide)), bnr_of X_isDigit, bnr_of (M_in0 (n := 10) (by decide) (by decide))]
      rcases arg_split c 10 (by decide) with ⟨n, hn, rfl⟩ | hx2
      · rw [if_neg (arg_no hn (by decide)), if_neg ne10, if_neg ne10]
        obtain ⟨⟨q1, q2, q3, q4, q5, q6, q7⟩, -⟩ := hX.1
        obtain ⟨m1, ⟨m2, m2'⟩, m3⟩ := hM.1
        obtain ⟨o, ho, hs⟩ := q2.2.1 p hp
        have hin : vp_in (nI p) 5 := vp_in_nI (by omega) (by decide)
        have hcp : (nI p).toNatClampNeg = p := nI_clamp (by omega)
        obtain ⟨k7, v10, -, -⟩ := hok.1.1.2.1.2 p hp
        obtain ⟨t1, t2, t3, t4⟩ := m2' p hp
        have e1 : nI p * (4 : Int32) + nI j = nI (4 * p + j) := by rw [show (4 : Int32) = nI 4 from rfl, pk_mul, nI_add, Nat.mul_comm]
        have e2 : (4 : Int32) * nI p + nI j = nI (4 * p + j) := by rw [show (4 : Int32) = nI 4 from rfl, pk_mul, nI_add]
        have hS : kdOf hx o ∈ sndK := by rw [hs.2.2.1]; exact sndQ_in
        have r1 : aI hx 6 (4 * p + j) = nI (sRw S.1 (4 * p + j)) := by
          have := q2.2.2.2 (4 * p + j) (by omega)
          rw [if_pos (by omega)] at this; exact this
        have r2 : aI hm 57 (4 * p + j) = nI (sRw S.1 (4 * p + j)) := t4 j hj
        rw [chk_of hin, hcp, onO_of (show aR hx 4 p = some o from ho), ckS_of hs.1 hS, isK_told hs.2.2.1 k7, e1, nm_eq, chk_of (vp_in_nI (by omega) (by decide)), nm_eq, chk_of (vp_in_nI (by omega) (by decide)), nm_eq, nI_clamp (n := 4 * p + j) (by omega), r1, chk_of hin, show aI hm 54 p = nI (sK' S.1 p) from t1, e2, chk_of (vp_in_nI (by omega) (by decide)), nm_eq, chk_of (vp_in_nI (by omega) (by decide)), nm_eq, nI_clamp (n := 4 * p + j) (by omega), r2]
        by_cases k6 : sK' S.1 p = 6
        · rw [if_pos k6, if_neg ne10, k6, if_pos (show nI 6 = (6 : Int32) from rfl)]
          have x : agX (fun a => a = 6) hx (tI hx 6 (4 * p + j) (nI n)) := agX_tI rfl
          refine ⟨_, _, _, rfl, rfl, (setR S.1 (4 * p + j) n, S.2), ?_, ?_, ?_, ?_⟩
          · refine RX_now x (fun a ha => by omega) rfl ⟨?_, hX.1.2⟩ hX
            refine ⟨q1, ⟨q2.1, fun p' hp' => ?_, q2.2.2.1, fun i hi => ?_⟩, q3, q4, q5, q6, wardX_ag (σ := S.1) x (fun a ha => by omega) rfl q7⟩
            · obtain ⟨o', ho', hs'⟩ := q2.2.1 p' hp'
              have := hs'.2.1
              exact ⟨o', ho', sndX_ag' ⟨x.kd o', (x.2 o' (by omega)).1⟩ hs'⟩
            · show (if 6 = 6 ∧ i = 4 * p + j then nI n else aI hx 6 i) = nI (if i / 4 < sp S.1 then (if i = 4 * p + j then n else sRw S.1 i) else 0)
              by_cases e : i = 4 * p + j
              · rw [if_pos ⟨rfl, e⟩, if_pos e, if_pos (by omega)]
              · rw [if_neg (by rintro ⟨-, h⟩; exact e h), if_neg e]; exact q2.2.2.2 i hi
          · refine ⟨⟨m1, ⟨m2, fun p' hp' => ?_⟩, m3⟩, hM.2⟩
            obtain ⟨u1, u2, u3, u4⟩ := m2' p' hp'
            refine ⟨u1, u2, u3, fun i hi => ?_⟩
            show (if 57 = 57 ∧ 4 * p' + i = 4 * p + j then nI n else aI hm 57 (4 * p' + i)) = nI (if 4 * p' + i = 4 * p + j then n else sRw S.1 (4 * p' + i))
            by_cases e : 4 * p' + i = 4 * p + j
            · rw [if_pos ⟨rfl, e⟩, if_pos e]
            · rw [if_neg (by rintro ⟨-, h⟩; exact e h), if_neg e]; exact u4 i hi
          · refine ⟨⟨⟨hok.1.1.1, ⟨hp5, fun p' hp' => ?_⟩, hok.1.1.2.2⟩, hok.1.2⟩, hok.2⟩
            obtain ⟨u1, u2, u3, u4⟩ := hok.1.1.2.1.2 p' hp'
            refine ⟨u1, u2, u3, fun i hi => ?_⟩
            show (if 4 * p' + i = 4 * p + j then n else sRw S.1 (4 * p' + i)) < 10
            split
            · exact hn
            · exact u4 i hi
          · exact TP_now x (fun a ha => by omega) (by funext b; rfl) (by funext b; rfl) (by funext b; rfl) ht
        · rw [if_neg k6, if_pos rfl, if_neg (show ¬ nI (sK' S.1 p) = (6 : Int32) from fun z => k6 ((nI_eq (b := 6) (by omega) (by decide)).mp z))]
          exact ⟨hx, hm, _, rfl, rfl, H0⟩
      · rw [if_pos hx2, if_pos rfl, if_pos rfl]
        exact ⟨hx, hm, _, rfl, rfl, H0⟩
    · rw [if_pos hx1, if_pos rfl]
      by_cases h0 : b < 0
      · rw [if_pos h0]; exact ⟨hx, hm, _, rfl, rfl, H0⟩
      · rw [if_neg h0, if_neg (show ¬ b < (4 : Int32) from lt_of_no hx1 h0)]; exact ⟨hx, hm, _, rfl, rfl, H0⟩
  · rw [if_pos hx0, if_pos rfl, if_pos rfl]
    exact ⟨hx, hm, _, rfl, rfl, H0⟩
theorem s_pass {hx hm : hp} (H : Sim hx hm) (a : Int32) : ∃ hx' hm' r, f_X11_pass hx a = some (hx', r) ∧ f_X12_pass hm a = some (hm', r) ∧ Sim hx' hm' := by
  have H0 := H
  obtain ⟨S, hX, hM, hok, ht⟩ := H
  have e0 : hI hm 52 2 = nI (sH S.1) := hM.1.2.2.1
  have e1 : hI hx 1 5 = nI (sH S.1) := hX.1.1.2.2.1
  have hH := hok.1.2
  unfold f_X11_pass f_X12_pass f_X11_pass_10
  rw [bnr_of (M_in0 (n := 61) (by decide) (by decide))]
  rcases arg_split a 61 (by decide) with ⟨n, hn, rfl⟩ | hx0
  · rw [if_neg (arg_no hn (by decide)), if_neg ne10, if_neg (nI_pos (by omega)), if_neg (show ¬ (60 : Int32) < nI n from nI_nlt (a := 60) (by omega) (by decide)), e0, e1, nI_add]
    by_cases hc : 9999 < sH S.1 + n
    · have hc' : (9999 : Int32) < nI (sH S.1 + n) := nI_lt (a := 9999) hc (by omega)
      rw [if_pos hc', if_pos hc']
      exact ⟨hx, hm, _, rfl, rfl, H0⟩
    · have hc' : ¬ (9999 : Int32) < nI (sH S.1 + n) := nI_nlt (a := 9999) (by omega) (by decide)
      rw [if_neg hc', if_neg hc', nm_eq, nm_eq, hI_sI, hI_sI, if_pos ⟨rfl, rfl⟩, if_pos ⟨rfl, rfl⟩]
      have x : agX (fun a => a = 1) hx (sI hx 1 5 (nI (sH S.1 + n))) := agX_sI rfl
      refine ⟨_, _, _, rfl, rfl, (setH S.1 (sH S.1 + n), S.2), ?_, ?_, ?_, ?_⟩
      · refine RX_now x (fun a ha => by omega) rfl ⟨?_, hX.1.2⟩ hX
        obtain ⟨⟨q1, q2, q3, q4, q5, q6, q7⟩, -⟩ := hX.1
        exact ⟨q1, sndsX_ag (σ := S.1) x (fun a ha => by omega) rfl rfl rfl rfl q2, rfl, q4, q5, q6, wardX_ag (σ := S.1) x (fun a ha => by omega) rfl q7⟩
      · exact ⟨⟨hM.1.1, hM.1.2.1, rfl, hM.1.2.2.2⟩, hM.2⟩
      · refine ⟨⟨⟨hok.1.1.1, hok.1.1.2.1, ?_, hok.1.1.2.2.2⟩, ?_⟩, hok.2⟩
        · show sH S.1 + n ≤ 20000; omega
        · show sH S.1 + n ≤ 9999; omega
      · exact TP_now x (fun a ha => by omega) (by funext b; rfl) (by funext b; rfl) (by funext b; rfl) ht
  · rw [if_pos hx0, if_pos rfl]
    by_cases h0 : a < 0
    · rw [if_pos h0]; exact ⟨hx, hm, _, rfl, rfl, H0⟩
    · rw [if_neg h0, if_pos (by
        have := lt_of_no hx0 h0
        have h5 : (60 : Int32).toInt = 60 := rfl
        have h6 := nI_toInt (n := 61) (by decide)
        rw [Int32.lt_iff_toInt_lt] at this ⊢
        omega)]; exact ⟨hx, hm, _, rfl, rfl, H0⟩
