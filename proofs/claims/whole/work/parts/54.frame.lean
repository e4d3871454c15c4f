-- ===== what a call leaves alone; the two sides' relations =====
def agX (P : Nat → Prop) (h h' : hp) : Prop := h'.2.2.2.2.2 = h.2.2.2.2.2 ∧ ∀ a, ¬ P a → hI h' a = hI h a ∧ hR h' a = hR h a ∧ aI h' a = aI h a ∧ aL h' a = aL h a ∧ aR h' a = aR h a
theorem agX.rf {P : Nat → Prop} {h : hp} : agX P h h := ⟨rfl, fun _ _ => ⟨rfl, rfl, rfl, rfl, rfl⟩⟩
theorem agX.tr {P : Nat → Prop} {h h1 h2 : hp} (x : agX P h h1) (y : agX P h1 h2) : agX P h h2 := ⟨y.1.trans x.1, fun a ha => by
  obtain ⟨a1, a2, a3, a4, a5⟩ := x.2 a ha
  obtain ⟨b1, b2, b3, b4, b5⟩ := y.2 a ha
  exact ⟨b1.trans a1, b2.trans a2, b3.trans a3, b4.trans a4, b5.trans a5⟩⟩
theorem agX.kd {P : Nat → Prop} {h h' : hp} (x : agX P h h') (j : Nat) : kdOf h' j = kdOf h j := by unfold kdOf; rw [x.1]
theorem agX_sI {P : Nat → Prop} {h : hp} {i k : Nat} {v : Int32} (hp : P i) : agX P h (sI h i k v) := ⟨rfl, fun a ha => ⟨by funext b; rw [hI_sI, if_neg (by rintro ⟨rfl, -⟩; exact ha hp)], rfl, rfl, rfl, rfl⟩⟩
theorem agX_sR {P : Nat → Prop} {h : hp} {i k : Nat} {v : Option Nat} (hp : P i) : agX P h (sR h i k v) := ⟨rfl, fun a ha => ⟨rfl, by funext b; rw [hR_sR, if_neg (by rintro ⟨rfl, -⟩; exact ha hp)], rfl, rfl, rfl⟩⟩
theorem agX_tI {P : Nat → Prop} {h : hp} {i k : Nat} {v : Int32} (hp : P i) : agX P h (tI h i k v) := ⟨rfl, fun a ha => ⟨rfl, rfl, by funext b; rw [aI_tI, if_neg (by rintro ⟨rfl, -⟩; exact ha hp)], rfl, rfl⟩⟩
theorem agX_tL {P : Nat → Prop} {h : hp} {i k : Nat} {v : Int64} (hp : P i) : agX P h (tL h i k v) := ⟨rfl, fun a ha => ⟨rfl, rfl, rfl, by funext b; rw [aL_tL, if_neg (by rintro ⟨rfl, -⟩; exact ha hp)], rfl⟩⟩
theorem agX_tR {P : Nat → Prop} {h : hp} {i k : Nat} {v : Option Nat} (hp : P i) : agX P h (tR h i k v) := ⟨rfl, fun a ha => ⟨rfl, rfl, rfl, rfl, by funext b; rw [aR_tR, if_neg (by rintro ⟨rfl, -⟩; exact ha hp)]⟩⟩
theorem agX_scr {h h' : hp} (x : scrX h h') : agX (fun a => 35 ≤ a ∧ a ≤ 38) h h' := by
  refine ⟨by rw [x.2.2.2.2], fun a ha => ⟨?_, ?_, ?_, ?_, ?_⟩⟩
  · funext b; show h'.1 a b = h.1 a b; rw [x.1]
  · funext b; show h'.2.1 a b = h.2.1 a b; rw [x.2.1]
  · exact x.2.2.1 a (by omega) (by omega) (by omega)
  · exact x.2.2.2.1 a (by omega)
  · funext b; show h'.2.2.2.2.1 a b = h.2.2.2.2.1 a b; rw [x.2.2.2.2]
theorem stK11 : ∀ w, w < 100 → stK w = 11 → w = 27 := by decide +kernel
theorem wd_num {h : hp} {w : Nat} (hk : wdK h w) : w = 27 ∨ 100 ≤ w := by
  by_cases h1 : w < 100
  · left
    have := hk.2.1
    unfold kdOf at this
    rw [if_pos h1] at this
    exact stK11 w h1 this
  · exact Or.inr (by omega)
theorem wdK_kd {h h' : hp} {w : Nat} (hk : ∀ j, kdOf h' j = kdOf h j) (H : wdK h w) : wdK h' w := by
  obtain ⟨k1, k2, ⟨k3, k4, k5, k6⟩, s⟩ := H
  exact ⟨k1, (hk _).trans k2, ⟨(hk _).trans k3, (hk _).trans k4, (hk _).trans k5, (hk _).trans k6⟩, s⟩
theorem wdX_ag' {h h' : hp} {w : Nat} {C : List cla} (hk : ∀ j, j = w ∨ j = w + 1 ∨ j = w + 2 ∨ j = w + 3 ∨ j = w + 4 → kdOf h' j = kdOf h j ∧ hI h' j = hI h j ∧ aI h' j = aI h j) (H : wdX h w C) : wdX h' w C := by
  obtain ⟨⟨k1, k2, ⟨k3, k4, k5, k6⟩, s4⟩, w3, w6, hof, hcl⟩ := H
  have e0 := hk w (Or.inl rfl)
  have e1 := hk (w + 1) (Or.inr (Or.inl rfl))
  have e2 := hk (w + 2) (Or.inr (Or.inr (Or.inl rfl)))
  have e3 := hk (w + 3) (Or.inr (Or.inr (Or.inr (Or.inl rfl))))
  have e4 := hk (w + 4) (Or.inr (Or.inr (Or.inr (Or.inr rfl))))
  refine ⟨⟨k1, e0.1.trans k2, ⟨e1.1.trans k3, e2.1.trans k4, e3.1.trans k5, e4.1.trans k6⟩, s4⟩, by rw [e0.2.1]; exact w3, by rw [e0.2.1]; exact w6, hof, fun k c hc => ?_⟩
  rw [e1.2.2, e2.2.2, e3.2.2, e4.2.2]
  exact hcl k c hc
theorem sndX_ag' {h h' : hp} {o p k v : Nat} (hk : kdOf h' o = kdOf h o ∧ hI h' o = hI h o) (H : sndX h o p k v) : sndX h' o p k v := by
  obtain ⟨s1, s2, s3, s4, s5, s6⟩ := H
  exact ⟨s1, s2, hk.1.trans s3, by rw [hk.2]; exact s4, by rw [hk.2]; exact s5, by rw [hk.2]; exact s6⟩
/-- a scene's part: the senders -/
def sndsX (h : hp) (b : Nat) (σ : scn) : Prop := hI h b 2 = nI (sp σ) ∧ (∀ p, p < sp σ → ∃ o, aR h (b + 3) p = some o ∧ sndX h o p (sK' σ p) (sV σ p)) ∧ (∀ p, p < 5 → aI h (b + 4) p = nI (if p < sp σ then sS σ p else 0)) ∧ ∀ j, j < 20 → aI h (b + 5) j = nI (if j / 4 < sp σ then sRw σ j else 0)
/-- a scene's part: the ward -/
def wardX (h : hp) (b : Nat) (σ : scn) : Prop := match sC σ with
    | none => hR h b 9 = none
    | some C => ∃ w, hR h b 9 = some w ∧ wdX h w C
theorem sndsX_ag {P : Nat → Prop} {h h' : hp} {b : Nat} {σ : scn} (x : agX P h h') (hP : ∀ a, P a → a < 100) (hb : hI h' b 2 = hI h b 2) (h3 : aR h' (b + 3) = aR h (b + 3)) (h4 : aI h' (b + 4) = aI h (b + 4)) (h5 : aI h' (b + 5) = aI h (b + 5)) (H : sndsX h b σ) : sndsX h' b σ := by
  obtain ⟨q1, q2, q3, q4⟩ := H
  refine ⟨hb.trans q1, fun p hp => ?_, by rw [h4]; exact q3, by rw [h5]; exact q4⟩
  obtain ⟨o, ho, hs⟩ := q2 p hp
  have ho100 := hs.2.1
  exact ⟨o, by rw [h3]; exact ho, sndX_ag' ⟨x.kd o, (x.2 o (fun hc => by have := hP o hc; omega)).1⟩ hs⟩
theorem wardX_ag {P : Nat → Prop} {h h' : hp} {b : Nat} {σ : scn} (x : agX P h h') (hP : ∀ a, P a → a < 100 ∧ ¬ (27 ≤ a ∧ a ≤ 31)) (hb : hR h' b 9 = hR h b 9) (H : wardX h b σ) : wardX h' b σ := by
  unfold wardX at H ⊢
  cases hC : sC σ with
  | none => rw [hC] at H; exact hb.trans H
  | some C =>
    rw [hC] at H
    obtain ⟨w, hw, hd⟩ := H
    have hn := wd_num hd.1
    refine ⟨w, hb.trans hw, wdX_ag' (fun j hj => ?_) hd⟩
    have hnP : ¬ P j := fun hc => by have := hP j hc; omega
    exact ⟨x.kd j, (x.2 j hnP).1, (x.2 j hnP).2.2.1⟩
theorem scX_ag {P : Nat → Prop} {h h' : hp} {b : Nat} {σ : scn} (x : agX P h h') (hP : ∀ a, P a → a < 100 ∧ ¬ (27 ≤ a ∧ a ≤ 31) ∧ ¬ (b ≤ a ∧ a ≤ b + 11)) (H : scX h b σ) : scX h' b σ := by
  have e := fun a (h1 : b ≤ a ∧ a ≤ b + 11) => x.2 a (fun hc => (hP a hc).2.2 h1)
  have e0 := e b (by omega)
  have e1 := e (b + 1) (by omega)
  have e2 := e (b + 2) (by omega)
  have e3 := e (b + 3) (by omega)
  have e4 := e (b + 4) (by omega)
  have e5 := e (b + 5) (by omega)
  have e6 := e (b + 6) (by omega)
  have e7 := e (b + 7) (by omega)
  have e8 := e (b + 8) (by omega)
  have e9 := e (b + 9) (by omega)
  have e10 := e (b + 10) (by omega)
  have e11 := e (b + 11) (by omega)
  obtain ⟨q1, q2, q3, q4, q5, q6, q7⟩ := H
  refine ⟨by rw [e1.1, e2.2.2.1]; exact q1, sndsX_ag x (fun a ha => (hP a ha).1) (by rw [e0.1]) e3.2.2.2.2 e4.2.2.1 e5.2.2.1 q2, by rw [e0.1]; exact q3, by rw [e6.1, e7.2.2.1]; exact q4, by rw [e8.1, e9.2.2.1]; exact q5, by rw [e10.1, e11.2.2.1]; exact q6, wardX_ag x (fun a ha => ⟨(hP a ha).1, (hP a ha).2.1⟩) (by rw [e0.2.1]) q7⟩
/-- all that the calls' answers hang on: now, image, wards, text, trace -/
abbrev sst : Type := scn × Option scn × Nat × (Nat × (Nat → Nat)) × List Nat
def tkX (h : hp) (S : sst) : Prop := match S.2.1 with
  | none => hI h 0 2 = 0
  | some σ => hI h 0 2 = 1 ∧ scX h 13 σ ∧ ∀ p, sp σ ≤ p → p < 5 → aR h 16 p = none
def spX (h : hp) : Prop := ∃ w, hR h 0 4 = some w ∧ wdK h w ∧ ∀ v, hR h 1 9 = some v ∨ hR h 13 9 = some v → v + 4 < w
def RX (h : hp) (S : sst) : Prop := (scX h 1 S.1 ∧ ∀ p, sp S.1 ≤ p → p < 5 → aR h 4 p = none) ∧ tkX h S ∧ hI h 0 5 = nI S.2.2.1 ∧ (hI h 25 1 = nI S.2.2.2.1.1 ∧ ∀ k, k < S.2.2.2.1.1 → aI h 26 k = nI (S.2.2.2.1.2 k)) ∧ spX h ∧ (hI h 33 1 = 0 ∧ hI h 33 3 = nI S.2.2.2.2.length ∧ ∀ i b, S.2.2.2.2[i]? = some b → aI h 34 i = nI b) ∧ ∀ a, nid h ≤ a → kdOf h a = 0
def lets : List Nat := [111, 112, 101, 110, 115, 104, 117, 116, 116, 117, 114, 110, 110, 101, 97, 114]
def tkM (h : hp) (S : sst) : Prop := match S.2.1 with
  | none => hI h 52 37 = 0
  | some σ => hI h 52 37 = 1 ∧ scM2 h σ
def RM (h : hp) (S : sst) : Prop := scM1 h S.1 ∧ tkM h S ∧ hI h 52 8 = nI S.2.2.1 ∧ (hI h 52 10 = nI S.2.2.2.1.1 ∧ ∀ k, k < S.2.2.2.1.1 → aI h 58 k = nI (S.2.2.2.1.2 k)) ∧ (∀ k b, lets[k]? = some b → aI h 66 k = nI b) ∧ (hI h 52 55 = nI S.2.2.2.2.length ∧ ∀ i b, S.2.2.2.2[i]? = some b → aI h 86 i = nI b)
def tpO (s l : Int32) : Prop := (s = -1 ∧ l = nI 0) ∨ ∃ a n, a < 5 ∧ n ≤ 60 ∧ s = nI a ∧ l = nI n
def TP (hx hm : hp) : Prop := ∀ t, t < 6 → aR hx 32 t = some (39 + 2 * t) ∧ aI hm 87 t = hI hx (39 + 2 * t) 1 ∧ aI hm 88 t = hI hx (39 + 2 * t) 2 ∧ tpO (hI hx (39 + 2 * t) 1) (hI hx (39 + 2 * t) 2) ∧ ∀ k, k < 60 → aL hm 89 (60 * t + k) = aL hx (40 + 2 * t) k
def SOK (S : sst) : Prop := (scOK S.1 ∧ sH S.1 ≤ 9999) ∧ (∀ σ, S.2.1 = some σ → scOK σ ∧ sH σ ≤ 9999) ∧ S.2.2.1 ≤ 6 ∧ (S.2.2.2.1.1 ≤ 100 ∧ ∀ k, k < S.2.2.2.1.1 → S.2.2.2.1.2 k < 128) ∧ S.2.2.2.2.length ≤ 16 ∧ ∀ b ∈ S.2.2.2.2, b < 128
def Sim (hx hm : hp) : Prop := ∃ S, RX hx S ∧ RM hm S ∧ SOK S ∧ TP hx hm
theorem tkX_ag {P : Nat → Prop} {h h' : hp} {S : sst} (x : agX P h h') (hP : ∀ a, P a → a < 100 ∧ ¬ (27 ≤ a ∧ a ≤ 31) ∧ ¬ (13 ≤ a ∧ a ≤ 24)) (h0 : hI h' 0 2 = hI h 0 2) (H : tkX h S) : tkX h' S := by
  unfold tkX at H ⊢
  cases hC : S.2.1 with
  | none => rw [hC] at H; exact h0.trans H
  | some C =>
    rw [hC] at H
    exact ⟨h0.trans H.1, scX_ag x (fun a ha => ⟨(hP a ha).1, (hP a ha).2.1, (hP a ha).2.2⟩) H.2.1, by rw [(x.2 16 (fun hc => (hP 16 hc).2.2 (by omega))).2.2.2.2]; exact H.2.2⟩
theorem spX_ag {h h' : hp} (hk : ∀ j, kdOf h' j = kdOf h j) (h0 : hR h' 0 4 = hR h 0 4) (h1 : hR h' 1 9 = hR h 1 9) (h2 : hR h' 13 9 = hR h 13 9) (H : spX h) : spX h' := by
  obtain ⟨w, a1, a2, a3⟩ := H
  exact ⟨w, h0.trans a1, wdK_kd hk a2, by rw [h1, h2]; exact a3⟩
theorem nid_ag {h h' : hp} (e : h'.2.2.2.2.2 = h.2.2.2.2.2) (H : ∀ a, nid h ≤ a → kdOf h a = 0) : ∀ a, nid h' ≤ a → kdOf h' a = 0 := by
  intro a ha
  unfold kdOf nid at *
  rw [e] at ha ⊢
  exact H a ha
theorem RX_scr {h h' : hp} {S : sst} (x : scrX h h') (H : RX h S) : RX h' S := by
  have g := agX_scr x
  have e := fun a (h1 : ¬ (35 ≤ a ∧ a ≤ 38)) => g.2 a h1
  obtain ⟨⟨q1, q1'⟩, q2, q3, q4, q5, q6, q7⟩ := H
  have e0 := e 0 (by omega)
  have e1 := e 1 (by omega)
  have e13 := e 13 (by omega)
  refine ⟨⟨scX_ag g (fun a ha => by omega) q1, by rw [(e 4 (by omega)).2.2.2.2]; exact q1'⟩, tkX_ag g (fun a ha => by omega) (by rw [e0.1]) q2, by rw [e0.1]; exact q3, by rw [(e 25 (by omega)).1, (e 26 (by omega)).2.2.1]; exact q4, spX_ag g.kd (by rw [e0.2.1]) (by rw [e1.2.1]) (by rw [e13.2.1]) q5, by rw [(e 33 (by omega)).1, (e 34 (by omega)).2.2.1]; exact q6, nid_ag g.1 q7⟩
theorem scM2_scr {h h' : hp} {σ : scn} (hs : scrM h h') (H : scM2 h σ) : scM2 h' σ := by
  have hi : hI h' = hI h := by funext a b; show h'.1 a b = h.1 a b; rw [hs.1]
  have e := fun a h1 h2 h3 h4 => hs.2.2.1 a h1 h2 h3 h4
  unfold scM2 scM wdM at H ⊢
  simp only [hi, e 76 (by decide) (by decide) (by decide) (by decide), e 77 (by decide) (by decide) (by decide) (by decide), e 78 (by decide) (by decide) (by decide) (by decide), e 79 (by decide) (by decide) (by decide) (by decide), e 80 (by decide) (by decide) (by decide) (by decide), e 59 (by decide) (by decide) (by decide) (by decide), e 60 (by decide) (by decide) (by decide) (by decide), e 61 (by decide) (by decide) (by decide) (by decide), e 62 (by decide) (by decide) (by decide) (by decide), e 63 (by decide) (by decide) (by decide) (by decide), e 64 (by decide) (by decide) (by decide) (by decide), e 81 (by decide) (by decide) (by decide) (by decide), e 82 (by decide) (by decide) (by decide) (by decide), e 83 (by decide) (by decide) (by decide) (by decide), e 84 (by decide) (by decide) (by decide) (by decide), e 85 (by decide) (by decide) (by decide) (by decide)]
  exact H
theorem tkM_scr {h h' : hp} {S : sst} (hs : scrM h h') (H : tkM h S) : tkM h' S := by
  have hi : hI h' = hI h := by funext a b; show h'.1 a b = h.1 a b; rw [hs.1]
  unfold tkM at H ⊢
  rw [hi]
  cases hC : S.2.1 with
  | none => rw [hC] at H; exact H
  | some C => rw [hC] at H; exact ⟨H.1, scM2_scr hs H.2⟩
theorem RM_scr {h h' : hp} {S : sst} (hs : scrM h h') (H : RM h S) : RM h' S := by
  have hi : hI h' = hI h := by funext a b; show h'.1 a b = h.1 a b; rw [hs.1]
  have e := fun a h1 h2 h3 h4 => hs.2.2.1 a h1 h2 h3 h4
  obtain ⟨q1, q2, q3, q4, q5, q6⟩ := H
  refine ⟨scM1_scr hs q1, tkM_scr hs q2, by rw [hi]; exact q3, by rw [hi, e 58 (by decide) (by decide) (by decide) (by decide)]; exact q4, by rw [e 66 (by decide) (by decide) (by decide) (by decide)]; exact q5, by rw [hi, e 86 (by decide) (by decide) (by decide) (by decide)]; exact q6⟩
theorem TP_scr {hx hx' hm hm' : hp} (x : scrX hx hx') (y : scrM hm hm') (H : TP hx hm) : TP hx' hm' := by
  intro t ht
  have g := (agX_scr x).2
  have f1 := (g 32 (by omega)).2.2.2.2
  have f2 := (g (39 + 2 * t) (by omega)).1
  have f3 := (g (40 + 2 * t) (by omega)).2.2.2.1
  rw [f1, f2, f3, y.2.2.1 87 (by decide) (by decide) (by decide) (by decide), y.2.2.1 88 (by decide) (by decide) (by decide) (by decide), y.2.2.2.1 89 (by decide)]
  exact H t ht
theorem Sim_scr {hx hx' hm hm' : hp} (x : scrX hx hx') (y : scrM hm hm') (H : Sim hx hm) : Sim hx' hm' := by
  obtain ⟨S, a, b, c, d⟩ := H
  exact ⟨S, RX_scr x a, RM_scr y b, c, TP_scr x y d⟩
