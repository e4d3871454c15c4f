-- ===== the law's start: the words, the classes, the texts =====
theorem w_tab {w : Cond} (i : Nat) (h : tables_1[i]? = some w) : w ∈ lw_tbl := List.mem_append_right _ (List.mem_of_getElem? h)
theorem w_tabM {w : Cond} (h : w ∈ tables_1) : w ∈ lw_tbl := List.mem_append_right _ h
theorem law_words {s : State} {args : Array Value} (hts : ∀ w ∈ lw_tbl, w.before args s = true) : ∀ w ∈ ALLW, w.before args s = true := by
  intro w hw
  rcases allw_in w hw with h | h
  · rw [h]
    unfold XW1
    exact sel_priv2 (n := 4) (x0 := yJ5_isLatin1_aae02) (by decide) (hts _ (w_tab 141 (by decide +kernel))) (hts _ (w_tab 778 (by decide +kernel))) (hts _ (w_tab 779 (by decide +kernel))) (hts _ (w_tab 809 (by decide +kernel))) rfl
  · exact hts w h
/-- what is known of a class, or of a row's class -/
theorem law_cls {s : State} {args : Array Value} (hts : ∀ w ∈ lw_tbl, w.before args s = true) : ∀ k : Nat, ∃ x : ClassId × (Nat → Nat), ∀ q : vw_C, vwCl[k]? = some q → u_Kn s q.1 q.2.1 q.2.2 x.1 x.2 := by
  have hA := law_words hts
  have one : ∀ (C : String) (T : u_T) (N n : Nat), (∀ w ∈ u_ws C T N, w ∈ ALLW) → (Cond.instantiable C n).before args s = true → ∃ x : ClassId × (Nat → Nat), ∀ q : vw_C, some (C, T, N) = some q → u_Kn s q.1 q.2.1 q.2.2 x.1 x.2 := by
    intro C T N n h1 h2
    obtain ⟨c, iS, h3⟩ := u_known hA h1 h2
    exact ⟨(c, iS), fun q hq => by cases hq; exact h3⟩
  intro k
  match k with
  | 0 => exact one RJ4 TJ4 4 4 inA_0 (hts _ (w_tab 141 (by decide +kernel)))
  | 1 => exact one RX0 TX0 3 3 inA_1 (hts _ (w_tab 294 (by decide +kernel)))
  | 2 => exact one RX1 TX1 3 3 inA_2 (hts _ (w_tab 304 (by decide +kernel)))
  | 3 => exact one RX2 TX2 2 2 inA_3 (hts _ (w_tab 42 (by decide +kernel)))
  | 4 => exact one RX3 TX3 10 10 inA_4 (hts _ (w_tab 36 (by decide +kernel)))
  | 5 => exact one RX4 TX4 3 3 inA_5 (hts _ (w_tab 344 (by decide +kernel)))
  | 6 => exact one RX5 TX5 3 3 inA_6 (hts _ (w_tab 314 (by decide +kernel)))
  | 7 => exact one RX6 TX6 3 3 inA_7 (hts _ (w_tab 172 (by decide +kernel)))
  | 8 => exact one RX7 TX7 3 3 inA_8 (hts _ (w_tab 269 (by decide +kernel)))
  | 9 => exact one RX8 TX8 3 3 inA_9 (hts _ (w_tab 334 (by decide +kernel)))
  | 10 => exact one RX9 TX9 9 9 inA_10 (hts _ (w_tab 104 (by decide +kernel)))
  | 11 => exact one RX10 TX10 3 3 inA_11 (hts _ (w_tab 324 (by decide +kernel)))
  | 12 => exact one RX11 TX11 12 12 inA_12 (hts _ (w_tab 28 (by decide +kernel)))
  | 13 => exact one RX12 TX12 61 61 inA_13 (hts _ (w_tab 994 (by decide +kernel)))
  | k + 14 => exact ⟨(0, fun _ => 0), fun q hq => by simp at hq⟩
theorem law_arrP {s : State} {args : Array Value} {ty : FieldType} (hp : ∀ C, ty ≠ .object C) (h : (Cond.arrayClass ty).before args s = true) : ∃ cA : ClassId, ArrOfT s cA ty ∧ va_RA s cA ty := by
  obtain ⟨cA, kA, comp, h1, h2, h3⟩ := Cond.arrayClass_spec (args := args) (first := s) (o := none) (s := s) (idx := []) h
  refine ⟨cA, fun n z => ⟨fun k h => (by cases h), kA, h2, comp, h3⟩, ?_⟩
  cases ty with
  | object C => exact absurd rfl (hp C)
  | _ => exact h1
theorem law_arrO {s : State} {args : Array Value} {C : String} (h : (Cond.arrayOver (.object C)).before args s = true) : ∃ cA : ClassId, ArrOfT s cA (.object C) ∧ va_RA s cA (.object C) := by
  obtain ⟨comp, cA, kA, h1, -, h3, h4, h5⟩ := Cond.arrayOver_spec (args := args) (first := s) (o := none) (s := s) (idx := []) h
  exact ⟨cA, fun n z => ⟨fun k h => (by cases h), kA, h3, comp, h4⟩, kA, comp, h3, h4, h1, h5⟩
theorem law_known {s : State} {args : Array Value} (hts : ∀ w ∈ lw_tbl, w.before args s = true) : ∃ (D : va_G) (E : Nat → ClassId), va_K D vwCl (tysE E) s := by
  obtain ⟨f, hf⟩ := Classical.axiomOfChoice (law_cls hts)
  obtain ⟨c0, h0⟩ := law_arrP (s := s) (args := args) (ty := .int) (fun C => by intro h; cases h) (hts _ (w_tab 57 (by decide +kernel)))
  obtain ⟨c1, h1⟩ := law_arrP (s := s) (args := args) (ty := .byte) (fun C => by intro h; cases h) (hts _ (w_tab 171 (by decide +kernel)))
  obtain ⟨c2, h2⟩ := law_arrP (s := s) (args := args) (ty := .boolean) (fun C => by intro h; cases h) (hts _ (w_tab 1183 (by decide +kernel)))
  obtain ⟨c3, h3⟩ := law_arrP (s := s) (args := args) (ty := .long) (fun C => by intro h; cases h) (hts _ (w_tab 189 (by decide +kernel)))
  obtain ⟨c4, h4⟩ := law_arrO (s := s) (args := args) (C := "SignalBlind$Sender") (hts _ (w_tab 59 (by decide +kernel)))
  obtain ⟨c5, h5⟩ := law_arrO (s := s) (args := args) (C := "SignalBlind$Tape") (hts _ (w_tab 139 (by decide +kernel)))
  refine ⟨(fun k => (f k).1, fun k => (f k).2), fun k => [c0, c1, c2, c3, c4, c5].getD k 0, fun k q hq => hf k q hq, fun k q hq => ?_⟩
  match k, hq with
  | 0, hq => cases hq; exact h0
  | 1, hq => cases hq; exact h1
  | 2, hq => cases hq; exact h2
  | 3, hq => cases hq; exact h3
  | 4, hq => cases hq; exact h4
  | 5, hq => cases hq; exact h5
  | k + 6, hq => simp [tysE] at hq
def tmS (i : Nat) : Term := .string "SignalBlind$Ward" ([54, 60, 85, 87, 89].getD i 0)
def tmV (i : Nat) : Term := .field (tmS i) "java/lang/String" "value" "[B"
abbrev NRW : List Cond := flatC (Cond.and given_1 narrow_1)
theorem nrw_ex : ∀ i, i < 5 → Cond.exactly (tmS i) "java/lang/String" ∈ NRW := by decide +kernel
theorem nrw_co : ∀ i, i < 5 → Cond.eq (.field (tmS i) "java/lang/String" "coder" "B") (.int 0) ∈ NRW := by decide +kernel
theorem nrw_ar : ∀ i, i < 5 → Cond.arrayOf (tmV i) .byte ∈ NRW := by decide +kernel
theorem nrw_le : ∀ i, i < 5 → Cond.eq (.length (tmV i)) (.int (Int32.ofNat (xz_len.getD i 0))) ∈ NRW := by decide +kernel
theorem nrw_el : ∀ i, i < 5 → ∀ j, j < xz_len.getD i 0 → Cond.eq (.elem (tmV i) (.int (Int32.ofNat j))) (.int ((xz_byt.getD i []).getD j 0)) ∈ NRW := by decide +kernel
theorem nrw_ne : ∀ i, i < 5 → ∀ j, j < 5 → i ≠ j → Cond.not (Cond.eq (tmS i) (tmS j)) ∈ NRW ∨ Cond.not (Cond.eq (tmS j) (tmS i)) ∈ NRW := by decide +kernel
theorem nrw_nc : ∀ x ∈ ncL, Cond.not (.castable x.1 x.2) ∈ NRW := by decide +kernel
theorem tab_nwM : ∀ x ∈ nwM, Cond.methodLinkNest x.1 x.2.1 x.2.2.1 x.2.2.2 ∈ tables_1 := by decide +kernel
theorem tab_nwC : ∀ x ∈ nwC, Cond.castable x.1 x.2 ∈ tables_1 := by decide +kernel
theorem tab_nwD : ∀ x ∈ nwD, Cond.declares x ∈ tables_1 := by decide +kernel
theorem tab_aoL : ∀ C ∈ aoL, Cond.arrayOver (.object C) ∈ tables_1 := by decide +kernel
theorem law_xw {s : State} {args : Array Value} (hts : ∀ w ∈ lw_tbl, w.before args s = true) (hg : (Cond.and given_1 narrow_1).before args s = true) : xw s := by
  have hf := flat_of_before _ hg
  exact ⟨fun x hx => va_Nw.of rfl (hts _ (w_tabM (tab_nwM x hx))), fun x hx => va_Nw.of rfl (hts _ (w_tabM (tab_nwC x hx))), fun x hx => va_Nw.of rfl (hts _ (w_tabM (tab_nwD x hx))), fun x hx => va_Nc.of (hf _ (nrw_nc x hx)), fun C hC => va_AO.of (hts _ (w_tabM (tab_aoL C hC)))⟩
theorem law_xz {s : State} {args : Array Value} (hts : ∀ w ∈ lw_tbl, w.before args s = true) (hg : (Cond.and given_1 narrow_1).before args s = true) : ∃ ζ : XZ, xz ζ (fun a => s.heap.size ≤ a) s := by
  have hf := flat_of_before _ hg
  have hA : ∀ a : Nat, a < s.heap.size → ¬ (fun a => s.heap.size ≤ a) a := fun a h => Nat.not_le.mpr h
  obtain ⟨adK, adV, h1, h2⟩ := vk_Sof (args := args) (s := s) (N := 5) (tm := tmS) (len := xz_len) (byt := xz_byt) (A := fun a => s.heap.size ≤ a) (by decide) (fun i hi => hf _ (nrw_ex i hi)) (fun i hi => hf _ (nrw_co i hi)) (fun i hi => hf _ (nrw_ar i hi)) (fun i hi => hf _ (nrw_le i hi)) (fun i hi j hj => hf _ (nrw_el i hi j hj)) (fun i j hi hj hne => (nrw_ne i hi j hj hne).imp (hf _) (hf _)) hA
  refine ⟨(adK, adV), ?_, ?_, ?_, ?_, ?_, ?_, ?_, h1, law_xw hts hg⟩
  · exact va_Zof (hts _ (w_tab 150 (by decide +kernel))) (hts _ (w_tab 7 (by decide +kernel))) (va_eqt (hf (Cond.eq (.static "java/lang/String" "COMPACT_STRINGS" "Z") (.int 1)) (by decide +kernel))) hA
  · exact va_Zqof (hts _ (w_tab 544 (by decide +kernel))) (hts _ (w_tab 22 (by decide +kernel))) (hf _ (by decide +kernel)) hA
  · exact vk_R.of (hts _ (w_tab 484 (by decide +kernel))) (h2 0 (by decide))
  · exact vk_R.of (hts _ (w_tab 574 (by decide +kernel))) (h2 1 (by decide))
  · exact vk_R.of (hts _ (w_tab 620 (by decide +kernel))) (h2 2 (by decide))
  · exact vk_R.of (hts _ (w_tab 621 (by decide +kernel))) (h2 3 (by decide))
  · exact vk_R.of (hts _ (w_tab 603 (by decide +kernel))) (h2 4 (by decide))
