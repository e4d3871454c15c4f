-- ===== makers: a new object's number is the next one; its address is any new cell =====
def nwk (h : hp) (k : Nat) : hp := ((fun a b => if a = nid h then 0 else h.1 a b), (fun a b => if a = nid h then none else h.2.1 a b), (fun a b => if a = nid h then 0 else h.2.2.1 a b), (fun a b => if a = nid h then 0 else h.2.2.2.1 a b), (fun a b => if a = nid h then none else h.2.2.2.2.1 a b), (fun a => if a = nid h then k else if a = 0 then h.2.2.2.2.2 0 + 1 else h.2.2.2.2.2 a))
theorem nid_nwk {h : hp} {k : Nat} : nid (nwk h k) = nid h + 1 := by
  show 100 + (if 0 = nid h then k else if 0 = 0 then h.2.2.2.2.2 0 + 1 else h.2.2.2.2.2 0) = nid h + 1
  rw [if_neg (by unfold nid; omega), if_pos rfl]; unfold nid; omega
theorem kd_nwk {h : hp} {k j : Nat} (hj : j ≠ nid h) : kdOf (nwk h k) j = kdOf h j := by
  show (if j < 100 then stK j else (if j = nid h then k else if j = 0 then h.2.2.2.2.2 0 + 1 else h.2.2.2.2.2 j)) = _
  unfold kdOf
  by_cases h1 : j < 100
  · rw [if_pos h1, if_pos h1]
  · rw [if_neg h1, if_neg h1, if_neg hj, if_neg (by omega)]
theorem kd_nwk_at {h : hp} {k : Nat} : kdOf (nwk h k) (nid h) = k := by
  show (if nid h < 100 then stK (nid h) else (if nid h = nid h then k else _)) = k
  rw [if_neg (by unfold nid; omega), if_pos rfl]
theorem rwF_le {ci k fd : Nat} (h : (rwF ci)[k]? = some fd) : fd = 0 ∨ fd = 1 := by
  simp only [rwF, List.getElem?_map, Option.map_eq_some_iff] at h
  obtain ⟨x, -, hx⟩ := h
  by_cases h0 : x = 0
  · rw [if_pos h0] at hx; exact Or.inl hx.symm
  · rw [if_neg h0] at hx; exact Or.inr hx.symm
theorem fvs_q {q q' : Nat → Nat} {h : hp} {j N : Nat} {l : List Nat} (h1 : ∀ k t, hR h j k = some t → t < N) (h3 : ∀ k n : Nat, l[k]? = some (n + 2) → j + n < N) (hq : ∀ i, i < N → q' i = q i) : fvs q' h j l = fvs q h j l := by
  apply List.ext_getElem?
  intro k
  cases hk : l[k]? with
  | none =>
    have h2 : l.length ≤ k := by simpa using hk
    rw [List.getElem?_eq_none (by rw [fvs_len]; exact h2), List.getElem?_eq_none (by rw [fvs_len]; exact h2)]
  | some fd =>
    rw [fvs_get hk, fvs_get hk]
    refine congrArg some ?_
    match fd, hk with
    | 0, _ => rfl
    | 1, _ =>
      show va_rf ((hR h j k).map q') = va_rf ((hR h j k).map q)
      cases ht : hR h j k with
      | none => rfl
      | some t => show Value.ref (q' t) = Value.ref (q t); rw [hq t (h1 k t ht)]
    | n + 2, hk => show Value.ref (q' (j + n)) = Value.ref (q (j + n)); rw [hq _ (h3 k n hk)]
theorem cellX_q {E : Nat → ClassId} {q q' : Nat → Nat} {h : hp} {j N : Nat} (hr : rok N h j) (hq : ∀ i, i < N → q' i = q i) : cellX E q' h j = cellX E q h j := by
  show cellK E q' h j (kdOf h j) = cellK E q h j (kdOf h j)
  unfold cellK
  by_cases c1 : kdOf h j < 20
  · rw [if_pos c1, if_pos c1, fvs_q hr.1 (fun k n hk => hr.2.2 k n c1 hk) hq]
  · rw [if_neg c1, if_neg c1]
    by_cases c2 : kdOf h j < 40
    · rw [if_pos c2, if_pos c2, fvs_q hr.1 (fun k n hk => by rcases rwF_le hk with h | h <;> omega) hq]
    · rw [if_neg c2, if_neg c2]
      have ha : acn q' h j ((kdOf h j - 40) % 10) = acn q h j ((kdOf h j - 40) % 10) := by
        unfold acn
        by_cases e3 : (kdOf h j - 40) % 10 = 3
        · rw [if_pos e3, if_pos e3]
        · rw [if_neg e3, if_neg e3]
          by_cases e4 : 4 ≤ (kdOf h j - 40) % 10
          · rw [if_pos e4, if_pos e4]
            have : (fun k => (aR h j k).map q') = fun k => (aR h j k).map q := by
              funext k
              cases ht : aR h j k with
              | none => rfl
              | some t => show some (q' t) = some (q t); rw [hq t (hr.2.1 k t ht)]
            rw [this]
          · rw [if_neg e4, if_neg e4]
      rw [ha]
theorem cellX_nwk {E : Nat → ClassId} {q : Nat → Nat} {h : hp} {k j : Nat} (hj : j ≠ nid h) : cellX E q (nwk h k) j = cellX E q h j := by
  show cellK E q (nwk h k) j (kdOf (nwk h k) j) = cellK E q h j (kdOf h j)
  rw [kd_nwk hj]
  have h1 : ∀ n f, fvl q (nwk h k) j n f = fvl q h j n f := by
    intro n f
    match f with
    | 0 => simp [fvl, hI, nwk, hj]
    | 1 => simp [fvl, hR, nwk, hj]
    | m + 2 => rfl
  have h2 : fvs q (nwk h k) j = fvs q h j := by funext l; simp only [fvs, h1]
  have h3 : aI (nwk h k) j = aI h j := by funext n; simp [aI, nwk, hj]
  have h4 : aL (nwk h k) j = aL h j := by funext n; simp [aL, nwk, hj]
  have h5 : ∀ n, aR (nwk h k) j n = aR h j n := by intro n; simp [aR, nwk, hj]
  simp only [cellK, h2, acn, h3, h4, h5]
def qnw (q : Nat → Nat) (i a : Nat) : Nat → Nat := fun j => if j = i then a else q j
theorem qnw_ne {q : Nat → Nat} {i a j : Nat} (h : j ≠ i) : qnw q i a j = q j := if_neg h
theorem qnw_at {q : Nat → Nat} {i a : Nat} : qnw q i a i = a := if_pos rfl
theorem XL_new {E : Nat → ClassId} {b : Nat} {L : List Nat} {q : Nat → Nat} {h : hp} {k a : Nat} {e : va_E} (hX : XD b L q h) (he : cellX E (qnw q (nid h) a) (nwk h k) (nid h) = e) : XL E (L ++ [nid h]) (qnw q (nid h) a) (nwk h k) = XL E L q h ++ [(a, e)] := by
  have h1 : ∀ j ∈ L, (qnw q (nid h) a j, cellX E (qnw q (nid h) a) (nwk h k) j) = (q j, cellX E q h j) := by
    intro j hj
    have hlt := hX.2.2.2.1 j hj
    rw [qnw_ne (Nat.ne_of_lt hlt), cellX_nwk (Nat.ne_of_lt hlt), cellX_q (hX.2.2.2.2 j hj) (fun i hi => qnw_ne (Nat.ne_of_lt hi))]
  show (L ++ [nid h]).map _ = L.map _ ++ _
  rw [List.map_append, List.map_congr_left h1]
  simp [qnw_at, he]
theorem XD_new {b : Nat} {L : List Nat} {q : Nat → Nat} {h : hp} {k a : Nat} (hX : XD b L q h) (ha : ∀ i ∈ L, q i ≠ a) (hk : ∀ m n : Nat, k < 20 → (ktF (k - 1))[m]? = some (n + 2) → False) : XD b (L ++ [nid h]) (qnw q (nid h) a) (nwk h k) := by
  have hlt := hX.2.2.2.1
  refine ⟨?_, ?_, ?_, ?_, ?_⟩
  · refine List.nodup_append.mpr ⟨hX.1, by simp, fun x hx y hy => ?_⟩
    simp only [List.mem_singleton] at hy
    rw [hy]; exact Nat.ne_of_lt (hlt x hx)
  · intro i hi j hj e
    rcases List.mem_append.mp hi with hi | hi <;> rcases List.mem_append.mp hj with hj | hj
    · rw [qnw_ne (Nat.ne_of_lt (hlt i hi)), qnw_ne (Nat.ne_of_lt (hlt j hj))] at e; exact hX.2.1 i hi j hj e
    · simp only [List.mem_singleton] at hj; subst hj
      rw [qnw_ne (Nat.ne_of_lt (hlt i hi)), qnw_at] at e; exact absurd e (ha i hi)
    · simp only [List.mem_singleton] at hi; subst hi
      rw [qnw_ne (Nat.ne_of_lt (hlt j hj)), qnw_at] at e; exact absurd e.symm (ha j hj)
    · simp only [List.mem_singleton] at hi hj; rw [hi, hj]
  · intro i h1 h2
    by_cases hi : i = nid h
    · rw [hi]; exact List.mem_append_right _ (List.mem_singleton.mpr rfl)
    · rw [kd_nwk hi] at h2; exact List.mem_append_left _ (hX.2.2.1 i h1 h2)
  · intro i hi
    rw [nid_nwk]
    rcases List.mem_append.mp hi with hi | hi
    · exact Nat.lt_succ_of_lt (hlt i hi)
    · simp only [List.mem_singleton] at hi; rw [hi]; exact Nat.lt_succ_self _
  · intro i hi
    rw [nid_nwk]
    by_cases hin : i = nid h
    · subst hin
      refine ⟨fun m t ht => ?_, fun m t ht => ?_, fun m n h1 h2 => ?_⟩
      · simp [hR, nwk] at ht
      · simp [aR, nwk] at ht
      · rw [kd_nwk_at] at h1 h2; exact (hk m n h1 h2).elim
    · have hiL : i ∈ L := by
        rcases List.mem_append.mp hi with h | h
        · exact h
        · exact absurd (List.mem_singleton.mp h) hin
      obtain ⟨r1, r2, r3⟩ := hX.2.2.2.2 i hiL
      refine ⟨fun m t ht => ?_, fun m t ht => ?_, fun m n h1 h2 => ?_⟩
      · exact Nat.lt_succ_of_lt (r1 m t (by simpa [hR, nwk, hin] using ht))
      · exact Nat.lt_succ_of_lt (r2 m t (by simpa [aR, nwk, hin] using ht))
      · rw [kd_nwk hin] at h1 h2; exact Nat.lt_succ_of_lt (r3 m n h1 h2)
def dfl (l : List Nat) : List Value := l.map (fun fd => if fd = 0 then .int 0 else .null)
theorem fvs_dfl {q : Nat → Nat} {h : hp} {k : Nat} {l : List Nat} (hl : ∀ m fd : Nat, l[m]? = some fd → fd = 0 ∨ fd = 1) : fvs q (nwk h k) (nid h) l = dfl l := by
  apply List.ext_getElem?
  intro n
  cases hk : l[n]? with
  | none =>
    have h2 : l.length ≤ n := by simpa using hk
    rw [List.getElem?_eq_none (by rw [fvs_len]; exact h2), List.getElem?_eq_none (by simp [dfl]; exact h2)]
  | some fd =>
    rw [fvs_get hk]
    rcases hl n fd hk with rfl | rfl
    · simp [dfl, hk, fvl, hI, nwk]
    · simp [dfl, hk, fvl, hR, nwk, va_rf]
-- the contract of a maker: more objects, the old ones where they were
def Ext (L : List Nat) (q : Nat → Nat) (L' : List Nat) (q' : Nat → Nat) : Prop := ∀ i ∈ L, i ∈ L' ∧ q' i = q i
theorem Ext.rf {L : List Nat} {q : Nat → Nat} : Ext L q L q := fun _ hi => ⟨hi, rfl⟩
theorem Ext.tr {L L1 L2 : List Nat} {q q1 q2 : Nat → Nat} (h1 : Ext L q L1 q1) (h2 : Ext L1 q1 L2 q2) : Ext L q L2 q2 := fun i hi => ⟨(h2 i (h1 i hi).1).1, (h2 i (h1 i hi).1).2.trans (h1 i hi).2⟩
def XQn (ω : XO) (L : List Nat) (q : Nat → Nat) (h' : hp) (v : (Nat → Nat) → Option Value) (sz : Nat) : Array Value → State → Outcome → State → Prop := match ω with
  | (_, D, E, b, _) => fun _ st oc t => (∃ (L' : List Nat) (q' : Nat → Nat), Ext L q L' q' ∧ (∀ i ∈ L', XA L q sz (q' i)) ∧ oc = .returned (v q') ∧ va_P D vwCl (XL E L' q' h') t.heap ∧ XD b L' q' h') ∧ va_F (XA L q sz) st t
def XMn (ω : XO) (y : MethodName) (cc : ByteArray) (nL : Nat) (rt : Option FieldType) (rm : Room) (L : List Nat) (q : Nat → Nat) (h : hp) (as : List Value) (v : (Nat → Nat) → Option Value) (h' : hp) : Prop :=
  ∀ sz : Nat, Met ω.1 y (wA y cc nL rt) rm (va_Pc as (XB ω L q h sz)) (XQn ω L q h' v sz) rm.cells rm.slots (XA L q sz)
def XRetN (ω : XO) (rm : Room) (κ : XK) (rt : Option FieldType) (L : List Nat) (q : Nat → Nat) (h' : hp) (v : (Nat → Nat) → Option Value) : Prop := match κ with
  | (_, _, s, _, args, below, meth, _, Q, A) => meth.sig.returnType = rt ∧ A = XA L q s.heap.size ∧ Q = MQ below (XQn ω L q h' v s.heap.size) args s rm.cells rm.slots A
theorem XMn_intro {ω : XO} {y : MethodName} {cc : ByteArray} {nL : Nat} {rt : Option FieldType} {rm : Room} {L : List Nat} {q : Nat → Nat} {h : hp} {as : List Value} {v : (Nat → Nat) → Option Value} {h' : hp} (lv : List (Nat × Value)) (own : String) (hy : plainName y.cls = true) (hown : y.cls = own) (hlv : lv_args 0 as = lv) (hfit : (lg_sl as).length ≤ nL)
    (body : ∀ κ : XK, XC ω rm nL κ cc own → XRetN ω rm κ rt L q h' v → (y.name = "<init>" → XInit κ) → XG ω rm nL κ L q h 0 0 0 lv []) : XMn ω y cc nL rt rm L q h as v h' := by
  obtain ⟨l, D, E, b, ζ⟩ := ω
  intro sz
  refine Met.ofW (cc := cc) (maxL := nL) (ret := rt) hy rfl ?_
  intro p e s m args below meth c s₁ B hml hv
  obtain ⟨rfl, hsz, hP, hK, hX, hz⟩ := hv
  subst hsz
  subst hlv
  subst hown
  have hts := atoms_spec (ws := wA y cc nL rt) B.pre
  have hl := lv_entry as (n := nL) hfit
  have hA : ∀ i ∈ L, XA L q s.heap.size (q i) := fun i hi => Or.inl ⟨i, hi, rfl⟩
  have hg := body (p, e, s, m, as.toArray, below, meth, c, MQ below (XQn (l, D, E, b, ζ) L q h' v s.heap.size) as.toArray s rm.cells rm.slots (XA L q s.heap.size), XA L q s.heap.size)
    ⟨B.exec, B.bytes, hml, findClass_of_methodNamed B.named, fun w hw => hts w (List.mem_cons_of_mem _ hw), hK, B.notSynchronized, fun a ha => Or.inr ha, hz⟩ ⟨B.returns, rfl, rfl⟩ (fun hn => (name_of_methodNamed B.named B.method).1.trans hn)
  have hg2 := hg s.heap [] _ hP hX hA va_S.rf hl
  rw [lg_entry_eq]
  exact hg2
/-- behind a maker: any map that goes on where the old one was -/
theorem xg_new {ω : XO} {rm : Room} {nL : Nat} {κ : XK} {cc : ByteArray} {own : String} (X : XC ω rm nL κ cc own) {L : List Nat} {q : Nat → Nat} {h : hp} {cells slots pc : Nat} {lv : List (Nat × Value)} {rest : List Value} {ci idx k : Nat} {C : String} {T : u_T} {N : Nat} {ty0 : Nat → FieldType} (hci : ci < 19) (hc : vwCl[ci]? = some (C, T, N)) (P : FW C T N ty0) (hin : ∀ w ∈ u_ws C T N, w ∈ ALLW) (hw : ∀ w ∈ ([.classLink own idx C, .instantiable C N, .initialized C] : List Cond), w ∈ ALLW) (hk : (k = 20 + ci) ∨ (k = ci + 1 ∧ ∀ m fd : Nat, (ktF ci)[m]? = some fd → fd = 0)) (hdf : ∀ j, j < N → defaultValue (ty0 j) = vp_V (dfl (rwF ci)) j) (hcs : cells + 1 ≤ rm.cells ∧ slots + N ≤ rm.slots) (hd : decode cc pc = .ok (.new idx, 3))
    {i1 : Nat} {h1 : hp} (hi1 : i1 = nid h) (hh1 : h1 = nwk h k) (kk : ∀ (L' : List Nat) (q' : Nat → Nat), Ext L q L' q' → (∀ j, sd ω.2.2.2.1 j = true → kdOf h j ≠ 0 → q' j = q j) → XG ω rm nL κ L' q' h1 (cells + 1) (slots + N) (pc + 3) lv (.ref (q' i1) :: rest)) : XG ω rm nL κ L q h cells slots pc lv rest := by
  obtain ⟨l, D, E, b, ζ⟩ := ω
  obtain ⟨p, e, s, m, args, below, meth, c, Q, A⟩ := κ
  obtain ⟨hx, hb, hml, hown, hts, hK, hlocks, hA0, hz⟩ := X
  intro H locs la hP hX hA hS hl
  have hcell : ∀ q2 : Nat → Nat, cellX E q2 (nwk h k) (nid h) = .inr (ci, dfl (rwF ci)) := by
    intro q2
    show cellK E q2 (nwk h k) (nid h) (kdOf (nwk h k) (nid h)) = _
    rw [kd_nwk_at]
    rcases hk with rfl | ⟨rfl, h0⟩
    · unfold cellK
      rw [if_neg (by omega), if_pos (by omega), show 20 + ci - 20 = ci by omega, fvs_dfl (fun m fd hm => rwF_le hm)]
    · unfold cellK
      rw [if_pos (by omega), show ci + 1 - 1 = ci by omega, fvs_dfl (fun m fd hm => Or.inl (h0 m fd hm))]
      have : rwF ci = ktF ci := by
        unfold rwF
        have h1 : ∀ x ∈ ktF ci, (if x = 0 then 0 else 1) = x := fun x hx => by
          obtain ⟨m, hm⟩ := List.mem_iff_getElem?.mp hx
          rw [h0 m x hm]; rfl
        rw [List.map_congr_left h1]; simp
      rw [this]
  refine va_new hx hb hts hin ty0 P.1 hown (hts _ (hw _ (by simp))) (hts _ (hw _ (by simp))) (hts _ (hw _ (by simp))) hK hP (XL_D hX hA) hS hA0 hc (fs := dfl (rwF ci)) hdf hcs.1 hcs.2 hd (fun a H1 hP1 hD1 hS1 => ?_)
  have hfresh : ∀ i ∈ L, q i ≠ a := by
    intro i hi e
    obtain ⟨n, -, hn⟩ := XL_at (E := E) (q := q) (h := h) hi
    have hnl : n < (XL E L q h).length := (List.getElem?_eq_some_iff.mp hn).1
    have h1 : (XL E L q h ++ [(a, Sum.inr (ci, dfl (rwF ci)))])[n]? = some (q i, cellX E q h i) := by rw [List.getElem?_append_left hnl]; exact hn
    have h2 : (XL E L q h ++ [(a, (Sum.inr (ci, dfl (rwF ci)) : va_E))])[(XL E L q h).length]? = some (a, Sum.inr (ci, dfl (rwF ci))) := by simp
    have := hD1.1 n _ _ _ h1 h2 e
    omega
  have hX2 : XD b (L ++ [nid h]) (qnw q (nid h) a) (nwk h k) := XD_new hX hfresh (fun m n h1 h2 => by
    rcases hk with rfl | ⟨rfl, h0⟩
    · omega
    · rw [show ci + 1 - 1 = ci by omega] at h2; have := h0 m _ h2; omega)
  rw [← XL_new hX (hcell _)] at hP1 hD1
  have hLq : ∀ j ∈ L, qnw q (nid h) a j = q j := fun j hj => qnw_ne (Nat.ne_of_lt (hX.2.2.2.1 j hj))
  subst hi1
  subst hh1
  have hk2 := kk (L ++ [nid h]) (qnw q (nid h) a) (fun j hj => ⟨List.mem_append_left _ hj, hLq j hj⟩) (fun j h1 h2 => hLq j (hX.2.2.1 j h1 h2)) H1 locs la hP1 hX2 (fun i hi => by
    obtain ⟨n, -, hn⟩ := XL_at (E := E) (q := qnw q (nid h) a) (h := nwk h k) hi
    exact hD1.2 n _ hn) hS1 hl
  rw [qnw_at] at hk2
  exact hk2
theorem aI_nwk {h : hp} {k : Nat} : aI (nwk h k) (nid h) = fun _ => 0 := by funext n; simp [aI, nwk]
theorem aL_nwk {h : hp} {k : Nat} : aL (nwk h k) (nid h) = fun _ => 0 := by funext n; simp [aL, nwk]
theorem aR_nwk {h : hp} {k n : Nat} : aR (nwk h k) (nid h) n = none := by simp [aR, nwk]
theorem cellX_raw {E : Nat → ClassId} {q : Nat → Nat} {h : hp} {i ci : Nat} (hk : kdOf h i = 20 + ci) (hci : ci < 19) : cellX E q h i = .inr (ci, fvs q h i (rwF ci)) := by
  simp only [cellX, cellK, hk]
  rw [if_neg (by omega), if_pos (by omega), show 20 + ci - 20 = ci by omega]
theorem E_of {D : va_G} {cl : List vw_C} {E : Nat → ClassId} {s : State} {cA : ClassId} {e : Nat} {ty : FieldType} (hty : (tysE E)[e]? = some (E e, ty)) (hK : va_K D cl (tysE E) s) (hK2 : va_K D cl (tysE E ++ [(cA, ty)]) s) (hp : (match ty with | .object _ => false | _ => true) = true) : cA = E e := by
  have h1 := (hK.2 e _ hty).2
  have h2 := (hK2.2 (tysE E).length (cA, ty) (by simp)).2
  cases ty with
  | object C => cases hp
  | _ => exact Option.some.inj (Eq.trans (Eq.symm h2) h1)
theorem E_ofO {D : va_G} {cl : List vw_C} {E : Nat → ClassId} {s : State} {cA : ClassId} {e : Nat} {C : String} (hty : (tysE E)[e]? = some (E e, .object C)) (hK : va_K D cl (tysE E) s) (hK2 : va_K D cl (tysE E ++ [(cA, .object C)]) s) : cA = E e := by
  obtain ⟨_, _, _, _, _, h1⟩ := (hK.2 e _ hty).2
  obtain ⟨_, _, _, _, _, h2⟩ := (hK2.2 (tysE E).length (cA, .object C) (by simp)).2
  exact Option.some.inj (h2.symm.trans h1)
theorem xg_row {ω : XO} {rm : Room} {nL : Nat} {κ : XK} {L : List Nat} {q : Nat → Nat} {h : hp} {cells slots pc : Nat} {lv : List (Nat × Value)} {rest : List Value} {N k a : Nat} {e : va_E} {D : va_G} {E : Nat → ClassId} {b : Nat} {A : Nat → Prop} {H : Heap} (hX : XD b L q h) (he : ∀ q2 : Nat → Nat, cellX E q2 (nwk h k) (nid h) = e) (hk20 : 20 ≤ k) (hP1 : va_P D vwCl (XL E L q h ++ [(a, e)]) H) (hD1 : va_D A (XL E L q h ++ [(a, e)])) :
    va_P D vwCl (XL E (L ++ [nid h]) (qnw q (nid h) a) (nwk h k)) H ∧ XD b (L ++ [nid h]) (qnw q (nid h) a) (nwk h k) ∧ (∀ i ∈ L ++ [nid h], A (qnw q (nid h) a i)) ∧ (∀ j ∈ L, qnw q (nid h) a j = q j) := by
  have hfresh : ∀ i ∈ L, q i ≠ a := by
    intro i hi e1
    obtain ⟨n, -, hn⟩ := XL_at (E := E) (q := q) (h := h) hi
    have hnl : n < (XL E L q h).length := (List.getElem?_eq_some_iff.mp hn).1
    have h1 : (XL E L q h ++ [(a, e)])[n]? = some (q i, cellX E q h i) := by rw [List.getElem?_append_left hnl]; exact hn
    have h2 : (XL E L q h ++ [(a, e)])[(XL E L q h).length]? = some (a, e) := by simp
    have := hD1.1 n _ _ _ h1 h2 e1
    omega
  have hX2 : XD b (L ++ [nid h]) (qnw q (nid h) a) (nwk h k) := XD_new hX hfresh (fun m n h1 h2 => by omega)
  rw [← XL_new hX (he _)] at hP1 hD1
  exact ⟨hP1, hX2, fun i hi => by
    obtain ⟨n, -, hn⟩ := XL_at (E := E) (q := qnw q (nid h) a) (h := nwk h k) hi
    exact hD1.2 n _ hn, fun j hj => qnw_ne (Nat.ne_of_lt (hX.2.2.2.1 j hj))⟩
theorem x_newaI {ω : XO} {rm : Room} {nL : Nat} {κ : XK} {cc : ByteArray} {own : String} (X : XC ω rm nL κ cc own) {L : List Nat} {q : Nat → Nat} {h : hp} {cells slots pc : Nat} {lv : List (Nat × Value)} {rest : List Value} {N : Nat} {n : Int32} (harr : Cond.arrayClass .int ∈ ALLW) (hn : ¬ n < 0) (hN : n.toNatClampNeg = N) (hb2 : N ≤ 2000) (hcs : cells + 1 ≤ rm.cells ∧ slots + N ≤ rm.slots) (hd : decode cc pc = .ok (.newarray .int, 2))
    {i1 : Nat} {h1 : hp} (hi1 : i1 = nid h) (hh1 : h1 = nwk h (40 + 10 * N + 0)) (kk : ∀ (L' : List Nat) (q' : Nat → Nat), Ext L q L' q' → (∀ j, sd ω.2.2.2.1 j = true → kdOf h j ≠ 0 → q' j = q j) → XG ω rm nL κ L' q' h1 (cells + 1) (slots + N) (pc + 2) lv (.ref (q' i1) :: rest)) : XG ω rm nL κ L q h cells slots pc lv (.int n :: rest) := by
  obtain ⟨l, D, E, b, ζ⟩ := ω
  obtain ⟨p, e2, s, m, args, below, meth, c, Q, A⟩ := κ
  obtain ⟨hx, hb, hml, hown, hts, hK, hlocks, hA0, hz⟩ := X
  intro H locs la hP hX hA hS hl
  refine va_newa (atype := .int) hx hb (hts _ harr) (ty := .int) rfl hK hP (XL_D hX hA) hS hA0 (N' := N) (a0 := (N, .inl (fun _ => 0))) (fun _ => rfl) hn hN (by show N * 4 ≤ 536870912; omega) hcs.1 hcs.2 hd (fun a cA H1 hK1 hP1 hD1 hS1 => ?_)
  have hcA : cA = E 0 := E_of (e := 0) rfl hK hK1 rfl
  subst hcA
  have hcell : ∀ q2 : Nat → Nat, cellX E q2 (nwk h (40 + 10 * N + 0)) (nid h) = .inl (E 0, N, .inl (fun _ => 0)) := by
    intro q2
    rw [cellX_row (n := N) (e := 0) kd_nwk_at (by omega), acn_i (by omega)]
    rw [aI_nwk]
  obtain ⟨g1, g2, g3, g4⟩ := xg_row (ω := (l, D, E, b, ζ)) (rm := rm) (nL := nL) (κ := (p, e2, s, m, args, below, meth, c, Q, A)) (cells := cells) (slots := slots) (pc := pc) (lv := lv) (rest := rest) (N := N) hX hcell (by omega) hP1 hD1
  subst hi1
  subst hh1
  have hk2 := kk (L ++ [nid h]) (qnw q (nid h) a) (fun j hj => ⟨List.mem_append_left _ hj, g4 j hj⟩) (fun j h1 h2 => g4 j (hX.2.2.1 j h1 h2)) H1 locs la g1 g2 g3 hS1 hl
  rw [qnw_at] at hk2
  exact hk2
theorem x_newaB {ω : XO} {rm : Room} {nL : Nat} {κ : XK} {cc : ByteArray} {own : String} (X : XC ω rm nL κ cc own) {L : List Nat} {q : Nat → Nat} {h : hp} {cells slots pc : Nat} {lv : List (Nat × Value)} {rest : List Value} {N : Nat} {n : Int32} (harr : Cond.arrayClass .byte ∈ ALLW) (hn : ¬ n < 0) (hN : n.toNatClampNeg = N) (hb2 : N ≤ 2000) (hcs : cells + 1 ≤ rm.cells ∧ slots + N ≤ rm.slots) (hd : decode cc pc = .ok (.newarray .byte, 2))
    {i1 : Nat} {h1 : hp} (hi1 : i1 = nid h) (hh1 : h1 = nwk h (40 + 10 * N + 1)) (kk : ∀ (L' : List Nat) (q' : Nat → Nat), Ext L q L' q' → (∀ j, sd ω.2.2.2.1 j = true → kdOf h j ≠ 0 → q' j = q j) → XG ω rm nL κ L' q' h1 (cells + 1) (slots + N) (pc + 2) lv (.ref (q' i1) :: rest)) : XG ω rm nL κ L q h cells slots pc lv (.int n :: rest) := by
  obtain ⟨l, D, E, b, ζ⟩ := ω
  obtain ⟨p, e2, s, m, args, below, meth, c, Q, A⟩ := κ
  obtain ⟨hx, hb, hml, hown, hts, hK, hlocks, hA0, hz⟩ := X
  intro H locs la hP hX hA hS hl
  refine va_newa (atype := .byte) hx hb (hts _ harr) (ty := .byte) rfl hK hP (XL_D hX hA) hS hA0 (N' := N) (a0 := (N, .inl (fun _ => 0))) (fun _ => rfl) hn hN (by show N * 1 ≤ 536870912; omega) hcs.1 hcs.2 hd (fun a cA H1 hK1 hP1 hD1 hS1 => ?_)
  have hcA : cA = E 1 := E_of (e := 1) rfl hK hK1 rfl
  subst hcA
  have hcell : ∀ q2 : Nat → Nat, cellX E q2 (nwk h (40 + 10 * N + 1)) (nid h) = .inl (E 1, N, .inl (fun _ => 0)) := by
    intro q2
    rw [cellX_row (n := N) (e := 1) kd_nwk_at (by omega), acn_i (by omega)]
    rw [aI_nwk]
  obtain ⟨g1, g2, g3, g4⟩ := xg_row (ω := (l, D, E, b, ζ)) (rm := rm) (nL := nL) (κ := (p, e2, s, m, args, below, meth, c, Q, A)) (cells := cells) (slots := slots) (pc := pc) (lv := lv) (rest := rest) (N := N) hX hcell (by omega) hP1 hD1
  subst hi1
  subst hh1
  have hk2 := kk (L ++ [nid h]) (qnw q (nid h) a) (fun j hj => ⟨List.mem_append_left _ hj, g4 j hj⟩) (fun j h1 h2 => g4 j (hX.2.2.1 j h1 h2)) H1 locs la g1 g2 g3 hS1 hl
  rw [qnw_at] at hk2
  exact hk2
theorem x_newaZ {ω : XO} {rm : Room} {nL : Nat} {κ : XK} {cc : ByteArray} {own : String} (X : XC ω rm nL κ cc own) {L : List Nat} {q : Nat → Nat} {h : hp} {cells slots pc : Nat} {lv : List (Nat × Value)} {rest : List Value} {N : Nat} {n : Int32} (harr : Cond.arrayClass .boolean ∈ ALLW) (hn : ¬ n < 0) (hN : n.toNatClampNeg = N) (hb2 : N ≤ 2000) (hcs : cells + 1 ≤ rm.cells ∧ slots + N ≤ rm.slots) (hd : decode cc pc = .ok (.newarray .boolean, 2))
    {i1 : Nat} {h1 : hp} (hi1 : i1 = nid h) (hh1 : h1 = nwk h (40 + 10 * N + 2)) (kk : ∀ (L' : List Nat) (q' : Nat → Nat), Ext L q L' q' → (∀ j, sd ω.2.2.2.1 j = true → kdOf h j ≠ 0 → q' j = q j) → XG ω rm nL κ L' q' h1 (cells + 1) (slots + N) (pc + 2) lv (.ref (q' i1) :: rest)) : XG ω rm nL κ L q h cells slots pc lv (.int n :: rest) := by
  obtain ⟨l, D, E, b, ζ⟩ := ω
  obtain ⟨p, e2, s, m, args, below, meth, c, Q, A⟩ := κ
  obtain ⟨hx, hb, hml, hown, hts, hK, hlocks, hA0, hz⟩ := X
  intro H locs la hP hX hA hS hl
  refine va_newa (atype := .boolean) hx hb (hts _ harr) (ty := .boolean) rfl hK hP (XL_D hX hA) hS hA0 (N' := N) (a0 := (N, .inl (fun _ => 0))) (fun _ => rfl) hn hN (by show N * 1 ≤ 536870912; omega) hcs.1 hcs.2 hd (fun a cA H1 hK1 hP1 hD1 hS1 => ?_)
  have hcA : cA = E 2 := E_of (e := 2) rfl hK hK1 rfl
  subst hcA
  have hcell : ∀ q2 : Nat → Nat, cellX E q2 (nwk h (40 + 10 * N + 2)) (nid h) = .inl (E 2, N, .inl (fun _ => 0)) := by
    intro q2
    rw [cellX_row (n := N) (e := 2) kd_nwk_at (by omega), acn_i (by omega)]
    rw [aI_nwk]
  obtain ⟨g1, g2, g3, g4⟩ := xg_row (ω := (l, D, E, b, ζ)) (rm := rm) (nL := nL) (κ := (p, e2, s, m, args, below, meth, c, Q, A)) (cells := cells) (slots := slots) (pc := pc) (lv := lv) (rest := rest) (N := N) hX hcell (by omega) hP1 hD1
  subst hi1
  subst hh1
  have hk2 := kk (L ++ [nid h]) (qnw q (nid h) a) (fun j hj => ⟨List.mem_append_left _ hj, g4 j hj⟩) (fun j h1 h2 => g4 j (hX.2.2.1 j h1 h2)) H1 locs la g1 g2 g3 hS1 hl
  rw [qnw_at] at hk2
  exact hk2
theorem x_newaJ {ω : XO} {rm : Room} {nL : Nat} {κ : XK} {cc : ByteArray} {own : String} (X : XC ω rm nL κ cc own) {L : List Nat} {q : Nat → Nat} {h : hp} {cells slots pc : Nat} {lv : List (Nat × Value)} {rest : List Value} {N : Nat} {n : Int32} (harr : Cond.arrayClass .long ∈ ALLW) (hn : ¬ n < 0) (hN : n.toNatClampNeg = N) (hb2 : N ≤ 2000) (hcs : cells + 1 ≤ rm.cells ∧ slots + N ≤ rm.slots) (hd : decode cc pc = .ok (.newarray .long, 2))
    {i1 : Nat} {h1 : hp} (hi1 : i1 = nid h) (hh1 : h1 = nwk h (40 + 10 * N + 3)) (kk : ∀ (L' : List Nat) (q' : Nat → Nat), Ext L q L' q' → (∀ j, sd ω.2.2.2.1 j = true → kdOf h j ≠ 0 → q' j = q j) → XG ω rm nL κ L' q' h1 (cells + 1) (slots + N) (pc + 2) lv (.ref (q' i1) :: rest)) : XG ω rm nL κ L q h cells slots pc lv (.int n :: rest) := by
  obtain ⟨l, D, E, b, ζ⟩ := ω
  obtain ⟨p, e2, s, m, args, below, meth, c, Q, A⟩ := κ
  obtain ⟨hx, hb, hml, hown, hts, hK, hlocks, hA0, hz⟩ := X
  intro H locs la hP hX hA hS hl
  refine va_newa (atype := .long) hx hb (hts _ harr) (ty := .long) rfl hK hP (XL_D hX hA) hS hA0 (N' := N) (a0 := (N, .inr (.inl (fun _ => 0)))) (fun _ => rfl) hn hN (by show N * 8 ≤ 536870912; omega) hcs.1 hcs.2 hd (fun a cA H1 hK1 hP1 hD1 hS1 => ?_)
  have hcA : cA = E 3 := E_of (e := 3) rfl hK hK1 rfl
  subst hcA
  have hcell : ∀ q2 : Nat → Nat, cellX E q2 (nwk h (40 + 10 * N + 3)) (nid h) = .inl (E 3, N, .inr (.inl (fun _ => 0))) := by
    intro q2
    rw [cellX_row (n := N) (e := 3) kd_nwk_at (by omega), acn_l]
    rw [aL_nwk]
  obtain ⟨g1, g2, g3, g4⟩ := xg_row (ω := (l, D, E, b, ζ)) (rm := rm) (nL := nL) (κ := (p, e2, s, m, args, below, meth, c, Q, A)) (cells := cells) (slots := slots) (pc := pc) (lv := lv) (rest := rest) (N := N) hX hcell (by omega) hP1 hD1
  subst hi1
  subst hh1
  have hk2 := kk (L ++ [nid h]) (qnw q (nid h) a) (fun j hj => ⟨List.mem_append_left _ hj, g4 j hj⟩) (fun j h1 h2 => g4 j (hX.2.2.1 j h1 h2)) H1 locs la g1 g2 g3 hS1 hl
  rw [qnw_at] at hk2
  exact hk2
theorem x_newq {ω : XO} {rm : Room} {nL : Nat} {κ : XK} {cc : ByteArray} {own : String} (X : XC ω rm nL κ cc own) {L : List Nat} {q : Nat → Nat} {h : hp} {cells slots pc : Nat} {lv : List (Nat × Value)} {rest : List Value} {idx e N : Nat} {C : String} {n : Int32} (he : (e = 4 ∧ C = "SignalBlind$Sender") ∨ (e = 5 ∧ C = "SignalBlind$Tape")) (hcl : Cond.classLink own idx C ∈ ALLW) (hn : ¬ n < 0) (hN : n.toNatClampNeg = N) (hb2 : N ≤ 1000) (hcs : cells + 1 ≤ rm.cells ∧ slots + N ≤ rm.slots) (hd : decode cc pc = .ok (.anewarray idx, 3))
    {i1 : Nat} {h1 : hp} (hi1 : i1 = nid h) (hh1 : h1 = nwk h (40 + 10 * N + e)) (kk : ∀ (L' : List Nat) (q' : Nat → Nat), Ext L q L' q' → (∀ j, sd ω.2.2.2.1 j = true → kdOf h j ≠ 0 → q' j = q j) → XG ω rm nL κ L' q' h1 (cells + 1) (slots + N) (pc + 3) lv (.ref (q' i1) :: rest)) : XG ω rm nL κ L q h cells slots pc lv (.int n :: rest) := by
  obtain ⟨l, D, E, b, ζ⟩ := ω
  obtain ⟨p, e2, s, m, args, below, meth, c, Q, A⟩ := κ
  obtain ⟨hx, hb, hml, hown, hts, hK, hlocks, hA0, hz⟩ := X
  intro H locs la hP hX hA hS hl
  have hao : va_AO C s := hz.2.2.2.2.2.2.2.2.2.2.2.2 C (by rcases he with ⟨-, rfl⟩ | ⟨-, rfl⟩ <;> simp [aoL])
  have he4 : 4 ≤ e ∧ e < 10 := by rcases he with ⟨h, -⟩ | ⟨h, -⟩ <;> omega
  have hty : (tysE E)[e]? = some (E e, .object C) := by rcases he with ⟨rfl, rfl⟩ | ⟨rfl, rfl⟩ <;> rfl
  refine va_newq hx hb hown (hts _ hcl) hao hK hP (XL_D hX hA) hS hA0 hn hN (by omega) hcs.1 hcs.2 hd (fun a cA H1 hK1 hP1 hD1 hS1 => ?_)
  have hcA : cA = E e := E_ofO hty hK hK1
  subst hcA
  have hcell : ∀ q2 : Nat → Nat, cellX E q2 (nwk h (40 + 10 * N + e)) (nid h) = .inl (E e, N, .inr (.inr (.inr (.inr (fun _ => none))))) := by
    intro q2
    rw [cellX_row (n := N) (e := e) kd_nwk_at he4.2, acn_r he4.1]
    simp [aR_nwk]
  obtain ⟨g1, g2, g3, g4⟩ := xg_row (ω := (l, D, E, b, ζ)) (rm := rm) (nL := nL) (κ := (p, e2, s, m, args, below, meth, c, Q, A)) (cells := cells) (slots := slots) (pc := pc) (lv := lv) (rest := rest) (N := N) hX hcell (by omega) hP1 hD1
  subst hi1
  subst hh1
  have hk2 := kk (L ++ [nid h]) (qnw q (nid h) a) (fun j hj => ⟨List.mem_append_left _ hj, g4 j hj⟩) (fun j h1 h2 => g4 j (hX.2.2.1 j h1 h2)) H1 locs la g1 g2 g3 hS1 hl
  rw [qnw_at] at hk2
  exact hk2
-- fields in a maker
theorem x_putG {ω : XO} {rm : Room} {nL : Nat} {κ : XK} {cc : ByteArray} {own : String} (X : XC ω rm nL κ cc own) {L : List Nat} {q : Nat → Nat} {h h' : hp} {cells slots pc : Nat} {lv : List (Nat × Value)} {rest : List Value} {i k ci idx : Nat} {l : List Nat} {rf C : String} {T : u_T} {N : Nat} {v : Value} {ty0 : Nat → FieldType} (F : FL own idx ci k rf C T N) (P : FW C T N ty0) (hs : sd ω.2.2.2.1 i = true) (hk : kdOf h i ≠ 0) (hcell : ∀ E, cellX E q h i = .inr (ci, fvs q h i l)) (hkl : k < l.length) (hfin : (T k).2.2.2 = false ∨ ((T k).2.2.2 = true ∧ XInit κ ∧ (T k).1 = own)) (hn : narrow (ty0 k) v = v) (hfit : fits (ty0 k) v = true) (hXD : XD ω.2.2.2.1 L q h → XD ω.2.2.2.1 L q h') (he : ∀ E, cellX E q h' i = .inr (ci, (fvs q h i l).set k v)) (ho : ∀ E, ∀ j, j ≠ i → cellX E q h' j = cellX E q h j) (hd : decode cc pc = .ok (.putfield idx, 3)) (kk : XG ω rm nL κ L q h' cells slots (pc + 3) lv rest) : XG ω rm nL κ L q h cells slots pc lv (v :: .ref (q i) :: rest) := by
  obtain ⟨l0, D, E, b, ζ⟩ := ω
  obtain ⟨p, e, s, m, args, below, meth, c, Q, A⟩ := κ
  obtain ⟨f1, f2, f3, f4, f5, f6⟩ := F
  intro H locs la hP hX hA hS hl
  have hi : i ∈ L := hX.2.2.1 i hs hk
  obtain ⟨n, hLn, hn1⟩ := XL_at (E := E) (q := q) (h := h) hi
  rw [hcell E] at hn1
  rcases hfin with hfin | ⟨hfin, hinit, hdecl⟩
  · refine va_put X.1 X.2.1 X.2.2.2.2.1 f4 ty0 P.1 P.2 X.2.2.2.1 X.2.2.2.2.2.1 hP (XL_D hX hA) hS n hn1 f2 k f3 (X.2.2.2.2.1 _ f5) (fl_same ⟨f1, f2, f3, f4, f5, f6⟩ X.2.2.2.2.1) hfin (P.1 k f3) hn hfit (by rw [fvs_len]; exact hkl) hd (fun H1 locs1 hP1 hD1 hS1 => ?_)
    rw [XL_set (h' := h') hX.1 hLn (he E) (ho E)] at hP1
    exact kk H1 locs1 la hP1 (hXD hX) hA hS1 hl
  · refine va_putF X.1 X.2.1 X.2.2.2.2.1 f4 ty0 P.1 P.2 X.2.2.2.1 X.2.2.2.2.2.1 hP (XL_D hX hA) hS n hn1 f2 k f3 (X.2.2.2.2.1 _ f5) (fl_same ⟨f1, f2, f3, f4, f5, f6⟩ X.2.2.2.2.1) hfin hinit hdecl (P.1 k f3) hn hfit (by rw [fvs_len]; exact hkl) hd (fun H1 locs1 hP1 hD1 hS1 => ?_)
    rw [XL_set (h' := h') hX.1 hLn (he E) (ho E)] at hP1
    exact kk H1 locs1 la hP1 (hXD hX) hA hS1 hl
theorem x_putGi {ω : XO} {rm : Room} {nL : Nat} {κ : XK} {cc : ByteArray} {own : String} (X : XC ω rm nL κ cc own) {L : List Nat} {q : Nat → Nat} {h : hp} {cells slots pc : Nat} {lv : List (Nat × Value)} {rest : List Value} {i k ci idx : Nat} {rf C : String} {T : u_T} {N : Nat} {v : Int32} {ty0 : Nat → FieldType} (F : FL own idx ci k rf C T N) (P : FW C T N ty0) (hs : sd ω.2.2.2.1 i = true) (hk : kdOf h i = 20 + ci) (hf : (rwF ci)[k]? = some 0) (hfin : (T k).2.2.2 = false ∨ ((T k).2.2.2 = true ∧ XInit κ ∧ (T k).1 = own)) (hn : narrow (ty0 k) (.int v) = .int v) (hfit : fits (ty0 k) (.int v) = true) (hd : decode cc pc = .ok (.putfield idx, 3)) (kk : XG ω rm nL κ L q (sI h i k v) cells slots (pc + 3) lv rest) : XG ω rm nL κ L q h cells slots pc lv (.int v :: .ref (q i) :: rest) := by
  refine x_putG (h' := sI h i k v) (l := rwF ci) X F P hs (by rw [hk]; omega) (fun E => cellX_raw hk F.1) (List.getElem?_eq_some_iff.mp hf).1 hfin hn hfit (fun hX => hX) (fun E => ?_) (fun E j hj => cellX_sI hj) hd kk
  rw [cellX_raw (ci := ci) (show kdOf (sI h i k v) i = 20 + ci from hk) F.1]
  refine congrArg (fun z => Sum.inr (ci, z)) (fvs_set hf ?_ ?_).symm
  · simp [fvl, hI, sI, up2]
  · intro j f hj
    match f with
    | 0 => simp [fvl, hI, sI, up2, hj]
    | 1 => rfl
    | m + 2 => rfl
/-- the senders' own three fields: their kind has no reference -/
theorem x_putGs {ω : XO} {rm : Room} {nL : Nat} {κ : XK} {cc : ByteArray} {own : String} (X : XC ω rm nL κ cc own) {L : List Nat} {q : Nat → Nat} {h : hp} {cells slots pc : Nat} {lv : List (Nat × Value)} {rest : List Value} {i k ci idx : Nat} {rf C : String} {T : u_T} {N : Nat} {v : Int32} {ty0 : Nat → FieldType} (F : FL own idx ci k rf C T N) (P : FW C T N ty0) (hs : sd ω.2.2.2.1 i = true) (hk : kdOf h i = ci + 1) (hf : (ktF ci)[k]? = some 0) (hfin : (T k).2.2.2 = false ∨ ((T k).2.2.2 = true ∧ XInit κ ∧ (T k).1 = own)) (hn : narrow (ty0 k) (.int v) = .int v) (hfit : fits (ty0 k) (.int v) = true) (hd : decode cc pc = .ok (.putfield idx, 3)) (kk : XG ω rm nL κ L q (sI h i k v) cells slots (pc + 3) lv rest) : XG ω rm nL κ L q h cells slots pc lv (.int v :: .ref (q i) :: rest) := by
  refine x_putG (h' := sI h i k v) (l := ktF ci) X F P hs (by rw [hk]; omega) (fun E => cellX_obj hk F.1) (List.getElem?_eq_some_iff.mp hf).1 hfin hn hfit (fun hX => hX) (fun E => ?_) (fun E j hj => cellX_sI hj) hd kk
  rw [cellX_obj (ci := ci) (show kdOf (sI h i k v) i = ci + 1 from hk) F.1]
  refine congrArg (fun z => Sum.inr (ci, z)) (fvs_set hf ?_ ?_).symm
  · simp [fvl, hI, sI, up2]
  · intro j f hj
    match f with
    | 0 => simp [fvl, hI, sI, up2, hj]
    | 1 => rfl
    | m + 2 => rfl
theorem x_putGr {ω : XO} {rm : Room} {nL : Nat} {κ : XK} {cc : ByteArray} {own : String} (X : XC ω rm nL κ cc own) {L : List Nat} {q : Nat → Nat} {h : hp} {cells slots pc : Nat} {lv : List (Nat × Value)} {rest : List Value} {i k ci idx : Nat} {rf C : String} {T : u_T} {N : Nat} {o : Option Nat} {v : Value} {ty0 : Nat → FieldType} (F : FL own idx ci k rf C T N) (P : FW C T N ty0) (hs : sd ω.2.2.2.1 i = true) (hk : kdOf h i = 20 + ci) (hf : (rwF ci)[k]? = some 1) (hfin : (T k).2.2.2 = false ∨ ((T k).2.2.2 = true ∧ XInit κ ∧ (T k).1 = own)) (hlv : ∀ t, o = some t → sd ω.2.2.2.1 t = true ∧ kdOf h t ≠ 0) (hv : v = va_rf (o.map q)) (hn : narrow (ty0 k) v = v) (hfit : fits (ty0 k) v = true) (hd : decode cc pc = .ok (.putfield idx, 3)) (kk : XG ω rm nL κ L q (sR h i k o) cells slots (pc + 3) lv rest) : XG ω rm nL κ L q h cells slots pc lv (v :: .ref (q i) :: rest) := by
  refine x_putG (h' := sR h i k o) (l := rwF ci) X F P hs (by rw [hk]; omega) (fun E => cellX_raw hk F.1) (List.getElem?_eq_some_iff.mp hf).1 hfin hn hfit (fun hX => XD_sR hX hlv) (fun E => ?_) (fun E j hj => cellX_sR hj) hd kk
  rw [cellX_raw (ci := ci) (show kdOf (sR h i k o) i = 20 + ci from hk) F.1]
  refine congrArg (fun z => Sum.inr (ci, z)) (fvs_set hf ?_ ?_).symm
  · rw [hv]; simp [fvl, hR, sR, up2]
  · intro j f hj
    match f with
    | 0 => rfl
    | 1 => simp [fvl, hR, sR, up2, hj]
    | m + 2 => rfl
theorem x_getGr {ω : XO} {rm : Room} {nL : Nat} {κ : XK} {cc : ByteArray} {own : String} (X : XC ω rm nL κ cc own) {L : List Nat} {q : Nat → Nat} {h : hp} {cells slots pc : Nat} {lv : List (Nat × Value)} {rest : List Value} {i k ci idx : Nat} {rf C : String} {T : u_T} {N : Nat} (F : FL own idx ci k rf C T N) (hs : sd ω.2.2.2.1 i = true) (hk : kdOf h i = 20 + ci) (hf : (rwF ci)[k]? = some 1) (hd : decode cc pc = .ok (.getfield idx, 3)) (kk : XG ω rm nL κ L q h cells slots (pc + 3) lv (va_rf ((hR h i k).map q) :: rest)) : XG ω rm nL κ L q h cells slots pc lv (.ref (q i) :: rest) := by
  obtain ⟨l, D, E, b, ζ⟩ := ω
  obtain ⟨p, e, s, m, args, below, meth, c, Q, A⟩ := κ
  intro H locs la hP hX hA hS hl
  have hi : i ∈ L := hX.2.2.1 i hs (by rw [hk]; omega)
  obtain ⟨n, -, hn⟩ := XL_at (E := E) (q := q) (h := h) hi
  rw [cellX_raw hk F.1] at hn
  exact va_get X.1 X.2.1 X.2.2.2.2.1 F.2.2.2.1 X.2.2.2.1 X.2.2.2.2.2.1 hP n hn F.2.1 k F.2.2.1 (X.2.2.2.2.1 _ F.2.2.2.2.1) (fl_same F X.2.2.2.2.1) (fvs_get hf) hd (kk H locs la hP hX hA hS hl)
/-- a Tape into the row of Tapes -/
theorem x_aastT {ω : XO} {rm : Room} {nL : Nat} {κ : XK} {cc : ByteArray} {own : String} (X : XC ω rm nL κ cc own) {L : List Nat} {q : Nat → Nat} {h : hp} {cells slots pc : Nat} {lv : List (Nat × Value)} {rest : List Value} {i n a : Nat} {x : Int32} (hsa : sd ω.2.2.2.1 a = true) (hka : kdOf h a = 7 + 1) (hs : sd ω.2.2.2.1 i = true) (hk : kdOf h i = 40 + 10 * n + 5) (hin : vp_in x n) (hd : decode cc pc = .ok (.aastore, 1)) (kk : XG ω rm nL κ L q (tR h i x.toNatClampNeg (some a)) cells slots (pc + 1) lv rest) : XG ω rm nL κ L q h cells slots pc lv (.ref (q a) :: .int x :: .ref (q i) :: rest) := by
  obtain ⟨l, D, E, b, ζ⟩ := ω
  obtain ⟨p, e2, s, m, args, below, meth, c, Q, A⟩ := κ
  intro H locs la hP hX hA hS hl
  have hi : i ∈ L := hX.2.2.1 i hs (by rw [hk]; omega)
  have hia : a ∈ L := hX.2.2.1 a hsa (by rw [hka]; omega)
  obtain ⟨j, hLj, hj⟩ := XL_at (E := E) (q := q) (h := h) hi
  obtain ⟨j2, -, hj2⟩ := XL_at (E := E) (q := q) (h := h) hia
  rw [cellX_row hk (by omega), acn_r (by omega)] at hj
  rw [cellX_obj hka (by omega)] at hj2
  have hrow : cellX E q (tR h i x.toNatClampNeg (some a)) i = .inl (E 5, n, .inr (.inr (.inr (.inr (fun j => (aR (tR h i x.toNatClampNeg (some a)) i j).map q))))) := by
    rw [cellX_row (show kdOf (tR h i x.toNatClampNeg (some a)) i = _ from hk) (by omega), acn_r (by omega)]
  refine va_astq (r := (RX6, TX6, 3)) X.1 X.2.1 X.2.2.2.2.2.1 hP (XL_D hX hA) hS j 5 j2 7 hj rfl hj2 rfl hin hd (fun H1 locs1 hP1 hD1 hS1 => ?_)
  rw [XL_set (h' := tR h i x.toNatClampNeg (some a)) hX.1 hLj (hrow.trans (congrArg (fun z => Sum.inl (E 5, n, Sum.inr (Sum.inr (Sum.inr (Sum.inr z))))) (by funext k; by_cases hkx : k = x.toNatClampNeg <;> simp [va_up, aR, tR, up2, hkx]))) (fun j hj => cellX_tR hj)] at hP1
  exact kk H1 locs1 la hP1 (XD_tR hX (fun t ht => by cases ht; exact ⟨hsa, by rw [hka]; omega⟩)) hA hS1 hl
-- ===== makers: calls, ends, the seal =====
theorem xg_callN {ω : XO} {rm : Room} {nL : Nat} {κ : XK} {cc : ByteArray} {own : String} (X : XC ω rm nL κ cc own) {L : List Nat} {q : Nat → Nat} {h h' : hp} {cells slots pc : Nat} {lv : List (Nat × Value)} {rest st : List Value} {v : (Nat → Nat) → Option Value} {a : Array Value} {rm2 : Room}
    (hrun : ∀ (H : Heap) (locs : List Loc) (la : Array Slot), va_P ω.2.1 vwCl (XL ω.2.2.1 L q h) H → XD ω.2.2.2.1 L q h → (∀ i ∈ L, κ.2.2.2.2.2.2.2.2.2 (q i)) → va_S κ.2.2.2.2.2.2.2.2.2 κ.2.2.1.heap H locs → lv_has la nL lv → va_Run κ.1 ω.1 κ.2.1 rm κ.2.2.1 κ.2.2.2.1 κ.2.2.2.2.1 κ.2.2.2.2.2.1 κ.2.2.2.2.2.2.1 κ.2.2.2.2.2.2.2.1 H locs cells slots rm2.cells rm2.slots (F0 κ.2.2.2.1 pc la st) rest (XQn ω L q h' v H.size a) (XA L q H.size))
    (kk : ∀ (L' : List Nat) (q' : Nat → Nat), Ext L q L' q' → (∀ j, sd ω.2.2.2.1 j = true → kdOf h j ≠ 0 → q' j = q j) → XG ω rm nL κ L' q' h' (cells + rm2.cells) (slots + rm2.slots) (pc + 3) lv ((v q').toList ++ rest)) : XG ω rm nL κ L q h cells slots pc lv st := by
  obtain ⟨l, D, E, b, ζ⟩ := ω
  obtain ⟨p, e, s, m, args, below, meth, c, Q, A⟩ := κ
  obtain ⟨-, -, -, -, -, -, -, hA0, -⟩ := X
  intro H locs la hP hX hA hS hl
  intro T hT XS
  obtain ⟨v', st₀, t, T', L2, g0, X', hL, e1, e2, ⟨⟨L', q', hE, hAn, hv, hP1, hX1⟩, hz, hk⟩, stp⟩ := hrun H locs la hP hX hA hS hl T hT XS
  cases hv
  rw [g0] at hz hk
  have hsub : ∀ a, XA L q H.size a → A a := fun a ha => by
    rcases ha with ⟨i, hi, rfl⟩ | ha
    · exact hA i hi
    · exact hA0 a (Nat.le_trans hS.1 ha)
  obtain ⟨t2, a1, b1⟩ := kk L' q' hE (fun j h1 h2 => (hE j (hX.2.2.1 j h1 h2)).2) T'.heap (locs ++ L2) la (by rw [e1]; exact hP1) hX1 (fun i hi => hsub _ (hAn i hi))
    ⟨Nat.le_trans hS.1 (by rw [e1]; exact hz), fun a h1 h2 => by rw [e1, hk a (Nat.lt_of_lt_of_le h1 hS.1) (fun z => h2 (hsub a z))]; exact hS.2.1 a h1 h2, fun x hx => by
      rcases List.mem_append.mp hx with h | h
      · exact hS.2.2 x h
      · exact hsub _ (hL x h)⟩ hl T' rfl X'
  exact ⟨t2, stp t2 a1, b1⟩
theorem x_callI {ω : XO} {rm : Room} {nL : Nat} {κ : XK} {cc : ByteArray} {own : String} (X : XC ω rm nL κ cc own) {L : List Nat} {q : Nat → Nat} {h h' : hp} {cells slots pc : Nat} {lv : List (Nat × Value)} {st : List Value} {y : MethodName} {bytes : ByteArray} {maxL idx i : Nat} {rm2 : Room} (As rest : List Value)
    (hM : XMn ω y bytes maxL none rm2 L q h (.ref (q i) :: As) (fun _ => none) h') (hl0 : ∀ w ∈ ([.methodLink own idx y, .instanceMethod y, .initialized y.cls] : List Cond), w ∈ ALLW) (hcode : Cond.code y bytes maxL none ∈ ALLW) (hyn : y.name = "<init>") (m5 : y.cls ≠ "java/lang/invoke/MethodHandle" ∧ y.cls ≠ "java/lang/invoke/VarHandle" ∧ (parseMethodDescriptor y.desc).map (fun d => d.parameters.length) = some As.length) (hR : rm2.frames + 1 ≤ rm.frames ∧ 8 + (maxL + 11) + rm2.locals ≤ rm.locals) (hcs : cells + rm2.cells ≤ rm.cells ∧ slots + rm2.slots ≤ rm.slots)
    (hst : st = As.reverse ++ .ref (q i) :: rest) (hroom : (rest.map fun v => v.category).sum ≤ 8) (hd : decode cc pc = .ok (.invokespecial idx, 3))
    (kk : ∀ (L' : List Nat) (q' : Nat → Nat), Ext L q L' q' → (∀ j, sd ω.2.2.2.1 j = true → kdOf h j ≠ 0 → q' j = q j) → XG ω rm nL κ L' q' h' (cells + rm2.cells) (slots + rm2.slots) (pc + 3) lv rest) : XG ω rm nL κ L q h cells slots pc lv st := by
  refine xg_callN (v := fun _ => none) (rest := rest) (h' := h') (rm2 := rm2) (a := (Value.ref (q i) :: As).toArray) X (fun H locs la hP hX hA hS hl => ?_) kk
  have X2 := X
  have hpre := fun (U : State) (hU : U.heap = H) hW => xb_pre X (as := .ref (q i) :: As) hP hX hA hS hU hW
  obtain ⟨l, D, E, b, ζ⟩ := ω
  obtain ⟨p, e, s, m, args, below, meth, c, Q, A⟩ := κ
  obtain ⟨hx, hb, hml, hown, hts, hK, hlocks, hA0, hz⟩ := X2
  have hG : GoodIn ALLW (wA y bytes maxL none) := goodA (ws := []) hcode (fun w hw => by cases hw)
  exact va_runI (As := As) (rest := rest) ⟨hx, hb, hml, hown, hts⟩ (hM H.size) (cwI As.length hts hG rfl rfl rfl (hts _ (hl0 _ (by simp))) (hts _ (hl0 _ (by simp))) (hts _ (hl0 _ (by simp))) hyn m5 hR) ⟨xb_blind, hpre⟩ rfl rfl hl.1 hst (lv_room hroom) hd hcs
theorem x_callIN {ω : XO} {rm : Room} {nL : Nat} {κ : XK} {cc : ByteArray} {own : String} (X : XC ω rm nL κ cc own) {L : List Nat} {q : Nat → Nat} {h h' : hp} {cells slots pc : Nat} {lv : List (Nat × Value)} {st : List Value} {y : MethodName} {bytes : ByteArray} {maxL idx i : Nat} {rm2 : Room} {host : String} (As rest : List Value)
    (hM : XMn ω y bytes maxL none rm2 L q h (.ref (q i) :: As) (fun _ => none) h') (hl0 : (own, idx, y, host) ∈ nwM) (hw0 : ∀ w ∈ ([.instanceMethod y, .initialized y.cls] : List Cond), w ∈ ALLW) (hcode : Cond.code y bytes maxL none ∈ ALLW) (hyn : y.name = "<init>") (m5 : y.cls ≠ "java/lang/invoke/MethodHandle" ∧ y.cls ≠ "java/lang/invoke/VarHandle" ∧ (parseMethodDescriptor y.desc).map (fun d => d.parameters.length) = some As.length) (hR : rm2.frames + 1 ≤ rm.frames ∧ 8 + (maxL + 11) + rm2.locals ≤ rm.locals) (hcs : cells + rm2.cells ≤ rm.cells ∧ slots + rm2.slots ≤ rm.slots)
    (hst : st = As.reverse ++ .ref (q i) :: rest) (hroom : (rest.map fun v => v.category).sum ≤ 8) (hd : decode cc pc = .ok (.invokespecial idx, 3))
    (kk : ∀ (L' : List Nat) (q' : Nat → Nat), Ext L q L' q' → (∀ j, sd ω.2.2.2.1 j = true → kdOf h j ≠ 0 → q' j = q j) → XG ω rm nL κ L' q' h' (cells + rm2.cells) (slots + rm2.slots) (pc + 3) lv rest) : XG ω rm nL κ L q h cells slots pc lv st := by
  refine xg_callN (v := fun _ => none) (rest := rest) (h' := h') (rm2 := rm2) (a := (Value.ref (q i) :: As).toArray) X (fun H locs la hP hX hA hS hl => ?_) kk
  have X2 := X
  have hpre := fun (U : State) (hU : U.heap = H) hW => xb_pre X (as := .ref (q i) :: As) hP hX hA hS hU hW
  obtain ⟨l, D, E, b, ζ⟩ := ω
  obtain ⟨p, e, s, m, args, below, meth, c, Q, A⟩ := κ
  obtain ⟨hx, hb, hml, hown, hts, hK, hlocks, hA0, hz⟩ := X2
  have hG : GoodIn ALLW (wA y bytes maxL none) := goodA (ws := []) hcode (fun w hw => by cases hw)
  exact va_runIN (As := As) (rest := rest) ⟨hx, hb, hml, hown, hts⟩ (hM H.size) ⟨va_cnB As.length hts hG rfl rfl rfl (hz.2.2.2.2.2.2.2.2.1 _ hl0) (hts _ (hw0 _ (by simp))) m5 hR, hyn, hts _ (hw0 _ (by simp))⟩ ⟨xb_blind, hpre⟩ rfl rfl hl.1 hst (lv_room hroom) hd hcs
theorem x_callSn {ω : XO} {rm : Room} {nL : Nat} {κ : XK} {cc : ByteArray} {own : String} (X : XC ω rm nL κ cc own) {L : List Nat} {q : Nat → Nat} {h h' : hp} {cells slots pc : Nat} {lv : List (Nat × Value)} {st : List Value} {v : (Nat → Nat) → Value} {y : MethodName} {bytes : ByteArray} {maxL idx : Nat} {rt : Option FieldType} {rm2 : Room} (As rest : List Value)
    (hM : XMn ω y bytes maxL rt rm2 L q h As (fun q => some (v q)) h') (hT : MS y bytes maxL rt As.length) (hl0 : Cond.methodLink own idx y ∈ ALLW) (hR : rm2.frames + 1 ≤ rm.frames ∧ 8 + (maxL + 11) + rm2.locals ≤ rm.locals) (hcs : cells + rm2.cells ≤ rm.cells ∧ slots + rm2.slots ≤ rm.slots)
    (hst : st = As.reverse ++ rest) (hroom : (rest.map fun v => v.category).sum ≤ 8) (hd : decode cc pc = .ok (.invokestatic idx, 3))
    (kk : ∀ (L' : List Nat) (q' : Nat → Nat), Ext L q L' q' → (∀ j, sd ω.2.2.2.1 j = true → kdOf h j ≠ 0 → q' j = q j) → XG ω rm nL κ L' q' h' (cells + rm2.cells) (slots + rm2.slots) (pc + 3) lv (v q' :: rest)) : XG ω rm nL κ L q h cells slots pc lv st := by
  refine xg_callN (v := fun q => some (v q)) (rest := rest) (h' := h') (rm2 := rm2) (a := As.toArray) X (fun H locs la hP hX hA hS hl => ?_) kk
  have X2 := X
  have hpre := fun (U : State) (hU : U.heap = H) hW => xb_pre X (as := As) hP hX hA hS hU hW
  obtain ⟨l, D, E, b, ζ⟩ := ω
  obtain ⟨p, e, s, m, args, below, meth, c, Q, A⟩ := κ
  obtain ⟨hx, hb, hml, hown, hts, hK, hlocks, hA0, hz⟩ := X2
  obtain ⟨m2, m3, m4, m5⟩ := hT
  have hG : GoodIn ALLW (va_wsS own idx y (wA y bytes maxL rt)) := goodA m4 (by
    intro w hw
    simp only [List.mem_cons, List.not_mem_nil, or_false] at hw
    rcases hw with rfl | rfl | rfl <;> assumption)
  exact va_runS (As := As) (rest := rest) ⟨hx, hb, hml, hown, hts⟩ (hM H.size) (va_cwS As.length hts hG rfl rfl rfl m5 hR) ⟨xb_blind, hpre⟩ rfl rfl hl.1 hst (lv_room hroom) hd hcs
theorem x_oinit {ω : XO} {rm : Room} {nL : Nat} {κ : XK} {cc : ByteArray} {own : String} (X : XC ω rm nL κ cc own) {L : List Nat} {q : Nat → Nat} {h : hp} {cells slots pc : Nat} {lv : List (Nat × Value)} {rest : List Value} {i idx : Nat} (hw : ∀ w ∈ ([.methodLink own idx Lib.objectInit, .instanceMethod Lib.objectInit, .code Lib.objectInit ⟨#[0xb1]⟩ 1 none] : List Cond), w ∈ ALLW) (hroom : (rest.map fun v => v.category).sum ≤ 8) (hR : 1 ≤ rm.frames ∧ 20 ≤ rm.locals) (hd : decode cc pc = .ok (.invokespecial idx, 3)) (kk : XG ω rm nL κ L q h cells slots (pc + 3) lv rest) : XG ω rm nL κ L q h cells slots pc lv (.ref (q i) :: rest) := by
  obtain ⟨l, D, E, b, ζ⟩ := ω
  obtain ⟨p, e, s, m, args, below, meth, c, Q, A⟩ := κ
  obtain ⟨hx, hb, hml, hown, hts, hK, hlocks, hA0, hz⟩ := X
  intro H locs la hP hX hA hS hl
  have h0 : 2 * (F0 m (pc + 3) la rest).monitorRoom + (rest.map fun v => v.category).sum ≤ 8 := lv_room hroom
  exact W.objInit hx hb hown (hts _ (hw _ (by simp))) (hts _ (hw _ (by simp))) (hts _ (hw _ (by simp))) rfl (hl.1.trans hml.symm) rfl hd hR.1 (Nat.le_trans (Nat.add_le_add_right h0 12) hR.2) (kk H locs la hP hX hA hS hl)
theorem x_retNV {ω : XO} {rm : Room} {nL : Nat} {κ : XK} {cc : ByteArray} {own : String} (X : XC ω rm nL κ cc own) {L0 L : List Nat} {q0 q : Nat → Nat} {h h' : hp} {u v : Unit} (R : XRetN ω rm κ none L0 q0 h' (fun _ => none)) (hE : Ext L0 q0 L q) (hf : some (h, v) = some (h', u)) {cells slots pc : Nat} {lv : List (Nat × Value)} (hcs : cells ≤ rm.cells ∧ slots ≤ rm.slots) (hd : decode cc pc = .ok (.return_, 1)) : XG ω rm nL κ L q h cells slots pc lv [] := by
  cases hf
  obtain ⟨l, D, E, b, ζ⟩ := ω
  obtain ⟨p, e, s, m, args, below, meth, c, Q, A⟩ := κ
  obtain ⟨hx, hb, -, -, -, -, hlocks, -, -⟩ := X
  obtain ⟨hr, rfl, rfl⟩ := R
  intro H locs la hP hX hA hS hl
  refine W.widen hcs.1 hcs.2 ?_
  exact W.vret hx hb hr (fun t ht _ => ⟨⟨L, q, hE, hA, rfl, by rw [ht]; exact hP, hX⟩, hS.F ht⟩) hS.2.2 hd hlocks
theorem x_retNI {ω : XO} {rm : Room} {nL : Nat} {κ : XK} {cc : ByteArray} {own : String} (X : XC ω rm nL κ cc own) {L0 L : List Nat} {q0 q : Nat → Nat} {h h' : hp} {v r : Int32} (R : XRetN ω rm κ (some .int) L0 q0 h' (fun _ => some (.int r))) (hE : Ext L0 q0 L q) (hf : some (h, v) = some (h', r)) {cells slots pc : Nat} {lv : List (Nat × Value)} (hcs : cells ≤ rm.cells ∧ slots ≤ rm.slots) (hd : decode cc pc = .ok (.ireturn, 1)) : XG ω rm nL κ L q h cells slots pc lv [.int v] := by
  cases hf
  obtain ⟨l, D, E, b, ζ⟩ := ω
  obtain ⟨p, e, s, m, args, below, meth, c, Q, A⟩ := κ
  obtain ⟨hx, hb, -, -, -, -, hlocks, -, -⟩ := X
  obtain ⟨hr, rfl, rfl⟩ := R
  intro H locs la hP hX hA hS hl
  refine W.widen hcs.1 hcs.2 ?_
  exact W.iret hx hb hr (fun t ht _ => ⟨⟨L, q, hE, hA, rfl, by rw [ht]; exact hP, hX⟩, hS.F ht⟩) hS.2.2 hd hlocks
theorem x_retNA {ω : XO} {rm : Room} {nL : Nat} {κ : XK} {cc : ByteArray} {own : String} (X : XC ω rm nL κ cc own) {L0 L : List Nat} {q0 q : Nat → Nat} {h h' : hp} {v r : Nat} {rt : FieldType} (R : XRetN ω rm κ (some rt) L0 q0 h' (fun q => some (.ref (q r)))) (hrt : ∃ n, rt = .object n) (hE : Ext L0 q0 L q) (hf : some (h, v) = some (h', r)) {cells slots pc : Nat} {lv : List (Nat × Value)} (hcs : cells ≤ rm.cells ∧ slots ≤ rm.slots) (hd : decode cc pc = .ok (.areturn, 1)) : XG ω rm nL κ L q h cells slots pc lv [.ref (q v)] := by
  cases hf
  obtain ⟨n, rfl⟩ := hrt
  obtain ⟨l, D, E, b, ζ⟩ := ω
  obtain ⟨p, e, s, m, args, below, meth, c, Q, A⟩ := κ
  obtain ⟨hx, hb, -, -, -, -, hlocks, -, -⟩ := X
  obtain ⟨hr, rfl, rfl⟩ := R
  intro H locs la hP hX hA hS hl
  refine W.widen hcs.1 hcs.2 ?_
  exact W.aret hx hb hr (Or.inl ⟨n, rfl⟩) (Or.inr ⟨_, rfl⟩) (fun t ht _ => ⟨⟨L, q, hE, hA, rfl, by rw [ht]; exact hP, hX⟩, hS.F ht⟩) hS.2.2 hd hlocks
-- what a maker asks: still there; a row's length; the seal
def ckW {α : Type} (h : hp) (i : Nat) (a : Option α) : Option α := if sd 1 i = true ∧ kdOf h i ≠ 0 then a else none
theorem ckW_some {α : Type} {h : hp} {i : Nat} {a : Option α} {r : α} (hh : ckW h i a = some r) : (sd 1 i = true ∧ kdOf h i ≠ 0) ∧ a = some r := by
  unfold ckW at hh
  by_cases hc : sd 1 i = true ∧ kdOf h i ≠ 0
  · rw [if_pos hc] at hh; exact ⟨hc, hh⟩
  · rw [if_neg hc] at hh; cases hh
def ckP {α : Type} (n : Int32) (a : Option α) : Option α := if ¬ n < 0 ∧ n.toNatClampNeg ≤ 2000 then a else none
theorem ckP_some {α : Type} {n : Int32} {a : Option α} {r : α} (hh : ckP n a = some r) : (¬ n < 0 ∧ n.toNatClampNeg ≤ 2000) ∧ a = some r := by
  unfold ckP at hh
  by_cases hc : ¬ n < 0 ∧ n.toNatClampNeg ≤ 2000
  · rw [if_pos hc] at hh; exact ⟨hc, hh⟩
  · rw [if_neg hc] at hh; cases hh
def slOk (h : hp) (i ci : Nat) : Bool := (List.range (ktF ci).length).all fun k => decide ((ktF ci).getD k 0 < 2 ∨ hR h i k = some (i + ((ktF ci).getD k 0 - 2)))
def sK (h : hp) (i c : Nat) : hp := (h.1, h.2.1, h.2.2.1, h.2.2.2.1, h.2.2.2.2.1, fun a => if a = i then c else h.2.2.2.2.2 a)
def ckSl {α : Type} (h : hp) (i ci : Nat) (a : Option α) : Option α := if (100 ≤ i ∧ ci < 19 ∧ sd 1 i = true ∧ kdOf h i = 20 + ci) ∧ slOk h i ci = true then a else none
theorem ckSl_some {α : Type} {h : hp} {i ci : Nat} {a : Option α} {r : α} (hh : ckSl h i ci a = some r) : ((100 ≤ i ∧ ci < 19 ∧ sd 1 i = true ∧ kdOf h i = 20 + ci) ∧ slOk h i ci = true) ∧ a = some r := by
  unfold ckSl at hh
  by_cases hc : (100 ≤ i ∧ ci < 19 ∧ sd 1 i = true ∧ kdOf h i = 20 + ci) ∧ slOk h i ci = true
  · rw [if_pos hc] at hh; exact ⟨hc, hh⟩
  · rw [if_neg hc] at hh; cases hh
theorem slOk_at {h : hp} {i ci k n : Nat} (hs : slOk h i ci = true) (hk : (ktF ci)[k]? = some (n + 2)) : hR h i k = some (i + n) := by
  have hlt : k < (ktF ci).length := (List.getElem?_eq_some_iff.mp hk).1
  have h1 := List.all_eq_true.mp hs k (List.mem_range.mpr hlt)
  have h2 : (ktF ci).getD k 0 = n + 2 := by rw [List.getD_eq_getElem?_getD, hk]; rfl
  rw [h2] at h1
  rcases of_decide_eq_true h1 with h | h
  · omega
  · rw [h]; congr 1
theorem kd_sK {h : hp} {i c j : Nat} (hj : j ≠ i) : kdOf (sK h i c) j = kdOf h j := by
  show (if j < 100 then stK j else (if j = i then c else h.2.2.2.2.2 j)) = _
  rw [if_neg hj]; rfl
theorem kd_sK_at {h : hp} {i c : Nat} (hi : 100 ≤ i) : kdOf (sK h i c) i = c := by
  show (if i < 100 then stK i else (if i = i then c else h.2.2.2.2.2 i)) = c
  rw [if_neg (by omega), if_pos rfl]
theorem nid_sK {h : hp} {i c : Nat} (hi : 100 ≤ i) : nid (sK h i c) = nid h := by
  show 100 + (if 0 = i then c else h.2.2.2.2.2 0) = _
  rw [if_neg (by omega)]; rfl
theorem fvs_seal {q : Nat → Nat} {h : hp} {i ci : Nat} (hs : slOk h i ci = true) : fvs q h i (rwF ci) = fvs q h i (ktF ci) := by
  apply List.ext_getElem?
  intro k
  cases hk : (ktF ci)[k]? with
  | none =>
    have h2 : (ktF ci).length ≤ k := by simpa using hk
    rw [List.getElem?_eq_none (by rw [fvs_len]; simpa [rwF] using h2), List.getElem?_eq_none (by rw [fvs_len]; exact h2)]
  | some fd =>
    have hr : (rwF ci)[k]? = some (if fd = 0 then 0 else 1) := by simp [rwF, hk]
    rw [fvs_get hr, fvs_get hk]
    refine congrArg some ?_
    match fd, hk with
    | 0, _ => rfl
    | 1, _ => rfl
    | n + 2, hk => show va_rf ((hR h i k).map q) = Value.ref (q (i + n)); rw [slOk_at hs hk]; rfl
theorem cellX_sK {E : Nat → ClassId} {q : Nat → Nat} {h : hp} {i ci : Nat} (h0 : 100 ≤ i ∧ ci < 19 ∧ sd 1 i = true ∧ kdOf h i = 20 + ci) (hs : slOk h i ci = true) (j : Nat) : cellX E q (sK h i (ci + 1)) j = cellX E q h j := by
  by_cases hj : j = i
  · subst hj
    rw [cellX_raw h0.2.2.2 h0.2.1, cellX_obj (kd_sK_at h0.1) h0.2.1, fvs_seal hs]
    rfl
  · show cellK E q (sK h i (ci + 1)) j (kdOf (sK h i (ci + 1)) j) = cellK E q h j (kdOf h j)
    rw [kd_sK hj]; rfl
theorem XD_sK {L : List Nat} {q : Nat → Nat} {h : hp} {i ci : Nat} {b : Nat} (h0 : 100 ≤ i ∧ ci < 19 ∧ sd b i = true ∧ kdOf h i = 20 + ci) (hs : slOk h i ci = true) (hX : XD b L q h) : XD b L q (sK h i (ci + 1)) := by
  refine ⟨hX.1, hX.2.1, fun j h1 h2 => ?_, fun j hj => by rw [nid_sK h0.1]; exact hX.2.2.2.1 j hj, fun j hj => ?_⟩
  · by_cases hji : j = i
    · subst hji; exact hX.2.2.1 j h1 (by rw [h0.2.2.2]; omega)
    · rw [kd_sK hji] at h2; exact hX.2.2.1 j h1 h2
  · obtain ⟨r1, r2, r3⟩ := hX.2.2.2.2 j hj
    rw [nid_sK h0.1]
    refine ⟨r1, r2, fun k n h1 h2 => ?_⟩
    by_cases hji : j = i
    · subst hji
      rw [kd_sK_at h0.1, show ci + 1 - 1 = ci by omega] at h2
      exact r1 k _ (slOk_at hs h2)
    · rw [kd_sK hji] at h1 h2; exact r3 k n h1 h2
theorem xg_seal {ω : XO} (hω : ω.2.2.2.1 = 1) {rm : Room} {nL : Nat} {κ : XK} {L : List Nat} {q : Nat → Nat} {h h1 : hp} {cells slots pc : Nat} {lv : List (Nat × Value)} {st : List Value} {i ci : Nat} (hb : (100 ≤ i ∧ ci < 19 ∧ sd 1 i = true ∧ kdOf h i = 20 + ci) ∧ slOk h i ci = true) (e : h1 = sK h i (ci + 1)) (kk : XG ω rm nL κ L q h1 cells slots pc lv st) : XG ω rm nL κ L q h cells slots pc lv st := by
  subst e
  obtain ⟨l, D, E, b, ζ⟩ := ω
  obtain ⟨p, e2, s, m, args, below, meth, c, Q, A⟩ := κ
  cases (hω : b = 1)
  intro H locs la hP hX hA hS hl
  have hXL : XL E L q (sK h i (ci + 1)) = XL E L q h := List.map_congr_left (fun j _ => by rw [cellX_sK hb.1 hb.2])
  exact kk H locs la (by rw [hXL]; exact hP) (XD_sK hb.1 hb.2 hX) hA hS hl
