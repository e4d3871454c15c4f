-- ===== the words that every method may use: the good ones of the tables =====
def XW1 : Cond := Cond.selects "java/lang/StringBuilder" yJ5_ensureCapacityInternal_d00df yJ5_ensureCapacityInternal_d00df
def ALLW : List Cond := XW1 :: lw_tbl.filter goodWord
theorem mT {w : Cond} (h : w ∈ tables_1) (hg : goodWord w = true) : w ∈ ALLW := List.mem_cons_of_mem _ (List.mem_filter.mpr ⟨List.mem_append_right _ h, hg⟩)
theorem mT_1 {w : Cond} (i : Nat) (h : tables_1_1[i]? = some w) (hg : goodWord w = true) : w ∈ ALLW := mT (List.mem_append_left _ (List.mem_of_getElem? h)) hg
theorem mT_2 {w : Cond} (i : Nat) (h : tables_1_2[i]? = some w) (hg : goodWord w = true) : w ∈ ALLW := mT (List.mem_append_right _ (List.mem_append_left _ (List.mem_of_getElem? h))) hg
theorem mT_3 {w : Cond} (i : Nat) (h : tables_1_3[i]? = some w) (hg : goodWord w = true) : w ∈ ALLW := mT (List.mem_append_right _ (List.mem_append_right _ (List.mem_append_left _ (List.mem_of_getElem? h)))) hg
theorem mT_4 {w : Cond} (i : Nat) (h : tables_1_4[i]? = some w) (hg : goodWord w = true) : w ∈ ALLW := mT (List.mem_append_right _ (List.mem_append_right _ (List.mem_append_right _ (List.mem_append_left _ (List.mem_of_getElem? h))))) hg
theorem mT_5 {w : Cond} (i : Nat) (h : tables_1_5[i]? = some w) (hg : goodWord w = true) : w ∈ ALLW := mT (List.mem_append_right _ (List.mem_append_right _ (List.mem_append_right _ (List.mem_append_right _ (List.mem_append_left _ (List.mem_of_getElem? h)))))) hg
theorem mT_6 {w : Cond} (i : Nat) (h : tables_1_6[i]? = some w) (hg : goodWord w = true) : w ∈ ALLW := mT (List.mem_append_right _ (List.mem_append_right _ (List.mem_append_right _ (List.mem_append_right _ (List.mem_append_right _ (List.mem_append_left _ (List.mem_of_getElem? h))))))) hg
theorem mT_7 {w : Cond} (i : Nat) (h : tables_1_7[i]? = some w) (hg : goodWord w = true) : w ∈ ALLW := mT (List.mem_append_right _ (List.mem_append_right _ (List.mem_append_right _ (List.mem_append_right _ (List.mem_append_right _ (List.mem_append_right _ (List.mem_of_getElem? h))))))) hg
theorem mTp {q : MethodName × Nat} (h : q ∈ lw_privs) (hg : goodWord (Cond.selects q.1.cls q.1 q.1) = true) : Cond.selects q.1.cls q.1 q.1 ∈ ALLW := List.mem_cons_of_mem _ (List.mem_filter.mpr ⟨List.mem_append_left _ (List.mem_map.mpr ⟨q, h, rfl⟩), hg⟩)
theorem allw_in : ∀ w ∈ ALLW, w = XW1 ∨ w ∈ lw_tbl := fun _ h => (List.mem_cons.mp h).imp id (fun h => (List.mem_filter.mp h).1)
theorem allw_good : ∀ w ∈ ALLW, goodWord w = true := fun _ h => (List.mem_cons.mp h).elim (fun e => by rw [e]; rfl) (fun h => (List.mem_filter.mp h).2)
def wA (y : MethodName) (cc : ByteArray) (nL : Nat) (rt : Option FieldType) : List Cond := Cond.code y cc nL rt :: ALLW
theorem goodA {y : MethodName} {cc : ByteArray} {nL : Nat} {rt : Option FieldType} (h : Cond.code y cc nL rt ∈ ALLW) {ws : List Cond} (hw : ∀ w ∈ ws, w ∈ ALLW) : GoodIn ALLW (ws ++ wA y cc nL rt) := by
  intro w h1
  have h2 : w ∈ ALLW := by
    rcases List.mem_append.mp h1 with h1 | h1
    · exact hw w h1
    · rcases List.mem_cons.mp h1 with h1 | h1
      · rw [h1]; exact h
      · exact h1
  exact ⟨h2, good_of_word (allw_good w h2)⟩
-- ===== the abstract heap: fields (ints, references) and rows (ints, longs, references) by the object's number; kinds of those made later =====
abbrev hp : Type := (Nat → Nat → Int32) × (Nat → Nat → Option Nat) × (Nat → Nat → Int32) × (Nat → Nat → Int64) × (Nat → Nat → Option Nat) × (Nat → Nat)
def hI (h : hp) (i k : Nat) : Int32 := h.1 i k
def hR (h : hp) (i k : Nat) : Option Nat := h.2.1 i k
def aI (h : hp) (i k : Nat) : Int32 := h.2.2.1 i k
def aL (h : hp) (i k : Nat) : Int64 := h.2.2.2.1 i k
def aR (h : hp) (i k : Nat) : Option Nat := h.2.2.2.2.1 i k
def up2 {α : Type} (f : Nat → Nat → α) (i k : Nat) (v : α) : Nat → Nat → α := fun a b => if a = i ∧ b = k then v else f a b
def sI (h : hp) (i k : Nat) (v : Int32) : hp := (up2 h.1 i k v, h.2)
def sR (h : hp) (i k : Nat) (v : Option Nat) : hp := (h.1, up2 h.2.1 i k v, h.2.2)
def tI (h : hp) (i k : Nat) (v : Int32) : hp := (h.1, h.2.1, up2 h.2.2.1 i k v, h.2.2.2)
def tL (h : hp) (i k : Nat) (v : Int64) : hp := (h.1, h.2.1, h.2.2.1, up2 h.2.2.2.1 i k v, h.2.2.2.2)
def tR (h : hp) (i k : Nat) (v : Option Nat) : hp := (h.1, h.2.1, h.2.2.1, h.2.2.2.1, up2 h.2.2.2.2.1 i k v, h.2.2.2.2.2)
/-- the kinds of the numbers below 100: a class's place in the list of classes and one more; 20 and a class's place: an object whose fields are being made; a row: 40 + 10 times its length + its sort (int, byte, boolean, long, SignalBlind$Sender, SignalBlind$Tape) -/
def stL : List Nat := [13, 5, 4, 120, 94, 90, 240, 4, 90, 4, 120, 4, 120, 5, 4, 120, 94, 90, 240, 4, 90, 4, 120, 4, 120, 4, 1040, 11, 140, 140, 140, 1040, 105, 1, 201, 100, 203, 90, 90, 8, 643, 8, 643, 8, 643, 8, 643, 8, 643, 8, 643, 0, 14, 120, 90, 90, 90, 240, 1040, 100, 640, 640, 640, 640, 6040, 1050, 200, 1042, 10282, 90, 90, 90, 90, 120, 120, 120, 120, 90, 90, 90, 240, 90, 90, 120, 120, 120, 240, 100, 100, 3643, 643]
def stK (i : Nat) : Nat := (stL[i]?).getD 0
def kdOf (h : hp) (i : Nat) : Nat := if i < 100 then stK i else h.2.2.2.2.2 i
/-- a class's fields: 0 an int, 1 a reference, n + 2 the object that is n on -/
def ktF (ci : Nat) : List Nat := match ci with
  | 0 => [3, 0, 0, 0]
  | 3 => [3, 0]
  | 4 => [3, 5, 0, 6, 7, 0, 8, 10, 12, 1]
  | 7 => [3, 0, 0]
  | 10 => [3, 4, 5, 0, 6, 0, 0, 1, 0]
  | 12 => [3, 15, 0, 27, 1, 0, 34, 35, 37, 38, 39, 40]
  | 13 => [0, 0, 0, 3, 4, 5, 6, 7, 0, 0, 0, 0, 0, 8, 9, 10, 11, 12, 13, 14, 15, 0, 0, 0, 16, 17, 18, 19, 20, 0, 21, 22, 0, 0, 23, 24, 25, 0, 0, 0, 0, 0, 0, 0, 0, 26, 27, 28, 29, 30, 31, 32, 33, 34, 35, 0, 36, 37, 38, 39, 40]
  | _ => [0, 0, 0]
def fvl (q : Nat → Nat) (h : hp) (i k fd : Nat) : Value := match fd with
  | 0 => .int (hI h i k)
  | 1 => va_rf ((hR h i k).map q)
  | n + 2 => .ref (q (i + n))
def fvs (q : Nat → Nat) (h : hp) (i : Nat) (l : List Nat) : List Value := l.zipIdx.map (fun p => fvl q h i p.2 p.1)
def acn (q : Nat → Nat) (h : hp) (i e : Nat) : (Nat → Int32) ⊕ (Nat → Int64) ⊕ (Nat → UInt32) ⊕ (Nat → UInt64) ⊕ (Nat → Option Nat) :=
  if e = 3 then .inr (.inl (aL h i)) else if 4 ≤ e then .inr (.inr (.inr (.inr (fun j => (aR h i j).map q)))) else .inl (aI h i)
def rwF (ci : Nat) : List Nat := (ktF ci).map (fun fd => if fd = 0 then 0 else 1)
def cellK (E : Nat → ClassId) (q : Nat → Nat) (h : hp) (i c : Nat) : va_E := if c < 20 then .inr (c - 1, fvs q h i (ktF (c - 1))) else if c < 40 then .inr (c - 20, fvs q h i (rwF (c - 20))) else .inl (E ((c - 40) % 10), (c - 40) / 10, acn q h i ((c - 40) % 10))
def cellX (E : Nat → ClassId) (q : Nat → Nat) (h : hp) (i : Nat) : va_E := cellK E q h i (kdOf h i)
def XL (E : Nat → ClassId) (L : List Nat) (q : Nat → Nat) (h : hp) : va_W := L.map (fun i => (q i, cellX E q h i))
/-- the numbers of a side: the reference's (0), the class's (1), those made later alone (2) -/
def sd (b i : Nat) : Bool := match b with
  | 0 => decide (52 ≤ i) && decide (i < 100)
  | 1 => decide (i < 52) || decide (100 ≤ i)
  | _ => decide (100 ≤ i)
/-- the next number of an object that is made -/
def nid (h : hp) : Nat := 100 + h.2.2.2.2.2 0
/-- every reference of an object is to a number below N -/
def rok (N : Nat) (h : hp) (j : Nat) : Prop := (∀ k t, hR h j k = some t → t < N) ∧ (∀ k t, aR h j k = some t → t < N) ∧ ∀ k n : Nat, kdOf h j < 20 → (ktF (kdOf h j - 1))[k]? = some (n + 2) → j + n < N
def XD (b : Nat) (L : List Nat) (q : Nat → Nat) (h : hp) : Prop := L.Nodup ∧ (∀ i ∈ L, ∀ j ∈ L, q i = q j → i = j) ∧ (∀ i, sd b i = true → kdOf h i ≠ 0 → i ∈ L) ∧ (∀ i ∈ L, i < nid h) ∧ ∀ i ∈ L, rok (nid h) h i
theorem XL_at {E : Nat → ClassId} {L : List Nat} {q : Nat → Nat} {h : hp} {i : Nat} (hi : i ∈ L) : ∃ k : Nat, L[k]? = some i ∧ (XL E L q h)[k]? = some (q i, cellX E q h i) := by
  obtain ⟨k, hk⟩ := List.mem_iff_getElem?.mp hi
  exact ⟨k, hk, by simp [XL, hk]⟩
theorem XL_inv {E : Nat → ClassId} {L : List Nat} {q : Nat → Nat} {h : hp} {k : Nat} {r : Nat × va_E} (hk : (XL E L q h)[k]? = some r) : ∃ i, L[k]? = some i ∧ i ∈ L ∧ r = (q i, cellX E q h i) := by
  simp only [XL, List.getElem?_map, Option.map_eq_some_iff] at hk
  obtain ⟨i, h1, h2⟩ := hk
  exact ⟨i, h1, List.mem_of_getElem? h1, h2.symm⟩
theorem XL_D {E : Nat → ClassId} {b : Nat} {L : List Nat} {q : Nat → Nat} {h : hp} {A : Nat → Prop} (hX : XD b L q h) (hA : ∀ i ∈ L, A (q i)) : va_D A (XL E L q h) := by
  refine ⟨fun i j p r hp hr e => ?_, fun k p hp => ?_⟩
  · obtain ⟨a, ha, hal, rfl⟩ := XL_inv hp
    obtain ⟨c, hc, hcl, rfl⟩ := XL_inv hr
    have hac : a = c := hX.2.1 a hal c hcl e
    subst hac
    obtain ⟨hi, ei⟩ := List.getElem?_eq_some_iff.mp ha
    obtain ⟨hj, ej⟩ := List.getElem?_eq_some_iff.mp hc
    exact (List.getElem?_inj hi hX.1).mp (ha.trans hc.symm)
  · obtain ⟨a, ha, hal, rfl⟩ := XL_inv hp
    exact hA a hal
theorem XL_set {E : Nat → ClassId} {L : List Nat} {q : Nat → Nat} {h h' : hp} {i k : Nat} {e : va_E} (hnd : L.Nodup) (hk : L[k]? = some i) (he : cellX E q h' i = e) (ho : ∀ j, j ≠ i → cellX E q h' j = cellX E q h j) : (XL E L q h).set k (q i, e) = XL E L q h' := by
  obtain ⟨hkl, ek⟩ := List.getElem?_eq_some_iff.mp hk
  apply List.ext_getElem?
  intro n
  by_cases hn : k = n
  · subst hn
    rw [List.getElem?_set_self (by simpa [XL] using hkl)]
    simp [XL, hk, he]
  · rw [List.getElem?_set_ne hn]
    simp only [XL, List.getElem?_map]
    cases hj : L[n]? with
    | none => rfl
    | some j =>
      have hji : j ≠ i := by
        intro e1
        subst e1
        obtain ⟨hnl, en⟩ := List.getElem?_eq_some_iff.mp hj
        exact hn ((List.getElem?_inj hkl hnd).mp (hk.trans hj.symm))
      simp [ho j hji]
theorem fvs_get {q : Nat → Nat} {h : hp} {i k fd : Nat} {l : List Nat} (hf : l[k]? = some fd) : (fvs q h i l)[k]? = some (fvl q h i k fd) := by
  simp [fvs, List.getElem?_zipIdx, hf]
theorem fvs_len {q : Nat → Nat} {h : hp} {i : Nat} {l : List Nat} : (fvs q h i l).length = l.length := by simp [fvs]
theorem up2_at {α : Type} {f : Nat → Nat → α} {i k : Nat} {v : α} : up2 f i k v i k = v := if_pos ⟨rfl, rfl⟩
theorem up2_ne {α : Type} {f : Nat → Nat → α} {i k a c : Nat} {v : α} (h : ¬ (a = i ∧ c = k)) : up2 f i k v a c = f a c := if_neg h
theorem fvs_set {q : Nat → Nat} {h h' : hp} {i k fd : Nat} {l : List Nat} {v : Value} (hf : l[k]? = some fd) (hv : fvl q h' i k fd = v) (ho : ∀ j f, j ≠ k → fvl q h' i j f = fvl q h i j f) : (fvs q h i l).set k v = fvs q h' i l := by
  obtain ⟨hkl, ek⟩ := List.getElem?_eq_some_iff.mp hf
  apply List.ext_getElem?
  intro n
  by_cases hn : k = n
  · subst hn
    rw [List.getElem?_set_self (by rw [fvs_len]; exact hkl), fvs_get hf, hv]
  · rw [List.getElem?_set_ne hn]
    cases hj : l[n]? with
    | none =>
      have h1 : l.length ≤ n := by simpa using hj
      rw [List.getElem?_eq_none (by rw [fvs_len]; exact h1), List.getElem?_eq_none (by rw [fvs_len]; exact h1)]
    | some f => rw [fvs_get hj, fvs_get hj, ho n f (fun e => hn e.symm)]
-- what changes of a cell when a part is written
theorem cellK_sI {E : Nat → ClassId} {q : Nat → Nat} {h : hp} {i k : Nat} {v : Int32} {j c : Nat} (hj : j ≠ i) : cellK E q (sI h i k v) j c = cellK E q h j c := by
  have h1 : ∀ n f, fvl q (sI h i k v) j n f = fvl q h j n f := by
    intro n f
    match f with
    | 0 => simp [fvl, hI, sI, up2, hj]
    | 1 => rfl
    | m + 2 => rfl
  have h2 : fvs q (sI h i k v) j = fvs q h j := by funext l; simp only [fvs, h1]
  simp only [cellK, h2]
  rfl
theorem cellX_sI {E : Nat → ClassId} {q : Nat → Nat} {h : hp} {i k : Nat} {v : Int32} {j : Nat} (hj : j ≠ i) : cellX E q (sI h i k v) j = cellX E q h j := cellK_sI hj
theorem cellX_sR {E : Nat → ClassId} {q : Nat → Nat} {h : hp} {i k : Nat} {v : Option Nat} {j : Nat} (hj : j ≠ i) : cellX E q (sR h i k v) j = cellX E q h j := by
  have h1 : ∀ n f, fvl q (sR h i k v) j n f = fvl q h j n f := by
    intro n f
    match f with
    | 0 => rfl
    | 1 => simp [fvl, hR, sR, up2, hj]
    | m + 2 => rfl
  have h2 : fvs q (sR h i k v) j = fvs q h j := by funext l; simp only [fvs, h1]
  show cellK E q (sR h i k v) j (kdOf h j) = cellK E q h j (kdOf h j)
  simp only [cellK, h2]
  rfl
theorem fvs_t {q : Nat → Nat} {h h' : hp} {j : Nat} (h1 : h'.1 = h.1) (h2 : h'.2.1 = h.2.1) : fvs q h' j = fvs q h j := by
  have h3 : ∀ n f, fvl q h' j n f = fvl q h j n f := by
    intro n f
    match f with
    | 0 => simp [fvl, hI, h1]
    | 1 => simp [fvl, hR, h2]
    | m + 2 => rfl
  funext l; simp only [fvs, h3]
theorem cellX_tI {E : Nat → ClassId} {q : Nat → Nat} {h : hp} {i k : Nat} {v : Int32} {j : Nat} (hj : j ≠ i) : cellX E q (tI h i k v) j = cellX E q h j := by
  show cellK E q (tI h i k v) j (kdOf h j) = cellK E q h j (kdOf h j)
  have h2 : fvs q (tI h i k v) j = fvs q h j := fvs_t rfl rfl
  have h3 : aI (tI h i k v) j = aI h j := by funext n; simp [aI, tI, up2, hj]
  simp only [cellK, h2, acn, h3]
  rfl
theorem cellX_tL {E : Nat → ClassId} {q : Nat → Nat} {h : hp} {i k : Nat} {v : Int64} {j : Nat} (hj : j ≠ i) : cellX E q (tL h i k v) j = cellX E q h j := by
  show cellK E q (tL h i k v) j (kdOf h j) = cellK E q h j (kdOf h j)
  have h2 : fvs q (tL h i k v) j = fvs q h j := fvs_t rfl rfl
  have h3 : aL (tL h i k v) j = aL h j := by funext n; simp [aL, tL, up2, hj]
  simp only [cellK, h2, acn, h3]
  rfl
theorem cellX_tR {E : Nat → ClassId} {q : Nat → Nat} {h : hp} {i k : Nat} {v : Option Nat} {j : Nat} (hj : j ≠ i) : cellX E q (tR h i k v) j = cellX E q h j := by
  show cellK E q (tR h i k v) j (kdOf h j) = cellK E q h j (kdOf h j)
  have h2 : fvs q (tR h i k v) j = fvs q h j := fvs_t rfl rfl
  have h3 : aR (tR h i k v) j = aR h j := by funext n; simp [aR, tR, up2, hj]
  simp only [cellK, h2, acn, h3]
  rfl
theorem cellX_obj {E : Nat → ClassId} {q : Nat → Nat} {h : hp} {i ci : Nat} (hk : kdOf h i = ci + 1) (hci : ci < 19) : cellX E q h i = .inr (ci, fvs q h i (ktF ci)) := by
  simp only [cellX, cellK, hk]
  rw [if_pos (by omega)]
  rfl
theorem cellX_row {E : Nat → ClassId} {q : Nat → Nat} {h : hp} {i n e : Nat} (hk : kdOf h i = 40 + 10 * n + e) (he : e < 10) : cellX E q h i = .inl (E e, n, acn q h i e) := by
  have h1 : (40 + 10 * n + e - 40) % 10 = e := by omega
  have h2 : (40 + 10 * n + e - 40) / 10 = n := by omega
  simp only [cellX, cellK, hk]
  rw [if_neg (by omega), if_neg (by omega), h1, h2]
-- ===== pure words: what may fail =====
def chk {α : Type} (x : Int32) (n : Nat) (a : Option α) : Option α := if x < 0 ∨ n ≤ x.toNatClampNeg then none else a
theorem chk_some {α : Type} {x : Int32} {n : Nat} {a : Option α} {r : α} (h : chk x n a = some r) : vp_in x n ∧ a = some r := by
  unfold chk at h
  by_cases hc : x < 0 ∨ n ≤ x.toNatClampNeg
  · rw [if_pos hc] at h; cases h
  · rw [if_neg hc] at h; exact ⟨hc, h⟩
def nz {α : Type} (y : Int32) (a : Option α) : Option α := if y = 0 then none else a
theorem nz_some {α : Type} {y : Int32} {a : Option α} {r : α} (h : nz y a = some r) : ¬ y = 0 ∧ a = some r := by
  unfold nz at h
  by_cases hc : y = 0
  · rw [if_pos hc] at h; cases h
  · rw [if_neg hc] at h; exact ⟨hc, h⟩
def bnd {α β : Type} (o : Option (hp × α)) (k : hp → α → Option β) : Option β := match o with
  | none => none
  | some p => k p.1 p.2
theorem bnd_some {α β : Type} {o : Option (hp × α)} {k : hp → α → Option β} {r : β} (h : bnd o k = some r) : ∃ (h1 : hp) (x : α), o = some (h1, x) ∧ k h1 x = some r := by
  match o, h with
  | some (h1, x), h => exact ⟨h1, x, rfl, h⟩
def bnr {α β : Type} (o : Option α) (k : α → Option β) : Option β := match o with
  | none => none
  | some p => k p
theorem bnr_some {α β : Type} {o : Option α} {k : α → Option β} {r : β} (h : bnr o k = some r) : ∃ x : α, o = some x ∧ k x = some r := by
  match o, h with
  | some x, h => exact ⟨x, rfl, h⟩
def onO {α : Type} (o : Option Nat) (a : α) (b : Nat → α) : α := match o with
  | none => a
  | some i => b i
/-- a value is of a class: its kind, and its side -/
def ckO {α : Type} (b : Nat) (h : hp) (i c : Nat) (a : Option α) : Option α := if sd b i = true ∧ kdOf h i = c then a else none
theorem ckO_some {α : Type} {b : Nat} {h : hp} {i c : Nat} {a : Option α} {r : α} (hh : ckO b h i c a = some r) : (sd b i = true ∧ kdOf h i = c) ∧ a = some r := by
  unfold ckO at hh
  by_cases hc : sd b i = true ∧ kdOf h i = c
  · rw [if_pos hc] at hh; exact ⟨hc, hh⟩
  · rw [if_neg hc] at hh; cases hh
def alen (h : hp) (i : Nat) : Nat := (kdOf h i - 40) / 10
/-- a value is a row of a sort -/
def ckA {α : Type} (b : Nat) (h : hp) (i e : Nat) (a : Option α) : Option α := if sd b i = true ∧ kdOf h i = 40 + 10 * alen h i + e then a else none
theorem ckA_some {α : Type} {b : Nat} {h : hp} {i e : Nat} {a : Option α} {r : α} (hh : ckA b h i e a = some r) : (sd b i = true ∧ kdOf h i = 40 + 10 * alen h i + e) ∧ a = some r := by
  unfold ckA at hh
  by_cases hc : sd b i = true ∧ kdOf h i = 40 + 10 * alen h i + e
  · rw [if_pos hc] at hh; exact ⟨hc, hh⟩
  · rw [if_neg hc] at hh; cases hh
-- ===== the constants: texts, statics (old cells that nothing changes) =====
def xz_len : List Nat := [4, 16, 6, 3, 10]
def xz_byt : List (List Int32) := [[111, 115, 116, 110], [111, 112, 101, 110, 115, 104, 117, 116, 116, 117, 114, 110, 110, 101, 97, 114], [115, 107, 118, 111, 102, 104], [60, 61, 62], [48, 49, 50, 51, 52, 53, 54, 55, 56, 57]]
abbrev XZ : Type := (Nat → Nat) × (Nat → Nat)
def nwM : List (String × Nat × MethodName × String) := [("SignalBlind", 13, yX3_init, "SignalBlind"), ("SignalBlind", 36, yX9_init, "SignalBlind"), ("SignalBlind", 72, yX6_init, "SignalBlind"), ("SignalBlind$Ward", 106, yX11_turned, "SignalBlind"), ("SignalBlind$Tilted", 7, yX11_turned, "SignalBlind"), ("SignalBlind$Sister", 11, yX11_mirrored, "SignalBlind")]
def nwC : List (String × String) := [("SignalBlind$Sister", "SignalBlind$Tilted"), ("SignalBlind$Wind", "SignalBlind$Half"), ("SignalBlind$Told", "SignalBlind$Nurse"), ("SignalBlind$Tilted", "SignalBlind$Sender"), ("SignalBlind$Half", "SignalBlind$Sender"), ("SignalBlind$Nurse", "SignalBlind$Sender"), ("SignalBlind$Sister", "SignalBlind$Sender"), ("SignalBlind$Wind", "SignalBlind$Sender"), ("SignalBlind$Told", "SignalBlind$Sender")]
def nwD : List MethodName := [yX4_tilts, yX4_sends, yX4_tells]
def ncL : List (String × String) := [("SignalBlind$Sender", "SignalBlind$Tilted"), ("SignalBlind$Sender", "SignalBlind$Half"), ("SignalBlind$Sender", "SignalBlind$Nurse"), ("SignalBlind$Sender", "SignalBlind$Sister"), ("SignalBlind$Sender", "SignalBlind$Wind"), ("SignalBlind$Sender", "SignalBlind$Told"), ("SignalBlind$Tilted", "SignalBlind$Half"), ("SignalBlind$Tilted", "SignalBlind$Nurse"), ("SignalBlind$Tilted", "SignalBlind$Sister"), ("SignalBlind$Tilted", "SignalBlind$Wind"), ("SignalBlind$Tilted", "SignalBlind$Told"), ("SignalBlind$Half", "SignalBlind$Tilted"), ("SignalBlind$Half", "SignalBlind$Nurse"), ("SignalBlind$Half", "SignalBlind$Sister"), ("SignalBlind$Half", "SignalBlind$Wind"), ("SignalBlind$Half", "SignalBlind$Told"), ("SignalBlind$Nurse", "SignalBlind$Tilted"), ("SignalBlind$Nurse", "SignalBlind$Half"), ("SignalBlind$Nurse", "SignalBlind$Sister"), ("SignalBlind$Nurse", "SignalBlind$Wind"), ("SignalBlind$Nurse", "SignalBlind$Told"), ("SignalBlind$Sister", "SignalBlind$Half"), ("SignalBlind$Sister", "SignalBlind$Nurse"), ("SignalBlind$Sister", "SignalBlind$Wind"), ("SignalBlind$Sister", "SignalBlind$Told"), ("SignalBlind$Wind", "SignalBlind$Tilted"), ("SignalBlind$Wind", "SignalBlind$Nurse"), ("SignalBlind$Wind", "SignalBlind$Sister"), ("SignalBlind$Wind", "SignalBlind$Told"), ("SignalBlind$Told", "SignalBlind$Tilted"), ("SignalBlind$Told", "SignalBlind$Half"), ("SignalBlind$Told", "SignalBlind$Sister"), ("SignalBlind$Told", "SignalBlind$Wind")]
def aoL : List String := ["SignalBlind$Sender", "SignalBlind$Tape"]
/-- words of the tables that are carried by hand: nest mates' links, casts that hold, methods that are declared, casts that don't hold -/
def xw (U : State) : Prop := (∀ x ∈ nwM, va_Nw (.methodLinkNest x.1 x.2.1 x.2.2.1 x.2.2.2) U) ∧ (∀ x ∈ nwC, va_Nw (.castable x.1 x.2) U) ∧ (∀ x ∈ nwD, va_Nw (.declares x) U) ∧ (∀ x ∈ ncL, va_Nc x.1 x.2 U) ∧ ∀ C ∈ aoL, va_AO C U
def xz (ζ : XZ) (A : Nat → Prop) (U : State) : Prop := va_Z "java/lang/String" "COMPACT_STRINGS" "Z" (.int 1) A U U.heap ∧ va_Zq "jdk/internal/util/Preconditions" "SIOOBE_FORMATTER" "Ljava/util/function/BiFunction;" A U U.heap ∧
  vk_R "SignalBlind$Ward" 54 "ostn" (ζ.1 0) U ∧ vk_R "SignalBlind$Ward" 60 "openshutturnnear" (ζ.1 1) U ∧ vk_R "SignalBlind$Ward" 85 "skvofh" (ζ.1 2) U ∧ vk_R "SignalBlind$Ward" 87 "<=>" (ζ.1 3) U ∧ vk_R "SignalBlind$Ward" 89 "0123456789" (ζ.1 4) U ∧
  vk_S 5 xz_len xz_byt ζ.1 ζ.2 A U U.heap ∧ xw U
theorem xw_same {u U : State} (hv : U.vm = u.vm) (h : xw u) : xw U := ⟨fun x hx => va_Nw.same rfl hv.symm (h.1 x hx), fun x hx => va_Nw.same rfl hv.symm (h.2.1 x hx), fun x hx => va_Nw.same rfl hv.symm (h.2.2.1 x hx), fun x hx => va_Nc.moved (by rw [hv]; exact Vm.Alike.refl _) (h.2.2.2.1 x hx), fun x hx => va_AO.moved (by rw [hv]; exact Vm.Alike.refl _) (h.2.2.2.2 x hx)⟩
theorem xw_to {u U : State} (hW : u.WarmedH U.vm) (h : xw u) : xw U := ⟨fun x hx => (h.1 x hx).warmM hW, fun x hx => (h.2.1 x hx).warmC hW, fun x hx => (h.2.2.1 x hx).warmD hW, fun x hx => (h.2.2.2.1 x hx).moved hW.alike, fun x hx => (h.2.2.2.2 x hx).moved hW.alike⟩
theorem xz_same {ζ : XZ} {A : Nat → Prop} {u U : State} (hv : U.vm = u.vm) (hh : U.heap = u.heap) (h : xz ζ A u) : xz ζ A U := by
  obtain ⟨h1, h2, h3, h4, h5, h6, h7, h8, h9⟩ := h
  have hvm : u.vm.Alike U.vm := by rw [hv]; exact Vm.Alike.refl _
  exact ⟨by rw [hh]; exact h1.moved hvm, by rw [hh]; exact h2.moved hvm, h3.same hv, h4.same hv, h5.same hv, h6.same hv, h7.same hv, by rw [hh]; exact h8.moved hvm, xw_same hv h9⟩
theorem xz_to {ζ : XZ} {A B : Nat → Prop} {u U : State} {locs : List Loc} (h : xz ζ A u) (hW : u.WarmedH U.vm) (hS : va_S A u.heap U.heap locs) (hAB : ∀ q, B q → A q) : xz ζ B U := by
  obtain ⟨h1, h2, h3, h4, h5, h6, h7, h8, h9⟩ := h
  have hk : ∀ a : Nat, a < u.heap.size → ¬ A a → U.heap[a]? = u.heap[a]? := hS.2.1
  exact ⟨((h1.kept hk).moved hW.alike).narrow hAB, ((h2.kept hk).moved hW.alike).narrow hAB, h3.warm hW, h4.warm hW, h5.warm hW, h6.warm hW, h7.warm hW, ((h8.kept hk).moved hW.alike).narrow hAB, xw_to hW h9⟩
-- ===== what stands all through a method; the goal; the contract =====
abbrev XO : Type := Launch × va_G × (Nat → ClassId) × Nat × XZ
abbrev XK : Type := Program × Env × State × MethodId × Array Value × List Frame × Method × Code × (State → Prop) × (Nat → Prop)
def tysE (E : Nat → ClassId) : List (ClassId × FieldType) := [(E 0, .int), (E 1, .byte), (E 2, .boolean), (E 3, .long), (E 4, .object "SignalBlind$Sender"), (E 5, .object "SignalBlind$Tape")]
def XC (ω : XO) (rm : Room) (nL : Nat) (κ : XK) (cc : ByteArray) (own : String) : Prop := match ω, κ with
  | (_, D, E, _, ζ), (p, _, s, m, args, _, meth, c, _, A) => p.tables.exec = Jvm.exec ∧ c.code = cc ∧ c.maxLocals = nL ∧ s.vm.findClass own = some m.cls ∧ (∀ w ∈ ALLW, w.before args s = true) ∧ va_K D vwCl (tysE E) s ∧ meth.locks = false ∧ (∀ a, s.heap.size ≤ a → A a) ∧ xz ζ A s
def XG (ω : XO) (rm : Room) (nL : Nat) (κ : XK) (L : List Nat) (q : Nat → Nat) (h : hp) (cells slots pc : Nat) (lv : List (Nat × Value)) (st : List Value) : Prop := match ω, κ with
  | (l, D, E, b, _), (p, e, s, m, args, below, meth, c, Q, A) => ∀ (H : Heap) (locs : List Loc) (la : Array Slot), va_P D vwCl (XL E L q h) H → XD b L q h → (∀ i ∈ L, A (q i)) → va_S A s.heap H locs → lv_has la nL lv → W p l e rm s m args below meth c H locs cells slots Q (F0 m pc la st)
def XA (L : List Nat) (q : Nat → Nat) (sz : Nat) : Nat → Prop := fun a => (∃ i, i ∈ L ∧ a = q i) ∨ sz ≤ a
def XB (ω : XO) (L : List Nat) (q : Nat → Nat) (h : hp) (sz : Nat) (U : State) : Prop := match ω with
  | (_, D, E, b, ζ) => U.heap.size = sz ∧ va_P D vwCl (XL E L q h) U.heap ∧ va_K D vwCl (tysE E) U ∧ XD b L q h ∧ xz ζ (XA L q sz) U
def XQ (ω : XO) (L : List Nat) (q : Nat → Nat) (h' : hp) (v : Option Value) (sz : Nat) : Array Value → State → Outcome → State → Prop := match ω with
  | (_, D, E, b, _) => fun _ st oc t => (oc = .returned v ∧ va_P D vwCl (XL E L q h') t.heap ∧ XD b L q h') ∧ va_F (XA L q sz) st t
/-- THE CONTRACT of a method that makes nothing: from the heap h, with these values, it answers v, and the heap is h' then -/
def XM (ω : XO) (y : MethodName) (cc : ByteArray) (nL : Nat) (rt : Option FieldType) (rm : Room) (L : List Nat) (q : Nat → Nat) (h : hp) (as : List Value) (v : Option Value) (h' : hp) : Prop :=
  ∀ sz : Nat, Met ω.1 y (wA y cc nL rt) rm (va_Pc as (XB ω L q h sz)) (XQ ω L q h' v sz) rm.cells rm.slots (XA L q sz)
def XRet (ω : XO) (rm : Room) (κ : XK) (rt : Option FieldType) (L : List Nat) (q : Nat → Nat) (h' : hp) (v : Option Value) : Prop := match κ with
  | (_, _, s, _, args, below, meth, _, Q, A) => meth.sig.returnType = rt ∧ A = XA L q s.heap.size ∧ Q = MQ below (XQ ω L q h' v s.heap.size) args s rm.cells rm.slots A
def XInit (κ : XK) : Prop := match κ with
  | (_, _, _, _, _, _, meth, _, _, _) => meth.name = "<init>"
theorem XM_intro {ω : XO} {y : MethodName} {cc : ByteArray} {nL : Nat} {rt : Option FieldType} {rm : Room} {L : List Nat} {q : Nat → Nat} {h : hp} {as : List Value} {v : Option Value} {h' : hp} (lv : List (Nat × Value)) (own : String) (hy : plainName y.cls = true) (hown : y.cls = own) (hlv : lv_args 0 as = lv) (hfit : (lg_sl as).length ≤ nL)
    (body : ∀ κ : XK, XC ω rm nL κ cc own → XRet ω rm κ rt L q h' v → XG ω rm nL κ L q h 0 0 0 lv []) : XM ω y cc nL rt rm L q h as v h' := by
  obtain ⟨l, D, E, b, ζ⟩ := ω
  intro sz
  refine Met.ofW (cc := cc) (maxL := nL) (ret := rt) hy rfl ?_
  intro p e s m args below meth c s₁ B hml hv
  obtain ⟨rfl, hsz, hP, hK, hX, hz⟩ := hv
  subst hsz
  subst hlv
  subst hown
  have hts := atoms_spec (ws := wA y cc nL rt) B.pre
  have hl := lv_entry as (n := nL) hfit
  have hA : ∀ i ∈ L, XA L q s.heap.size (q i) := fun i hi => Or.inl ⟨i, hi, rfl⟩
  have hg := body (p, e, s, m, as.toArray, below, meth, c, MQ below (XQ (l, D, E, b, ζ) L q h' v s.heap.size) as.toArray s rm.cells rm.slots (XA L q s.heap.size), XA L q s.heap.size)
    ⟨B.exec, B.bytes, hml, findClass_of_methodNamed B.named, fun w hw => hts w (List.mem_cons_of_mem _ hw), hK, B.notSynchronized, fun a ha => Or.inr ha, hz⟩ ⟨B.returns, rfl, rfl⟩
  have hg2 := hg s.heap [] _ hP hX hA va_S.rf hl
  rw [lg_entry_eq]
  exact hg2
/-- the end: an int, a boolean, a long, nothing -/
theorem x_ret {ω : XO} {rm : Room} {nL : Nat} {κ : XK} {cc : ByteArray} {own : String} (X : XC ω rm nL κ cc own) {L : List Nat} {q : Nat → Nat} {h : hp} {rt : Option FieldType} {r : Int32} (R : XRet ω rm κ rt L q h (some (.int r))) {cells slots pc : Nat} {lv : List (Nat × Value)} (hc : cells ≤ rm.cells) (hs : slots ≤ rm.slots) (hrt : rt = some .int ∨ (rt = some .boolean ∧ narrow .boolean (.int r) = .int r) ∨ (rt = some .char ∧ narrow .char (.int r) = .int r) ∨ (rt = some .byte ∧ narrow .byte (.int r) = .int r)) (hd : decode cc pc = .ok (.ireturn, 1)) : XG ω rm nL κ L q h cells slots pc lv [.int r] := by
  obtain ⟨l, D, E, b, ζ⟩ := ω
  obtain ⟨p, e, s, m, args, below, meth, c, Q, A⟩ := κ
  obtain ⟨hx, hb, -, -, -, -, hlocks, -, -⟩ := X
  obtain ⟨hr, rfl, rfl⟩ := R
  intro H locs la hP hX hA hS hl
  refine W.widen hc hs ?_
  rcases hrt with rfl | ⟨rfl, hn⟩ | ⟨rfl, hn⟩ | ⟨rfl, hn⟩
  · exact W.iret hx hb hr (fun t ht _ => ⟨⟨rfl, by rw [ht]; exact hP, hX⟩, hS.F ht⟩) hS.2.2 hd hlocks
  · exact W.zret hx hb hr hn (fun t ht _ => ⟨⟨rfl, by rw [ht]; exact hP, hX⟩, hS.F ht⟩) hS.2.2 hd hlocks
  · exact W.zret hx hb hr hn (fun t ht _ => ⟨⟨rfl, by rw [ht]; exact hP, hX⟩, hS.F ht⟩) hS.2.2 hd hlocks
  · exact W.zret hx hb hr hn (fun t ht _ => ⟨⟨rfl, by rw [ht]; exact hP, hX⟩, hS.F ht⟩) hS.2.2 hd hlocks
theorem x_lret {ω : XO} {rm : Room} {nL : Nat} {κ : XK} {cc : ByteArray} {own : String} (X : XC ω rm nL κ cc own) {L : List Nat} {q : Nat → Nat} {h : hp} {r : Int64} (R : XRet ω rm κ (some .long) L q h (some (.long r))) {cells slots pc : Nat} {lv : List (Nat × Value)} (hc : cells ≤ rm.cells) (hs : slots ≤ rm.slots) (hd : decode cc pc = .ok (.lreturn, 1)) : XG ω rm nL κ L q h cells slots pc lv [.long r] := by
  obtain ⟨l, D, E, b, ζ⟩ := ω
  obtain ⟨p, e, s, m, args, below, meth, c, Q, A⟩ := κ
  obtain ⟨hx, hb, -, -, -, -, hlocks, -, -⟩ := X
  obtain ⟨hr, rfl, rfl⟩ := R
  intro H locs la hP hX hA hS hl
  refine W.widen hc hs ?_
  exact W.lret hx hb hr (fun t ht _ => ⟨⟨rfl, by rw [ht]; exact hP, hX⟩, hS.F ht⟩) hS.2.2 hd hlocks
theorem x_vret {ω : XO} {rm : Room} {nL : Nat} {κ : XK} {cc : ByteArray} {own : String} (X : XC ω rm nL κ cc own) {L : List Nat} {q : Nat → Nat} {h : hp} (R : XRet ω rm κ none L q h none) {cells slots pc : Nat} {lv : List (Nat × Value)} (hc : cells ≤ rm.cells) (hs : slots ≤ rm.slots) (hd : decode cc pc = .ok (.return_, 1)) : XG ω rm nL κ L q h cells slots pc lv [] := by
  obtain ⟨l, D, E, b, ζ⟩ := ω
  obtain ⟨p, e, s, m, args, below, meth, c, Q, A⟩ := κ
  obtain ⟨hx, hb, -, -, -, -, hlocks, -, -⟩ := X
  obtain ⟨hr, rfl, rfl⟩ := R
  intro H locs la hP hX hA hS hl
  refine W.widen hc hs ?_
  exact W.vret hx hb hr (fun t ht _ => ⟨⟨rfl, by rw [ht]; exact hP, hX⟩, hS.F ht⟩) hS.2.2 hd hlocks
