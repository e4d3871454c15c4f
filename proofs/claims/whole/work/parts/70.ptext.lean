-- ===== reading a text: descent and pile, without heaps =====
abbrev pR : Type := Nat × Option (List Nat)
def nx (T : Nat → Nat) (L a : Nat) : Nat := if a < L then T a else 999
def dg (c : Nat) : Bool := decide (48 ≤ c ∧ c ≤ 57)
def pNum (T : Nat → Nat) (L a : Nat) : Nat × Option Nat := if dg (nx T L a) then (if dg (nx T L (a + 1)) then (a + 2, some ((nx T L a - 48) * 10 + (nx T L (a + 1) - 48))) else (a + 1, some (nx T L a - 48))) else (a, none)
def lt6 (c : Nat) : Nat := if c = 115 then 0 else if c = 107 then 1 else if c = 118 then 2 else if c = 111 then 3 else if c = 102 then 4 else if c = 104 then 5 else 6
def pTest (T : Nat → Nat) (L a : Nat) : pR := if lt6 (nx T L a) = 6 then (a, none) else if 60 ≤ nx T L (a + 1) ∧ nx T L (a + 1) ≤ 62 then (match pNum T L (a + 2) with
    | (b, none) => (b, none)
    | (b, some n) => (b, some [300 * lt6 (nx T L a) + 100 * (nx T L (a + 1) - 60) + n])) else (a + 1, none)
def pBL (T : Nat → Nat) (L ch cd : Nat) (S : Nat → pR) : Nat → Nat → List Nat → pR
  | 0, a, u => (a, some u)
  | k + 1, a, u => if nx T L a = ch then (match S (a + 1) with
    | (b, none) => (b, none)
    | (b, some t) => pBL T L ch cd S k b (u ++ t ++ [cd])) else (a, some u)
def pBo (T : Nat → Nat) (L ch cd : Nat) (S : Nat → pR) (a : Nat) : pR := match S a with
  | (b, none) => (b, none)
  | (b, some t) => pBL T L ch cd S 100 b t
def pEi (T : Nat → Nat) (L : Nat) (S : Nat → pR) (a : Nat) : pR := pBo T L 124 2003 (pBo T L 38 2002 S) a
def pSi (T : Nat → Nat) (L : Nat) : Nat → Nat → pR
  | 0, a => pTest T L a
  | r + 1, a => if nx T L a = 33 then (match pSi T L r (a + 1) with
    | (b, none) => (b, none)
    | (b, some t) => (b, some (t ++ [2001]))) else if nx T L a = 40 then (match pEi T L (pSi T L r) (a + 1) with
    | (b, none) => (b, none)
    | (b, some t) => if nx T L b = 41 then (b + 1, some t) else (b, none)) else pTest T L a
-- the pile's way
def strp : List Nat → List Nat
  | [] => []
  | c :: W => if c = 33 then strp W else c :: W
def nots : List Nat → List Nat
  | [] => []
  | c :: W => if c = 33 then 2001 :: nots W else []
def stl (b : Nat) : List Nat → List Nat → List Nat × List Nat
  | [], o => ([], o)
  | c :: W, o => if c = 38 then stl b W (o ++ [2002]) else if c = 124 then (if b = 38 then (c :: W, o) else stl b W (o ++ [2003])) else (c :: W, o)
def brk : List Nat → Nat
  | [] => 0
  | c :: W => (if c = 33 ∨ c = 40 then 1 else 0) + brk W
def mrun (T : Nat → Nat) (L : Nat) : Nat → Bool → Nat → List Nat → List Nat → Option (Bool × Nat × List Nat)
  | 0, _, _, _, _ => none
  | n + 1, true, a, W, o => if nx T L a = 33 ∨ nx T L a = 40 then (if brk W = 4 then some (false, a, o) else mrun T L n true (a + 1) (nx T L a :: W) o) else (match pTest T L a with
    | (b, none) => some (false, b, o)
    | (b, some t) => mrun T L n false b (strp W) (o ++ t ++ nots W))
  | n + 1, false, a, W, o => if nx T L a = 38 ∨ nx T L a = 124 then mrun T L n true (a + 1) (nx T L a :: (stl (nx T L a) W o).1) (stl (nx T L a) W o).2 else (match (stl 124 W o).1 with
    | [] => some (true, a, (stl 124 W o).2)
    | _ :: V => if nx T L a = 41 then mrun T L n false (a + 1) (strp V) ((stl 124 W o).2 ++ nots V) else some (false, a, (stl 124 W o).2))
theorem run38 {T : Nat → Nat} {L n a : Nat} {W o : List Nat} : mrun T L n false a (38 :: W) o = mrun T L n false a W (o ++ [2002]) := by
  cases n with
  | zero => rfl
  | succ n =>
    have e : ∀ b, stl b (38 :: W) o = stl b W (o ++ [2002]) := fun b => by rw [stl, if_pos rfl]
    rw [mrun, mrun, e, e]
theorem run124 {T : Nat → Nat} {L n a : Nat} {W o : List Nat} (h : nx T L a ≠ 38) : mrun T L n false a (124 :: W) o = mrun T L n false a W (o ++ [2003]) := by
  cases n with
  | zero => rfl
  | succ n =>
    have e : ∀ b, b ≠ 38 → stl b (124 :: W) o = stl b W (o ++ [2003]) := fun b hb => by rw [stl, if_neg (by decide), if_pos rfl, if_neg hb]
    rw [mrun, mrun, e _ h, e 124 (by decide)]
/-- what is said of a reader S at brackets left r, from a pile W -/
def SpS (T : Nat → Nat) (L : Nat) (S : Nat → pR) (ok : List Nat → Prop) (ns : Nat → Prop) : Prop := ∀ a W o, ok W → ∀ b ot, S a = (b, ot) → (ot = none → a ≤ b ∧ ∃ k, k ≤ b - a + 1 ∧ ∀ n, ∃ o', mrun T L (n + k) true a W o = some (false, b, o')) ∧ ∀ t, ot = some t → a < b ∧ ns (nx T L b) ∧ ∃ k, k ≤ b - a ∧ ∀ n, mrun T L (n + k) true a W o = mrun T L n false b (strp W) (o ++ t ++ nots W)
def okB (r : Nat) (W : List Nat) : Prop := brk W + r = 4 ∧ W.head? ≠ some 33
theorem strp_ok {W : List Nat} (h : W.head? ≠ some 33) : strp W = W ∧ nots W = [] := by
  match W, h with
  | [], _ => exact ⟨rfl, rfl⟩
  | c :: W, h =>
    have hc : ¬ c = 33 := fun e => h (by rw [e]; rfl)
    exact ⟨by rw [strp, if_neg hc], by rw [nots, if_neg hc]⟩
/-- a row of readers with a sign between: '&' on a pile whose top isn't '&' .. -/
theorem pBL_sp {T : Nat → Nat} {L ch cd : Nat} {S : Nat → pR} {ok2 : List Nat → Prop} {ns : Nat → Prop} {W o : List Nat} (hS : SpS T L S ok2 ns) (hok : ok2 (ch :: W)) (hch : ch = 38 ∨ ch = 124) (htop : stl ch W = fun o => (W, o)) (hlag : ∀ n b u, ns (nx T L b) → mrun T L n false b (ch :: W) u = mrun T L n false b W (u ++ [cd])) (h999 : ch ≠ 999) : ∀ j a u, L ≤ a + j → ns (nx T L a) → ∀ b ot, pBL T L ch cd S j a u = (b, ot) → (ot = none → a ≤ b ∧ ∃ k, k ≤ b - a + 1 ∧ ∀ n, ∃ o', mrun T L (n + k) false a W (o ++ u) = some (false, b, o')) ∧ ∀ t, ot = some t → a ≤ b ∧ ns (nx T L b) ∧ nx T L b ≠ ch ∧ ∃ k, k ≤ b - a ∧ ∀ n, mrun T L (n + k) false a W (o ++ u) = mrun T L n false b W (o ++ t) := by
  have hh : (ch :: W).head? ≠ some 33 := by rcases hch with rfl | rfl <;> simp
  obtain ⟨e1, e2⟩ := strp_ok hh
  intro j
  induction j with
  | zero =>
    intro a u hL hn b ot he
    have he : (a, some u) = (b, ot) := he
    obtain ⟨rfl, rfl⟩ := Prod.mk.inj he
    refine ⟨(fun h => nomatch h), fun t ht => ?_⟩
    cases ht
    refine ⟨Nat.le_refl _, hn, ?_, 0, by omega, fun n => rfl⟩
    unfold nx
    rw [if_neg (by omega)]
    exact fun h => h999 h.symm
  | succ j ih =>
    intro a u hL hn b ot he
    rw [pBL] at he
    by_cases hc : nx T L a = ch
    · rw [if_pos hc] at he
      have step : ∀ n, mrun T L (n + 1) false a W (o ++ u) = mrun T L n true (a + 1) (ch :: W) (o ++ u) := fun n => by
        rw [mrun, hc, if_pos hch, htop]
      cases hs : S (a + 1) with
      | mk b1 o1 =>
        rw [hs] at he
        obtain ⟨f1, f2⟩ := hS (a + 1) (ch :: W) (o ++ u) hok b1 o1 hs
        cases o1 with
        | none =>
          have he : (b1, none) = (b, ot) := he
          obtain ⟨rfl, rfl⟩ := Prod.mk.inj he
          obtain ⟨g1, k, g2, g3⟩ := f1 rfl
          refine ⟨fun _ => ⟨by omega, k + 1, by omega, fun n => ?_⟩, fun t ht => by cases ht⟩
          rw [← Nat.add_assoc, step]
          exact g3 n
        | some t1 =>
          have he : pBL T L ch cd S j b1 (u ++ t1 ++ [cd]) = (b, ot) := he
          obtain ⟨g1, g2, k, g3, g4⟩ := f2 t1 rfl
          obtain ⟨i1, i2⟩ := ih b1 (u ++ t1 ++ [cd]) (by omega) g2 b ot he
          have mid : ∀ n, mrun T L (n + (k + 1)) false a W (o ++ u) = mrun T L n false b1 W (o ++ (u ++ t1 ++ [cd])) := fun n => by
            rw [← Nat.add_assoc, step, g4, e1, e2, hlag _ _ _ g2]
            simp only [List.append_assoc, List.append_nil]
          refine ⟨fun h => ?_, fun t ht => ?_⟩
          · obtain ⟨x1, k2, x2, x3⟩ := i1 h
            refine ⟨by omega, k2 + (k + 1), by omega, fun n => ?_⟩
            rw [← Nat.add_assoc, mid]
            exact x3 n
          · obtain ⟨x1, x2, x3, k2, x4, x5⟩ := i2 t ht
            refine ⟨by omega, x2, x3, k2 + (k + 1), by omega, fun n => ?_⟩
            rw [← Nat.add_assoc, mid]
            exact x5 n
    · rw [if_neg hc] at he
      have he : (a, some u) = (b, ot) := he
      obtain ⟨rfl, rfl⟩ := Prod.mk.inj he
      refine ⟨(fun h => nomatch h), fun t ht => ?_⟩
      cases ht
      exact ⟨Nat.le_refl _, hn, hc, 0, by omega, fun n => rfl⟩
theorem nx_le {T : Nat → Nat} {L a : Nat} (h : nx T L a ≠ 999) : a < L := by
  unfold nx at h
  by_cases hc : a < L
  · exact hc
  · rw [if_neg hc] at h; exact absurd rfl h
/-- both, either -/
theorem pBo_sp {T : Nat → Nat} {L ch cd : Nat} {S : Nat → pR} {ok ok2 : List Nat → Prop} {ns : Nat → Prop} (hL : L ≤ 100) (hS : SpS T L S ok2 ns) (hok : ∀ W, ok W → ok2 W ∧ ok2 (ch :: W) ∧ W.head? ≠ some 33 ∧ (stl ch W = fun o => (W, o))) (hch : ch = 38 ∨ ch = 124) (hlag : ∀ W n b u, ns (nx T L b) → mrun T L n false b (ch :: W) u = mrun T L n false b W (u ++ [cd])) (h999 : ch ≠ 999) : SpS T L (pBo T L ch cd S) ok (fun c => ns c ∧ c ≠ ch) := by
  intro a W o hW b ot he
  obtain ⟨k1, k2, k3, k4⟩ := hok W hW
  obtain ⟨e1, e2⟩ := strp_ok k3
  rw [pBo] at he
  cases hs : S a with
  | mk b1 o1 =>
    rw [hs] at he
    obtain ⟨f1, f2⟩ := hS a W o k1 b1 o1 hs
    cases o1 with
    | none =>
      have he : (b1, none) = (b, ot) := he
      obtain ⟨rfl, rfl⟩ := Prod.mk.inj he
      exact ⟨fun _ => f1 rfl, fun t ht => by cases ht⟩
    | some t1 =>
      have he : pBL T L ch cd S 100 b1 t1 = (b, ot) := he
      obtain ⟨g1, g2, k, g3, g4⟩ := f2 t1 rfl
      obtain ⟨i1, i2⟩ := pBL_sp (o := o) hS k2 hch k4 (hlag W) h999 100 b1 t1 (by omega) g2 b ot he
      have mid : ∀ n, mrun T L (n + k) true a W o = mrun T L n false b1 W (o ++ t1) := fun n => by
        rw [g4, e1, e2, List.append_nil]
      refine ⟨fun h => ?_, fun t ht => ?_⟩
      · obtain ⟨x1, k2, x2, x3⟩ := i1 h
        refine ⟨by omega, k2 + k, by omega, fun n => ?_⟩
        rw [← Nat.add_assoc, mid]
        exact x3 n
      · obtain ⟨x1, x2, x3, k2, x4, x5⟩ := i2 t ht
        refine ⟨by omega, ⟨x2, x3⟩, k2 + k, by omega, fun n => ?_⟩
        rw [← Nat.add_assoc, mid, e1, e2, List.append_nil]
        exact x5 n
def okS (r : Nat) (W : List Nat) : Prop := brk W + r = 4
def okE (r : Nat) (W : List Nat) : Prop := brk W + r = 4 ∧ (W = [] ∨ W.head? = some 40)
def okO (r : Nat) (W : List Nat) : Prop := brk W + r = 4 ∧ (W = [] ∨ W.head? = some 40 ∨ W.head? = some 124)
theorem stl_E {r : Nat} {W : List Nat} (h : okE r W) : stl 124 W = fun o => (W, o) := by
  funext o
  match W, h with
  | [], _ => rfl
  | c :: V, ⟨_, h⟩ =>
    have hc : c = 40 := by rcases h with h | h; cases h; exact Option.some.inj h
    rw [stl, hc, if_neg (by decide), if_neg (by decide)]
theorem stl_O {r : Nat} {W : List Nat} (h : okO r W) : stl 38 W = fun o => (W, o) := by
  funext o
  match W, h with
  | [], _ => rfl
  | c :: V, ⟨_, h⟩ =>
    have hc : c = 40 ∨ c = 124 := by
      rcases h with h | h | h
      · cases h
      · exact Or.inl (Option.some.inj h)
      · exact Or.inr (Option.some.inj h)
    rcases hc with hc | hc
    · rw [stl, hc, if_neg (by decide), if_neg (by decide)]
    · rw [stl, hc, if_neg (by decide), if_pos rfl, if_pos rfl]
theorem pEi_sp {T : Nat → Nat} {L r : Nat} {S : Nat → pR} (hL : L ≤ 100) (hS : SpS T L S (okS r) (fun _ => True)) : SpS T L (pEi T L S) (okE r) (fun c => ((True ∧ c ≠ 38) ∧ c ≠ 124)) := by
  have hb : SpS T L (pBo T L 38 2002 S) (okO r) (fun c => True ∧ c ≠ 38) := pBo_sp hL hS (fun W hW => ⟨hW.1, by unfold okS; rw [brk, if_neg (by decide)]; have := hW.1; omega, by rcases hW.2 with rfl | h | h <;> first | (rw [h]; decide) | decide, stl_O hW⟩) (Or.inl rfl) (fun W n b u _ => run38) (by decide)
  exact pBo_sp hL hb (fun W hW => ⟨⟨hW.1, by rcases hW.2 with h | h; exact Or.inl h; exact Or.inr (Or.inl h)⟩, ⟨by rw [brk, if_neg (by decide)]; have := hW.1; omega, Or.inr (Or.inr rfl)⟩, by rcases hW.2 with rfl | h <;> first | (rw [h]; decide) | decide, stl_E hW⟩) (Or.inr rfl) (fun W n b u h => run124 h.2) (by decide)
theorem pNum_lt {T : Nat → Nat} {L a b : Nat} {on : Option Nat} (h : pNum T L a = (b, on)) : (on = none → b = a) ∧ ∀ n, on = some n → a < b ∧ b ≤ a + 2 ∧ n < 100 ∧ b ≤ L := by
  unfold pNum at h
  by_cases h1 : dg (nx T L a)
  · have d1 : 48 ≤ nx T L a ∧ nx T L a ≤ 57 := of_decide_eq_true h1
    have l1 := nx_le (T := T) (L := L) (a := a) (by omega)
    rw [if_pos h1] at h
    by_cases h2 : dg (nx T L (a + 1))
    · have d2 : 48 ≤ nx T L (a + 1) ∧ nx T L (a + 1) ≤ 57 := of_decide_eq_true h2
      have l2 := nx_le (T := T) (L := L) (a := a + 1) (by omega)
      rw [if_pos h2] at h
      obtain ⟨rfl, rfl⟩ := Prod.mk.inj h
      refine ⟨(fun h => nomatch h), fun n hn => ?_⟩
      cases hn
      omega
    · rw [if_neg h2] at h
      obtain ⟨rfl, rfl⟩ := Prod.mk.inj h
      refine ⟨(fun h => nomatch h), fun n hn => ?_⟩
      cases hn
      omega
  · rw [if_neg h1] at h
    obtain ⟨rfl, rfl⟩ := Prod.mk.inj h
    exact ⟨fun _ => rfl, fun n hn => by cases hn⟩
theorem lt6_le (c : Nat) : lt6 c ≤ 6 := by
  unfold lt6
  repeat' split
  all_goals omega
theorem pTest_lt {T : Nat → Nat} {L a b : Nat} {ot : Option (List Nat)} (h : pTest T L a = (b, ot)) : (ot = none → a ≤ b) ∧ ∀ t, ot = some t → a < b ∧ b ≤ L ∧ ∃ c, t = [c] ∧ c < 1800 := by
  unfold pTest at h
  have h6 := lt6_le (nx T L a)
  by_cases h1 : lt6 (nx T L a) = 6
  · rw [if_pos h1] at h
    obtain ⟨rfl, rfl⟩ := Prod.mk.inj h
    exact ⟨fun _ => Nat.le_refl _, fun t ht => by cases ht⟩
  · rw [if_neg h1] at h
    by_cases h2 : 60 ≤ nx T L (a + 1) ∧ nx T L (a + 1) ≤ 62
    · rw [if_pos h2] at h
      cases hn : pNum T L (a + 2) with
      | mk b1 on =>
        rw [hn] at h
        obtain ⟨n1, n2⟩ := pNum_lt hn
        cases on with
        | none =>
          have h : (b1, none) = (b, ot) := h
          obtain ⟨rfl, rfl⟩ := Prod.mk.inj h
          exact ⟨fun _ => by have := n1 rfl; omega, fun t ht => by cases ht⟩
        | some n =>
          have h : (b1, some [300 * lt6 (nx T L a) + 100 * (nx T L (a + 1) - 60) + n]) = (b, ot) := h
          obtain ⟨rfl, rfl⟩ := Prod.mk.inj h
          obtain ⟨x1, x2, x3, x4⟩ := n2 n rfl
          refine ⟨(fun h => nomatch h), fun t ht => ?_⟩
          cases ht
          exact ⟨by omega, x4, _, rfl, by omega⟩
    · rw [if_neg h2] at h
      obtain ⟨rfl, rfl⟩ := Prod.mk.inj h
      exact ⟨fun _ => by omega, fun t ht => by cases ht⟩
theorem lt6_no {c : Nat} (h : c = 33 ∨ c = 40) : lt6 c = 6 := by rcases h with rfl | rfl <;> decide
/-- a test, where neither '!' nor '(' may come, or none does -/
theorem pTest_sp {T : Nat → Nat} {L a b : Nat} {W o : List Nat} {ot : Option (List Nat)} (hno : brk W = 4 ∨ ¬ (nx T L a = 33 ∨ nx T L a = 40)) (h : pTest T L a = (b, ot)) : (ot = none → a ≤ b ∧ ∃ k, k ≤ b - a + 1 ∧ ∀ n, ∃ o', mrun T L (n + k) true a W o = some (false, b, o')) ∧ ∀ t, ot = some t → a < b ∧ True ∧ ∃ k, k ≤ b - a ∧ ∀ n, mrun T L (n + k) true a W o = mrun T L n false b (strp W) (o ++ t ++ nots W) := by
  obtain ⟨p1, p2⟩ := pTest_lt h
  by_cases hc : nx T L a = 33 ∨ nx T L a = 40
  · have h4 : brk W = 4 := hno.resolve_right (fun h => h hc)
    have : pTest T L a = (a, none) := by unfold pTest; rw [if_pos (lt6_no hc)]
    rw [this] at h
    obtain ⟨rfl, rfl⟩ := Prod.mk.inj h
    refine ⟨fun _ => ⟨Nat.le_refl _, 1, by omega, fun n => ⟨o, ?_⟩⟩, fun t ht => by cases ht⟩
    rw [mrun, if_pos hc, if_pos h4]
  · cases ot with
    | none => exact ⟨fun _ => ⟨p1 rfl, 1, by omega, fun n => ⟨o, by rw [mrun, if_neg hc, h]⟩⟩, fun t ht => by cases ht⟩
    | some t0 =>
      refine ⟨(fun h => nomatch h), fun t ht => ?_⟩
      cases ht
      obtain ⟨q1, -⟩ := p2 t0 rfl
      exact ⟨q1, trivial, 1, by omega, fun n => by rw [mrun, if_neg hc, h]⟩
theorem pSi_sp {T : Nat → Nat} {L : Nat} (hL : L ≤ 100) : ∀ r, SpS T L (pSi T L r) (okS r) (fun _ => True) := by
  intro r
  induction r with
  | zero => intro a W o hW b ot he; exact pTest_sp (Or.inl hW) he
  | succ r ih =>
    intro a W o hW b ot he
    have hW : brk W + (r + 1) = 4 := hW
    rw [pSi] at he
    by_cases c1 : nx T L a = 33
    · rw [if_pos c1] at he
      have step : ∀ n, mrun T L (n + 1) true a W o = mrun T L n true (a + 1) (33 :: W) o := fun n => by
        rw [mrun, if_pos (Or.inl c1), if_neg (by omega), c1]
      cases hs : pSi T L r (a + 1) with
      | mk b1 o1 =>
        rw [hs] at he
        obtain ⟨f1, f2⟩ := ih (a + 1) (33 :: W) o (by unfold okS; rw [brk, if_pos (Or.inl rfl)]; omega) b1 o1 hs
        cases o1 with
        | none =>
          have he : (b1, none) = (b, ot) := he
          obtain ⟨rfl, rfl⟩ := Prod.mk.inj he
          obtain ⟨g1, k, g2, g3⟩ := f1 rfl
          refine ⟨fun _ => ⟨by omega, k + 1, by omega, fun n => ?_⟩, fun t ht => by cases ht⟩
          rw [← Nat.add_assoc, step]
          exact g3 n
        | some t1 =>
          have he : (b1, some (t1 ++ [2001])) = (b, ot) := he
          obtain ⟨rfl, rfl⟩ := Prod.mk.inj he
          obtain ⟨g1, -, k, g3, g4⟩ := f2 t1 rfl
          refine ⟨(fun h => nomatch h), fun t ht => ?_⟩
          cases ht
          refine ⟨by omega, trivial, k + 1, by omega, fun n => ?_⟩
          rw [← Nat.add_assoc, step, g4, strp, if_pos rfl, nots, if_pos rfl]
          simp only [List.append_assoc, List.cons_append, List.nil_append]
    · rw [if_neg c1] at he
      by_cases c2 : nx T L a = 40
      · rw [if_pos c2] at he
        have step : ∀ n, mrun T L (n + 1) true a W o = mrun T L n true (a + 1) (40 :: W) o := fun n => by
          rw [mrun, if_pos (Or.inr c2), if_neg (by omega), c2]
        have okW : okE r (40 :: W) := ⟨by rw [brk, if_pos (Or.inr rfl)]; omega, Or.inr rfl⟩
        have s40 : strp (40 :: W) = 40 :: W ∧ nots (40 :: W) = [] := strp_ok (by simp)
        cases hs : pEi T L (pSi T L r) (a + 1) with
        | mk b1 o1 =>
          rw [hs] at he
          obtain ⟨f1, f2⟩ := pEi_sp hL ih (a + 1) (40 :: W) o okW b1 o1 hs
          cases o1 with
          | none =>
            have he : (b1, none) = (b, ot) := he
            obtain ⟨rfl, rfl⟩ := Prod.mk.inj he
            obtain ⟨g1, k, g2, g3⟩ := f1 rfl
            refine ⟨fun _ => ⟨by omega, k + 1, by omega, fun n => ?_⟩, fun t ht => by cases ht⟩
            rw [← Nat.add_assoc, step]
            exact g3 n
          | some t1 =>
            have he : (if nx T L b1 = 41 then (b1 + 1, some t1) else (b1, none)) = (b, ot) := he
            obtain ⟨g1, ⟨⟨-, n38⟩, n124⟩, k, g3, g4⟩ := f2 t1 rfl
            have st : stl 124 (40 :: W) (o ++ t1) = (40 :: W, o ++ t1) := by rw [stl_E okW]
            have mid : ∀ n, mrun T L (n + (k + 1)) true a W o = mrun T L n false b1 (40 :: W) (o ++ t1) := fun n => by
              rw [← Nat.add_assoc, step, g4, s40.1, s40.2, List.append_nil]
            by_cases c3 : nx T L b1 = 41
            · rw [if_pos c3] at he
              obtain ⟨rfl, rfl⟩ := Prod.mk.inj he
              refine ⟨(fun h => nomatch h), fun t ht => ?_⟩
              cases ht
              refine ⟨by omega, trivial, k + 1 + 1, by omega, fun n => ?_⟩
              rw [show n + (k + 1 + 1) = (n + 1) + (k + 1) by omega, mid, mrun, if_neg (by omega), st]
              show (if nx T L b1 = 41 then mrun T L n false (b1 + 1) (strp W) (o ++ t1 ++ nots W) else _) = _
              rw [if_pos c3]
            · rw [if_neg c3] at he
              obtain ⟨rfl, rfl⟩ := Prod.mk.inj he
              refine ⟨fun _ => ⟨by omega, (k + 1) + 1, by omega, fun n => ⟨o ++ t1, ?_⟩⟩, fun t ht => by cases ht⟩
              rw [show n + (k + 1 + 1) = (n + 1) + (k + 1) by omega, mid, mrun, if_neg (by omega), st]
              show (if nx T L b1 = 41 then _ else some (false, b1, o ++ t1)) = _
              rw [if_neg c3]
      · rw [if_neg c2] at he
        exact pTest_sp (Or.inr (by rintro (h | h); exact c1 h; exact c2 h)) he
/-- a whole test of a clause, from an empty pile -/
theorem pE_run {T : Nat → Nat} {L a b : Nat} {ot : Option (List Nat)} (hL : L ≤ 100) (o : List Nat) (he : pEi T L (pSi T L 4) a = (b, ot)) : (ot = none → a ≤ b ∧ ∃ k, k ≤ b - a + 1 ∧ ∀ n, ∃ o', mrun T L (n + k) true a [] o = some (false, b, o')) ∧ ∀ t, ot = some t → a < b ∧ ∃ k, k ≤ b - a + 1 ∧ ∀ n, mrun T L (n + k) true a [] o = some (true, b, o ++ t) := by
  obtain ⟨f1, f2⟩ := pEi_sp hL (pSi_sp hL 4) a [] o ⟨rfl, Or.inl rfl⟩ b ot he
  refine ⟨f1, fun t ht => ?_⟩
  obtain ⟨g1, ⟨⟨-, n38⟩, n124⟩, k, g3, g4⟩ := f2 t ht
  refine ⟨g1, k + 1, by omega, fun n => ?_⟩
  rw [show n + (k + 1) = (n + 1) + k by omega, g4]
  show mrun T L (n + 1) false b [] (o ++ t ++ []) = _
  rw [List.append_nil, mrun, if_neg (by omega)]
  rfl
