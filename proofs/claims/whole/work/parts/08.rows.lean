theorem x_iconst {ω : XO} {rm : Room} {nL : Nat} {κ : XK} {cc : ByteArray} {own : String} (X : XC ω rm nL κ cc own) {L : List Nat} {q : Nat → Nat} {h : hp} {cells slots pc : Nat} {lv : List (Nat × Value)} {rest : List Value} {n : Int} {v : Int32} (hd : decode cc pc = .ok (.iconst n, 1)) (hv : Int32.ofInt n = v) (k : XG ω rm nL κ L q h cells slots (pc + 1) lv (.int v :: rest)) : XG ω rm nL κ L q h cells slots pc lv (rest) := by
  obtain ⟨l, D, E, b, ζ⟩ := ω
  obtain ⟨p, e, s, m, args, below, meth, c, Q, A⟩ := κ
  intro H locs la hP hX hA hS hl
  exact lv_iconst X.1 X.2.1 hd hv (k H locs la hP hX hA hS hl)
theorem x_bipush {ω : XO} {rm : Room} {nL : Nat} {κ : XK} {cc : ByteArray} {own : String} (X : XC ω rm nL κ cc own) {L : List Nat} {q : Nat → Nat} {h : hp} {cells slots pc : Nat} {lv : List (Nat × Value)} {rest : List Value} {n : Int} {v : Int32} (hd : decode cc pc = .ok (.bipush n, 2)) (hv : (Int8.ofInt n).toInt32 = v) (k : XG ω rm nL κ L q h cells slots (pc + 2) lv (.int v :: rest)) : XG ω rm nL κ L q h cells slots pc lv (rest) := by
  obtain ⟨l, D, E, b, ζ⟩ := ω
  obtain ⟨p, e, s, m, args, below, meth, c, Q, A⟩ := κ
  intro H locs la hP hX hA hS hl
  exact lv_bipush X.1 X.2.1 hd hv (k H locs la hP hX hA hS hl)
theorem x_sipush {ω : XO} {rm : Room} {nL : Nat} {κ : XK} {cc : ByteArray} {own : String} (X : XC ω rm nL κ cc own) {L : List Nat} {q : Nat → Nat} {h : hp} {cells slots pc : Nat} {lv : List (Nat × Value)} {rest : List Value} {n : Int} {v : Int32} (hd : decode cc pc = .ok (.sipush n, 3)) (hv : (Int16.ofInt n).toInt32 = v) (k : XG ω rm nL κ L q h cells slots (pc + 3) lv (.int v :: rest)) : XG ω rm nL κ L q h cells slots pc lv (rest) := by
  obtain ⟨l, D, E, b, ζ⟩ := ω
  obtain ⟨p, e, s, m, args, below, meth, c, Q, A⟩ := κ
  intro H locs la hP hX hA hS hl
  exact lv_sipush X.1 X.2.1 hd hv (k H locs la hP hX hA hS hl)
theorem x_lconst {ω : XO} {rm : Room} {nL : Nat} {κ : XK} {cc : ByteArray} {own : String} (X : XC ω rm nL κ cc own) {L : List Nat} {q : Nat → Nat} {h : hp} {cells slots pc : Nat} {lv : List (Nat × Value)} {rest : List Value} {n : Fin 2} {v : Int64} (hd : decode cc pc = .ok (.lconst n, 1)) (hv : Int64.ofNat (n : Nat) = v) (k : XG ω rm nL κ L q h cells slots (pc + 1) lv (.long v :: rest)) : XG ω rm nL κ L q h cells slots pc lv (rest) := by
  obtain ⟨l, D, E, b, ζ⟩ := ω
  obtain ⟨p, e, s, m, args, below, meth, c, Q, A⟩ := κ
  intro H locs la hP hX hA hS hl
  exact lv_lconst X.1 X.2.1 hd hv (k H locs la hP hX hA hS hl)
theorem x_iadd {ω : XO} {rm : Room} {nL : Nat} {κ : XK} {cc : ByteArray} {own : String} (X : XC ω rm nL κ cc own) {L : List Nat} {q : Nat → Nat} {h : hp} {cells slots pc : Nat} {lv : List (Nat × Value)} {rest : List Value} {x y : Int32} (hd : decode cc pc = .ok (.iadd, 1)) (k : XG ω rm nL κ L q h cells slots (pc + 1) lv (.int (x + y) :: rest)) : XG ω rm nL κ L q h cells slots pc lv (.int y :: .int x :: rest) := by
  obtain ⟨l, D, E, b, ζ⟩ := ω
  obtain ⟨p, e, s, m, args, below, meth, c, Q, A⟩ := κ
  intro H locs la hP hX hA hS hl
  exact lv_iadd X.1 X.2.1 hd (k H locs la hP hX hA hS hl)
theorem x_isub {ω : XO} {rm : Room} {nL : Nat} {κ : XK} {cc : ByteArray} {own : String} (X : XC ω rm nL κ cc own) {L : List Nat} {q : Nat → Nat} {h : hp} {cells slots pc : Nat} {lv : List (Nat × Value)} {rest : List Value} {x y : Int32} (hd : decode cc pc = .ok (.isub, 1)) (k : XG ω rm nL κ L q h cells slots (pc + 1) lv (.int (x - y) :: rest)) : XG ω rm nL κ L q h cells slots pc lv (.int y :: .int x :: rest) := by
  obtain ⟨l, D, E, b, ζ⟩ := ω
  obtain ⟨p, e, s, m, args, below, meth, c, Q, A⟩ := κ
  intro H locs la hP hX hA hS hl
  exact lv_isub X.1 X.2.1 hd (k H locs la hP hX hA hS hl)
theorem x_imul {ω : XO} {rm : Room} {nL : Nat} {κ : XK} {cc : ByteArray} {own : String} (X : XC ω rm nL κ cc own) {L : List Nat} {q : Nat → Nat} {h : hp} {cells slots pc : Nat} {lv : List (Nat × Value)} {rest : List Value} {x y : Int32} (hd : decode cc pc = .ok (.imul, 1)) (k : XG ω rm nL κ L q h cells slots (pc + 1) lv (.int (x * y) :: rest)) : XG ω rm nL κ L q h cells slots pc lv (.int y :: .int x :: rest) := by
  obtain ⟨l, D, E, b, ζ⟩ := ω
  obtain ⟨p, e, s, m, args, below, meth, c, Q, A⟩ := κ
  intro H locs la hP hX hA hS hl
  exact lv_imul X.1 X.2.1 hd (k H locs la hP hX hA hS hl)
theorem x_iand {ω : XO} {rm : Room} {nL : Nat} {κ : XK} {cc : ByteArray} {own : String} (X : XC ω rm nL κ cc own) {L : List Nat} {q : Nat → Nat} {h : hp} {cells slots pc : Nat} {lv : List (Nat × Value)} {rest : List Value} {x y : Int32} (hd : decode cc pc = .ok (.iand, 1)) (k : XG ω rm nL κ L q h cells slots (pc + 1) lv (.int (x &&& y) :: rest)) : XG ω rm nL κ L q h cells slots pc lv (.int y :: .int x :: rest) := by
  obtain ⟨l, D, E, b, ζ⟩ := ω
  obtain ⟨p, e, s, m, args, below, meth, c, Q, A⟩ := κ
  intro H locs la hP hX hA hS hl
  exact lv_iand X.1 X.2.1 hd (k H locs la hP hX hA hS hl)
theorem x_ior {ω : XO} {rm : Room} {nL : Nat} {κ : XK} {cc : ByteArray} {own : String} (X : XC ω rm nL κ cc own) {L : List Nat} {q : Nat → Nat} {h : hp} {cells slots pc : Nat} {lv : List (Nat × Value)} {rest : List Value} {x y : Int32} (hd : decode cc pc = .ok (.ior, 1)) (k : XG ω rm nL κ L q h cells slots (pc + 1) lv (.int (x ||| y) :: rest)) : XG ω rm nL κ L q h cells slots pc lv (.int y :: .int x :: rest) := by
  obtain ⟨l, D, E, b, ζ⟩ := ω
  obtain ⟨p, e, s, m, args, below, meth, c, Q, A⟩ := κ
  intro H locs la hP hX hA hS hl
  exact lv_ior X.1 X.2.1 hd (k H locs la hP hX hA hS hl)
theorem x_ixor {ω : XO} {rm : Room} {nL : Nat} {κ : XK} {cc : ByteArray} {own : String} (X : XC ω rm nL κ cc own) {L : List Nat} {q : Nat → Nat} {h : hp} {cells slots pc : Nat} {lv : List (Nat × Value)} {rest : List Value} {x y : Int32} (hd : decode cc pc = .ok (.ixor, 1)) (k : XG ω rm nL κ L q h cells slots (pc + 1) lv (.int (x ^^^ y) :: rest)) : XG ω rm nL κ L q h cells slots pc lv (.int y :: .int x :: rest) := by
  obtain ⟨l, D, E, b, ζ⟩ := ω
  obtain ⟨p, e, s, m, args, below, meth, c, Q, A⟩ := κ
  intro H locs la hP hX hA hS hl
  exact lv_ixor X.1 X.2.1 hd (k H locs la hP hX hA hS hl)
theorem x_ishl {ω : XO} {rm : Room} {nL : Nat} {κ : XK} {cc : ByteArray} {own : String} (X : XC ω rm nL κ cc own) {L : List Nat} {q : Nat → Nat} {h : hp} {cells slots pc : Nat} {lv : List (Nat × Value)} {rest : List Value} {x y : Int32} (hd : decode cc pc = .ok (.ishl, 1)) (k : XG ω rm nL κ L q h cells slots (pc + 1) lv (.int (x <<< (y &&& 31)) :: rest)) : XG ω rm nL κ L q h cells slots pc lv (.int y :: .int x :: rest) := by
  obtain ⟨l, D, E, b, ζ⟩ := ω
  obtain ⟨p, e, s, m, args, below, meth, c, Q, A⟩ := κ
  intro H locs la hP hX hA hS hl
  exact lv_ishl X.1 X.2.1 hd (k H locs la hP hX hA hS hl)
theorem x_ishr {ω : XO} {rm : Room} {nL : Nat} {κ : XK} {cc : ByteArray} {own : String} (X : XC ω rm nL κ cc own) {L : List Nat} {q : Nat → Nat} {h : hp} {cells slots pc : Nat} {lv : List (Nat × Value)} {rest : List Value} {x y : Int32} (hd : decode cc pc = .ok (.ishr, 1)) (k : XG ω rm nL κ L q h cells slots (pc + 1) lv (.int (x >>> (y &&& 31)) :: rest)) : XG ω rm nL κ L q h cells slots pc lv (.int y :: .int x :: rest) := by
  obtain ⟨l, D, E, b, ζ⟩ := ω
  obtain ⟨p, e, s, m, args, below, meth, c, Q, A⟩ := κ
  intro H locs la hP hX hA hS hl
  exact lv_ishr X.1 X.2.1 hd (k H locs la hP hX hA hS hl)
theorem x_idiv {ω : XO} {rm : Room} {nL : Nat} {κ : XK} {cc : ByteArray} {own : String} (X : XC ω rm nL κ cc own) {L : List Nat} {q : Nat → Nat} {h : hp} {cells slots pc : Nat} {lv : List (Nat × Value)} {rest : List Value} {x y : Int32} (hd : decode cc pc = .ok (.idiv, 1)) (hne : ¬ y = 0) (k : XG ω rm nL κ L q h cells slots (pc + 1) lv (.int (x / y) :: rest)) : XG ω rm nL κ L q h cells slots pc lv (.int y :: .int x :: rest) := by
  obtain ⟨l, D, E, b, ζ⟩ := ω
  obtain ⟨p, e, s, m, args, below, meth, c, Q, A⟩ := κ
  intro H locs la hP hX hA hS hl
  exact lv_idiv X.1 X.2.1 hd hne (k H locs la hP hX hA hS hl)
theorem x_irem {ω : XO} {rm : Room} {nL : Nat} {κ : XK} {cc : ByteArray} {own : String} (X : XC ω rm nL κ cc own) {L : List Nat} {q : Nat → Nat} {h : hp} {cells slots pc : Nat} {lv : List (Nat × Value)} {rest : List Value} {x y : Int32} (hd : decode cc pc = .ok (.irem, 1)) (hne : ¬ y = 0) (k : XG ω rm nL κ L q h cells slots (pc + 1) lv (.int (x - x / y * y) :: rest)) : XG ω rm nL κ L q h cells slots pc lv (.int y :: .int x :: rest) := by
  obtain ⟨l, D, E, b, ζ⟩ := ω
  obtain ⟨p, e, s, m, args, below, meth, c, Q, A⟩ := κ
  intro H locs la hP hX hA hS hl
  exact lv_irem X.1 X.2.1 hd hne (k H locs la hP hX hA hS hl)
theorem x_ineg {ω : XO} {rm : Room} {nL : Nat} {κ : XK} {cc : ByteArray} {own : String} (X : XC ω rm nL κ cc own) {L : List Nat} {q : Nat → Nat} {h : hp} {cells slots pc : Nat} {lv : List (Nat × Value)} {rest : List Value} {x : Int32} (hd : decode cc pc = .ok (.ineg, 1)) (k : XG ω rm nL κ L q h cells slots (pc + 1) lv (.int (-x) :: rest)) : XG ω rm nL κ L q h cells slots pc lv (.int x :: rest) := by
  obtain ⟨l, D, E, b, ζ⟩ := ω
  obtain ⟨p, e, s, m, args, below, meth, c, Q, A⟩ := κ
  intro H locs la hP hX hA hS hl
  exact lv_ineg X.1 X.2.1 hd (k H locs la hP hX hA hS hl)
theorem x_ladd {ω : XO} {rm : Room} {nL : Nat} {κ : XK} {cc : ByteArray} {own : String} (X : XC ω rm nL κ cc own) {L : List Nat} {q : Nat → Nat} {h : hp} {cells slots pc : Nat} {lv : List (Nat × Value)} {rest : List Value} {x y : Int64} (hd : decode cc pc = .ok (.ladd, 1)) (k : XG ω rm nL κ L q h cells slots (pc + 1) lv (.long (x + y) :: rest)) : XG ω rm nL κ L q h cells slots pc lv (.long y :: .long x :: rest) := by
  obtain ⟨l, D, E, b, ζ⟩ := ω
  obtain ⟨p, e, s, m, args, below, meth, c, Q, A⟩ := κ
  intro H locs la hP hX hA hS hl
  exact lv_ladd X.1 X.2.1 hd (k H locs la hP hX hA hS hl)
theorem x_lsub {ω : XO} {rm : Room} {nL : Nat} {κ : XK} {cc : ByteArray} {own : String} (X : XC ω rm nL κ cc own) {L : List Nat} {q : Nat → Nat} {h : hp} {cells slots pc : Nat} {lv : List (Nat × Value)} {rest : List Value} {x y : Int64} (hd : decode cc pc = .ok (.lsub, 1)) (k : XG ω rm nL κ L q h cells slots (pc + 1) lv (.long (x - y) :: rest)) : XG ω rm nL κ L q h cells slots pc lv (.long y :: .long x :: rest) := by
  obtain ⟨l, D, E, b, ζ⟩ := ω
  obtain ⟨p, e, s, m, args, below, meth, c, Q, A⟩ := κ
  intro H locs la hP hX hA hS hl
  exact lv_lsub X.1 X.2.1 hd (k H locs la hP hX hA hS hl)
theorem x_land {ω : XO} {rm : Room} {nL : Nat} {κ : XK} {cc : ByteArray} {own : String} (X : XC ω rm nL κ cc own) {L : List Nat} {q : Nat → Nat} {h : hp} {cells slots pc : Nat} {lv : List (Nat × Value)} {rest : List Value} {x y : Int64} (hd : decode cc pc = .ok (.land, 1)) (k : XG ω rm nL κ L q h cells slots (pc + 1) lv (.long (x &&& y) :: rest)) : XG ω rm nL κ L q h cells slots pc lv (.long y :: .long x :: rest) := by
  obtain ⟨l, D, E, b, ζ⟩ := ω
  obtain ⟨p, e, s, m, args, below, meth, c, Q, A⟩ := κ
  intro H locs la hP hX hA hS hl
  exact lv_land X.1 X.2.1 hd (k H locs la hP hX hA hS hl)
theorem x_lor {ω : XO} {rm : Room} {nL : Nat} {κ : XK} {cc : ByteArray} {own : String} (X : XC ω rm nL κ cc own) {L : List Nat} {q : Nat → Nat} {h : hp} {cells slots pc : Nat} {lv : List (Nat × Value)} {rest : List Value} {x y : Int64} (hd : decode cc pc = .ok (.lor, 1)) (k : XG ω rm nL κ L q h cells slots (pc + 1) lv (.long (x ||| y) :: rest)) : XG ω rm nL κ L q h cells slots pc lv (.long y :: .long x :: rest) := by
  obtain ⟨l, D, E, b, ζ⟩ := ω
  obtain ⟨p, e, s, m, args, below, meth, c, Q, A⟩ := κ
  intro H locs la hP hX hA hS hl
  exact lv_lor X.1 X.2.1 hd (k H locs la hP hX hA hS hl)
theorem x_lxor {ω : XO} {rm : Room} {nL : Nat} {κ : XK} {cc : ByteArray} {own : String} (X : XC ω rm nL κ cc own) {L : List Nat} {q : Nat → Nat} {h : hp} {cells slots pc : Nat} {lv : List (Nat × Value)} {rest : List Value} {x y : Int64} (hd : decode cc pc = .ok (.lxor, 1)) (k : XG ω rm nL κ L q h cells slots (pc + 1) lv (.long (x ^^^ y) :: rest)) : XG ω rm nL κ L q h cells slots pc lv (.long y :: .long x :: rest) := by
  obtain ⟨l, D, E, b, ζ⟩ := ω
  obtain ⟨p, e, s, m, args, below, meth, c, Q, A⟩ := κ
  intro H locs la hP hX hA hS hl
  exact lv_lxor X.1 X.2.1 hd (k H locs la hP hX hA hS hl)
theorem x_i2l {ω : XO} {rm : Room} {nL : Nat} {κ : XK} {cc : ByteArray} {own : String} (X : XC ω rm nL κ cc own) {L : List Nat} {q : Nat → Nat} {h : hp} {cells slots pc : Nat} {lv : List (Nat × Value)} {rest : List Value} {x : Int32} (hd : decode cc pc = .ok (.i2l, 1)) (k : XG ω rm nL κ L q h cells slots (pc + 1) lv (.long x.toInt64 :: rest)) : XG ω rm nL κ L q h cells slots pc lv (.int x :: rest) := by
  obtain ⟨l, D, E, b, ζ⟩ := ω
  obtain ⟨p, e, s, m, args, below, meth, c, Q, A⟩ := κ
  intro H locs la hP hX hA hS hl
  exact lv_i2l X.1 X.2.1 hd rfl (k H locs la hP hX hA hS hl)
theorem x_l2i {ω : XO} {rm : Room} {nL : Nat} {κ : XK} {cc : ByteArray} {own : String} (X : XC ω rm nL κ cc own) {L : List Nat} {q : Nat → Nat} {h : hp} {cells slots pc : Nat} {lv : List (Nat × Value)} {rest : List Value} {x : Int64} (hd : decode cc pc = .ok (.l2i, 1)) (k : XG ω rm nL κ L q h cells slots (pc + 1) lv (.int x.toInt32 :: rest)) : XG ω rm nL κ L q h cells slots pc lv (.long x :: rest) := by
  obtain ⟨l, D, E, b, ζ⟩ := ω
  obtain ⟨p, e, s, m, args, below, meth, c, Q, A⟩ := κ
  intro H locs la hP hX hA hS hl
  exact lv_l2i X.1 X.2.1 hd rfl (k H locs la hP hX hA hS hl)
theorem x_i2b {ω : XO} {rm : Room} {nL : Nat} {κ : XK} {cc : ByteArray} {own : String} (X : XC ω rm nL κ cc own) {L : List Nat} {q : Nat → Nat} {h : hp} {cells slots pc : Nat} {lv : List (Nat × Value)} {rest : List Value} {x : Int32} (hd : decode cc pc = .ok (.i2b, 1)) (k : XG ω rm nL κ L q h cells slots (pc + 1) lv (.int x.toInt8.toInt32 :: rest)) : XG ω rm nL κ L q h cells slots pc lv (.int x :: rest) := by
  obtain ⟨l, D, E, b, ζ⟩ := ω
  obtain ⟨p, e, s, m, args, below, meth, c, Q, A⟩ := κ
  intro H locs la hP hX hA hS hl
  exact lv_i2b X.1 X.2.1 hd rfl (k H locs la hP hX hA hS hl)
theorem x_i2s {ω : XO} {rm : Room} {nL : Nat} {κ : XK} {cc : ByteArray} {own : String} (X : XC ω rm nL κ cc own) {L : List Nat} {q : Nat → Nat} {h : hp} {cells slots pc : Nat} {lv : List (Nat × Value)} {rest : List Value} {x : Int32} (hd : decode cc pc = .ok (.i2s, 1)) (k : XG ω rm nL κ L q h cells slots (pc + 1) lv (.int x.toInt16.toInt32 :: rest)) : XG ω rm nL κ L q h cells slots pc lv (.int x :: rest) := by
  obtain ⟨l, D, E, b, ζ⟩ := ω
  obtain ⟨p, e, s, m, args, below, meth, c, Q, A⟩ := κ
  intro H locs la hP hX hA hS hl
  exact lv_i2s X.1 X.2.1 hd rfl (k H locs la hP hX hA hS hl)
theorem x_i2c {ω : XO} {rm : Room} {nL : Nat} {κ : XK} {cc : ByteArray} {own : String} (X : XC ω rm nL κ cc own) {L : List Nat} {q : Nat → Nat} {h : hp} {cells slots pc : Nat} {lv : List (Nat × Value)} {rest : List Value} {x : Int32} (hd : decode cc pc = .ok (.i2c, 1)) (k : XG ω rm nL κ L q h cells slots (pc + 1) lv (.int (x.toUInt32 % 65536).toInt32 :: rest)) : XG ω rm nL κ L q h cells slots pc lv (.int x :: rest) := by
  obtain ⟨l, D, E, b, ζ⟩ := ω
  obtain ⟨p, e, s, m, args, below, meth, c, Q, A⟩ := κ
  intro H locs la hP hX hA hS hl
  exact lv_i2c X.1 X.2.1 hd rfl (k H locs la hP hX hA hS hl)
theorem x_iushr {ω : XO} {rm : Room} {nL : Nat} {κ : XK} {cc : ByteArray} {own : String} (X : XC ω rm nL κ cc own) {L : List Nat} {q : Nat → Nat} {h : hp} {cells slots pc : Nat} {lv : List (Nat × Value)} {rest : List Value} {x y : Int32} (hd : decode cc pc = .ok (.iushr, 1)) (k : XG ω rm nL κ L q h cells slots (pc + 1) lv (.int (x.toUInt32 >>> (y.toUInt32 &&& Int32.toUInt32 31)).toInt32 :: rest)) : XG ω rm nL κ L q h cells slots pc lv (.int y :: .int x :: rest) := by
  obtain ⟨l, D, E, b, ζ⟩ := ω
  obtain ⟨p, e, s, m, args, below, meth, c, Q, A⟩ := κ
  intro H locs la hP hX hA hS hl
  exact lv_iushr X.1 X.2.1 hd rfl (k H locs la hP hX hA hS hl)
theorem x_lushr {ω : XO} {rm : Room} {nL : Nat} {κ : XK} {cc : ByteArray} {own : String} (X : XC ω rm nL κ cc own) {L : List Nat} {q : Nat → Nat} {h : hp} {cells slots pc : Nat} {lv : List (Nat × Value)} {rest : List Value} {x : Int64} {y : Int32} (hd : decode cc pc = .ok (.lushr, 1)) (k : XG ω rm nL κ L q h cells slots (pc + 1) lv (.long (x.toUInt64 >>> (y.toInt64.toUInt64 &&& Int64.toUInt64 63)).toInt64 :: rest)) : XG ω rm nL κ L q h cells slots pc lv (.int y :: .long x :: rest) := by
  obtain ⟨l, D, E, b, ζ⟩ := ω
  obtain ⟨p, e, s, m, args, below, meth, c, Q, A⟩ := κ
  intro H locs la hP hX hA hS hl
  exact lv_lushr X.1 X.2.1 hd rfl (k H locs la hP hX hA hS hl)
theorem x_lshl {ω : XO} {rm : Room} {nL : Nat} {κ : XK} {cc : ByteArray} {own : String} (X : XC ω rm nL κ cc own) {L : List Nat} {q : Nat → Nat} {h : hp} {cells slots pc : Nat} {lv : List (Nat × Value)} {rest : List Value} {x : Int64} {y : Int32} (hd : decode cc pc = .ok (.lshl, 1)) (k : XG ω rm nL κ L q h cells slots (pc + 1) lv (.long (x <<< (y.toInt64 &&& 63)) :: rest)) : XG ω rm nL κ L q h cells slots pc lv (.int y :: .long x :: rest) := by
  obtain ⟨l, D, E, b, ζ⟩ := ω
  obtain ⟨p, e, s, m, args, below, meth, c, Q, A⟩ := κ
  intro H locs la hP hX hA hS hl
  exact lv_lshl X.1 X.2.1 hd rfl (k H locs la hP hX hA hS hl)
theorem x_lshr {ω : XO} {rm : Room} {nL : Nat} {κ : XK} {cc : ByteArray} {own : String} (X : XC ω rm nL κ cc own) {L : List Nat} {q : Nat → Nat} {h : hp} {cells slots pc : Nat} {lv : List (Nat × Value)} {rest : List Value} {x : Int64} {y : Int32} (hd : decode cc pc = .ok (.lshr, 1)) (k : XG ω rm nL κ L q h cells slots (pc + 1) lv (.long (x >>> (y.toInt64 &&& 63)) :: rest)) : XG ω rm nL κ L q h cells slots pc lv (.int y :: .long x :: rest) := by
  obtain ⟨l, D, E, b, ζ⟩ := ω
  obtain ⟨p, e, s, m, args, below, meth, c, Q, A⟩ := κ
  intro H locs la hP hX hA hS hl
  exact lv_lshr X.1 X.2.1 hd rfl (k H locs la hP hX hA hS hl)
theorem x_lcmp {ω : XO} {rm : Room} {nL : Nat} {κ : XK} {cc : ByteArray} {own : String} (X : XC ω rm nL κ cc own) {L : List Nat} {q : Nat → Nat} {h : hp} {cells slots pc : Nat} {lv : List (Nat × Value)} {rest : List Value} {x y : Int64} (hd : decode cc pc = .ok (.lcmp, 1)) (k : XG ω rm nL κ L q h cells slots (pc + 1) lv (.int (lg_cmp x y) :: rest)) : XG ω rm nL κ L q h cells slots pc lv (.long y :: .long x :: rest) := by
  obtain ⟨l, D, E, b, ζ⟩ := ω
  obtain ⟨p, e, s, m, args, below, meth, c, Q, A⟩ := κ
  intro H locs la hP hX hA hS hl
  exact W.lcmp X.1 X.2.1 hd (k H locs la hP hX hA hS hl)
theorem x_dup {ω : XO} {rm : Room} {nL : Nat} {κ : XK} {cc : ByteArray} {own : String} (X : XC ω rm nL κ cc own) {L : List Nat} {q : Nat → Nat} {h : hp} {cells slots pc : Nat} {lv : List (Nat × Value)} {rest : List Value} {va : Value} (hd : decode cc pc = .ok (.dup, 1)) (hva : va.category = 1 := by rfl) (k : XG ω rm nL κ L q h cells slots (pc + 1) lv (va :: va :: rest)) : XG ω rm nL κ L q h cells slots pc lv (va :: rest) := by
  obtain ⟨l, D, E, b, ζ⟩ := ω
  obtain ⟨p, e, s, m, args, below, meth, c, Q, A⟩ := κ
  intro H locs la hP hX hA hS hl
  exact lv_dup X.1 X.2.1 hd hva (k H locs la hP hX hA hS hl)
theorem x_pop {ω : XO} {rm : Room} {nL : Nat} {κ : XK} {cc : ByteArray} {own : String} (X : XC ω rm nL κ cc own) {L : List Nat} {q : Nat → Nat} {h : hp} {cells slots pc : Nat} {lv : List (Nat × Value)} {rest : List Value} {va : Value} (hd : decode cc pc = .ok (.pop, 1)) (hva : va.category = 1 := by rfl) (k : XG ω rm nL κ L q h cells slots (pc + 1) lv (rest)) : XG ω rm nL κ L q h cells slots pc lv (va :: rest) := by
  obtain ⟨l, D, E, b, ζ⟩ := ω
  obtain ⟨p, e, s, m, args, below, meth, c, Q, A⟩ := κ
  intro H locs la hP hX hA hS hl
  exact lv_pop X.1 X.2.1 hd hva (k H locs la hP hX hA hS hl)
theorem x_dup_x1 {ω : XO} {rm : Room} {nL : Nat} {κ : XK} {cc : ByteArray} {own : String} (X : XC ω rm nL κ cc own) {L : List Nat} {q : Nat → Nat} {h : hp} {cells slots pc : Nat} {lv : List (Nat × Value)} {rest : List Value} {va vb : Value} (hd : decode cc pc = .ok (.dup_x1, 1)) (hva : va.category = 1 := by rfl) (hvb : vb.category = 1 := by rfl) (k : XG ω rm nL κ L q h cells slots (pc + 1) lv (va :: vb :: va :: rest)) : XG ω rm nL κ L q h cells slots pc lv (va :: vb :: rest) := by
  obtain ⟨l, D, E, b, ζ⟩ := ω
  obtain ⟨p, e, s, m, args, below, meth, c, Q, A⟩ := κ
  intro H locs la hP hX hA hS hl
  exact lv_dup_x1 X.1 X.2.1 hd hva hvb (k H locs la hP hX hA hS hl)
theorem x_dup_x2 {ω : XO} {rm : Room} {nL : Nat} {κ : XK} {cc : ByteArray} {own : String} (X : XC ω rm nL κ cc own) {L : List Nat} {q : Nat → Nat} {h : hp} {cells slots pc : Nat} {lv : List (Nat × Value)} {rest : List Value} {va vb vd : Value} (hd : decode cc pc = .ok (.dup_x2, 1)) (hva : va.category = 1 := by rfl) (hvb : vb.category = 1 := by rfl) (hvd : vd.category = 1 := by rfl) (k : XG ω rm nL κ L q h cells slots (pc + 1) lv (va :: vb :: vd :: va :: rest)) : XG ω rm nL κ L q h cells slots pc lv (va :: vb :: vd :: rest) := by
  obtain ⟨l, D, E, b, ζ⟩ := ω
  obtain ⟨p, e, s, m, args, below, meth, c, Q, A⟩ := κ
  intro H locs la hP hX hA hS hl
  exact lv_dup_x2 X.1 X.2.1 hd hva hvb hvd (k H locs la hP hX hA hS hl)
theorem x_dup2 {ω : XO} {rm : Room} {nL : Nat} {κ : XK} {cc : ByteArray} {own : String} (X : XC ω rm nL κ cc own) {L : List Nat} {q : Nat → Nat} {h : hp} {cells slots pc : Nat} {lv : List (Nat × Value)} {rest : List Value} {va vb : Value} (hd : decode cc pc = .ok (.dup2, 1)) (hva : va.category = 1 := by rfl) (hvb : vb.category = 1 := by rfl) (k : XG ω rm nL κ L q h cells slots (pc + 1) lv (va :: vb :: va :: vb :: rest)) : XG ω rm nL κ L q h cells slots pc lv (va :: vb :: rest) := by
  obtain ⟨l, D, E, b, ζ⟩ := ω
  obtain ⟨p, e, s, m, args, below, meth, c, Q, A⟩ := κ
  intro H locs la hP hX hA hS hl
  exact lv_dup2_11 X.1 X.2.1 hd hva hvb (k H locs la hP hX hA hS hl)
theorem x_null {ω : XO} {rm : Room} {nL : Nat} {κ : XK} {cc : ByteArray} {own : String} (X : XC ω rm nL κ cc own) {L : List Nat} {q : Nat → Nat} {h : hp} {cells slots pc : Nat} {lv : List (Nat × Value)} {rest : List Value}  (hd : decode cc pc = .ok (.aconst_null, 1)) (k : XG ω rm nL κ L q h cells slots (pc + 1) lv (.null :: rest)) : XG ω rm nL κ L q h cells slots pc lv (rest) := by
  obtain ⟨l, D, E, b, ζ⟩ := ω
  obtain ⟨p, e, s, m, args, below, meth, c, Q, A⟩ := κ
  intro H locs la hP hX hA hS hl
  exact lv_null X.1 X.2.1 hd (k H locs la hP hX hA hS hl)
theorem x_iload_n {ω : XO} {rm : Room} {nL : Nat} {κ : XK} {cc : ByteArray} {own : String} (X : XC ω rm nL κ cc own) {L : List Nat} {q : Nat → Nat} {h : hp} {cells slots pc : Nat} {lv : List (Nat × Value)} {rest : List Value} {n : Fin 4} {i : Nat} {x : Int32} (hd : decode cc pc = .ok (.iload_n n, 1)) (j : Nat) (hj : lv[j]? = some (i, .int x)) (hi : (n : Nat) = i) (k : XG ω rm nL κ L q h cells slots (pc + 1) lv (.int x :: rest)) : XG ω rm nL κ L q h cells slots pc lv (rest) := by
  obtain ⟨l, D, E, b, ζ⟩ := ω
  obtain ⟨p, e, s, m, args, below, meth, c, Q, A⟩ := κ
  intro H locs la hP hX hA hS hl
  exact lv_iload_n X.1 X.2.1 hd hi (lv_at hl j hj) (k H locs la hP hX hA hS hl)
theorem x_iload {ω : XO} {rm : Room} {nL : Nat} {κ : XK} {cc : ByteArray} {own : String} (X : XC ω rm nL κ cc own) {L : List Nat} {q : Nat → Nat} {h : hp} {cells slots pc : Nat} {lv : List (Nat × Value)} {rest : List Value} {i : Nat} {x : Int32} (hd : decode cc pc = .ok (.iload i, 2)) (j : Nat) (hj : lv[j]? = some (i, .int x)) (k : XG ω rm nL κ L q h cells slots (pc + 2) lv (.int x :: rest)) : XG ω rm nL κ L q h cells slots pc lv (rest) := by
  obtain ⟨l, D, E, b, ζ⟩ := ω
  obtain ⟨p, e, s, m, args, below, meth, c, Q, A⟩ := κ
  intro H locs la hP hX hA hS hl
  exact lv_iload X.1 X.2.1 hd (lv_at hl j hj) (k H locs la hP hX hA hS hl)
theorem x_istore_n {ω : XO} {rm : Room} {nL : Nat} {κ : XK} {cc : ByteArray} {own : String} (X : XC ω rm nL κ cc own) {L : List Nat} {q : Nat → Nat} {h : hp} {cells slots pc : Nat} {lv : List (Nat × Value)} {rest : List Value} {n : Fin 4} {i : Nat} {x : Int32} (lv' : List (Nat × Value)) (hd : decode cc pc = .ok (.istore_n n, 1)) (hi : (n : Nat) = i) (hn : i < nL) (hv : (i, Value.int x) :: lv.filter (fun q => !(q.1 == i) && !(q.1 + 1 == i && q.2.category == 2)) = lv') (k : XG ω rm nL κ L q h cells slots (pc + 1) lv' (rest)) : XG ω rm nL κ L q h cells slots pc lv (.int x :: rest) := by
  obtain ⟨l, D, E, b, ζ⟩ := ω
  obtain ⟨p, e, s, m, args, below, meth, c, Q, A⟩ := κ
  intro H locs la hP hX hA hS hl
  exact lv_istore_n X.1 X.2.1 hd hi hl hn hv (fun la2 hl2 => k H locs la2 hP hX hA hS hl2)
theorem x_istore {ω : XO} {rm : Room} {nL : Nat} {κ : XK} {cc : ByteArray} {own : String} (X : XC ω rm nL κ cc own) {L : List Nat} {q : Nat → Nat} {h : hp} {cells slots pc : Nat} {lv : List (Nat × Value)} {rest : List Value} {i : Nat} {x : Int32} (lv' : List (Nat × Value)) (hd : decode cc pc = .ok (.istore i, 2)) (hn : i < nL) (hv : (i, Value.int x) :: lv.filter (fun q => !(q.1 == i) && !(q.1 + 1 == i && q.2.category == 2)) = lv') (k : XG ω rm nL κ L q h cells slots (pc + 2) lv' (rest)) : XG ω rm nL κ L q h cells slots pc lv (.int x :: rest) := by
  obtain ⟨l, D, E, b, ζ⟩ := ω
  obtain ⟨p, e, s, m, args, below, meth, c, Q, A⟩ := κ
  intro H locs la hP hX hA hS hl
  exact lv_istore X.1 X.2.1 hd hl hn hv (fun la2 hl2 => k H locs la2 hP hX hA hS hl2)
theorem x_lload_n {ω : XO} {rm : Room} {nL : Nat} {κ : XK} {cc : ByteArray} {own : String} (X : XC ω rm nL κ cc own) {L : List Nat} {q : Nat → Nat} {h : hp} {cells slots pc : Nat} {lv : List (Nat × Value)} {rest : List Value} {n : Fin 4} {i : Nat} {x : Int64} (hd : decode cc pc = .ok (.lload_n n, 1)) (j : Nat) (hj : lv[j]? = some (i, .long x)) (hi : (n : Nat) = i) (k : XG ω rm nL κ L q h cells slots (pc + 1) lv (.long x :: rest)) : XG ω rm nL κ L q h cells slots pc lv (rest) := by
  obtain ⟨l, D, E, b, ζ⟩ := ω
  obtain ⟨p, e, s, m, args, below, meth, c, Q, A⟩ := κ
  intro H locs la hP hX hA hS hl
  exact lv_lload_n X.1 X.2.1 hd hi (lv_at hl j hj) (k H locs la hP hX hA hS hl)
theorem x_lload {ω : XO} {rm : Room} {nL : Nat} {κ : XK} {cc : ByteArray} {own : String} (X : XC ω rm nL κ cc own) {L : List Nat} {q : Nat → Nat} {h : hp} {cells slots pc : Nat} {lv : List (Nat × Value)} {rest : List Value} {i : Nat} {x : Int64} (hd : decode cc pc = .ok (.lload i, 2)) (j : Nat) (hj : lv[j]? = some (i, .long x)) (k : XG ω rm nL κ L q h cells slots (pc + 2) lv (.long x :: rest)) : XG ω rm nL κ L q h cells slots pc lv (rest) := by
  obtain ⟨l, D, E, b, ζ⟩ := ω
  obtain ⟨p, e, s, m, args, below, meth, c, Q, A⟩ := κ
  intro H locs la hP hX hA hS hl
  exact lv_lload X.1 X.2.1 hd (lv_at hl j hj) (k H locs la hP hX hA hS hl)
theorem x_lstore_n {ω : XO} {rm : Room} {nL : Nat} {κ : XK} {cc : ByteArray} {own : String} (X : XC ω rm nL κ cc own) {L : List Nat} {q : Nat → Nat} {h : hp} {cells slots pc : Nat} {lv : List (Nat × Value)} {rest : List Value} {n : Fin 4} {i : Nat} {x : Int64} (lv' : List (Nat × Value)) (hd : decode cc pc = .ok (.lstore_n n, 1)) (hi : (n : Nat) = i) (hn : i + 1 < nL) (hv : (i, Value.long x) :: lv.filter (fun q => !(q.1 == i) && (!(q.1 == i + 1) && !(q.1 + 1 == i && q.2.category == 2))) = lv') (k : XG ω rm nL κ L q h cells slots (pc + 1) lv' (rest)) : XG ω rm nL κ L q h cells slots pc lv (.long x :: rest) := by
  obtain ⟨l, D, E, b, ζ⟩ := ω
  obtain ⟨p, e, s, m, args, below, meth, c, Q, A⟩ := κ
  intro H locs la hP hX hA hS hl
  exact lv_lstore_n X.1 X.2.1 hd hi hl hn hv (fun la2 hl2 => k H locs la2 hP hX hA hS hl2)
theorem x_lstore {ω : XO} {rm : Room} {nL : Nat} {κ : XK} {cc : ByteArray} {own : String} (X : XC ω rm nL κ cc own) {L : List Nat} {q : Nat → Nat} {h : hp} {cells slots pc : Nat} {lv : List (Nat × Value)} {rest : List Value} {i : Nat} {x : Int64} (lv' : List (Nat × Value)) (hd : decode cc pc = .ok (.lstore i, 2)) (hn : i + 1 < nL) (hv : (i, Value.long x) :: lv.filter (fun q => !(q.1 == i) && (!(q.1 == i + 1) && !(q.1 + 1 == i && q.2.category == 2))) = lv') (k : XG ω rm nL κ L q h cells slots (pc + 2) lv' (rest)) : XG ω rm nL κ L q h cells slots pc lv (.long x :: rest) := by
  obtain ⟨l, D, E, b, ζ⟩ := ω
  obtain ⟨p, e, s, m, args, below, meth, c, Q, A⟩ := κ
  intro H locs la hP hX hA hS hl
  exact lv_lstore X.1 X.2.1 hd hl hn hv (fun la2 hl2 => k H locs la2 hP hX hA hS hl2)
theorem x_aload_n {ω : XO} {rm : Room} {nL : Nat} {κ : XK} {cc : ByteArray} {own : String} (X : XC ω rm nL κ cc own) {L : List Nat} {q : Nat → Nat} {h : hp} {cells slots pc : Nat} {lv : List (Nat × Value)} {rest : List Value} {n : Fin 4} {i : Nat} {x : Nat} (hd : decode cc pc = .ok (.aload_n n, 1)) (j : Nat) (hj : lv[j]? = some (i, .ref x)) (hi : (n : Nat) = i) (k : XG ω rm nL κ L q h cells slots (pc + 1) lv (.ref x :: rest)) : XG ω rm nL κ L q h cells slots pc lv (rest) := by
  obtain ⟨l, D, E, b, ζ⟩ := ω
  obtain ⟨p, e, s, m, args, below, meth, c, Q, A⟩ := κ
  intro H locs la hP hX hA hS hl
  exact lv_aload_n X.1 X.2.1 hd hi (lv_at hl j hj) (k H locs la hP hX hA hS hl)
theorem x_aload {ω : XO} {rm : Room} {nL : Nat} {κ : XK} {cc : ByteArray} {own : String} (X : XC ω rm nL κ cc own) {L : List Nat} {q : Nat → Nat} {h : hp} {cells slots pc : Nat} {lv : List (Nat × Value)} {rest : List Value} {i : Nat} {x : Nat} (hd : decode cc pc = .ok (.aload i, 2)) (j : Nat) (hj : lv[j]? = some (i, .ref x)) (k : XG ω rm nL κ L q h cells slots (pc + 2) lv (.ref x :: rest)) : XG ω rm nL κ L q h cells slots pc lv (rest) := by
  obtain ⟨l, D, E, b, ζ⟩ := ω
  obtain ⟨p, e, s, m, args, below, meth, c, Q, A⟩ := κ
  intro H locs la hP hX hA hS hl
  exact lv_aload X.1 X.2.1 hd (lv_at hl j hj) (k H locs la hP hX hA hS hl)
theorem x_astore_n {ω : XO} {rm : Room} {nL : Nat} {κ : XK} {cc : ByteArray} {own : String} (X : XC ω rm nL κ cc own) {L : List Nat} {q : Nat → Nat} {h : hp} {cells slots pc : Nat} {lv : List (Nat × Value)} {rest : List Value} {n : Fin 4} {i : Nat} {x : Nat} (lv' : List (Nat × Value)) (hd : decode cc pc = .ok (.astore_n n, 1)) (hi : (n : Nat) = i) (hn : i < nL) (hv : (i, Value.ref x) :: lv.filter (fun q => !(q.1 == i) && !(q.1 + 1 == i && q.2.category == 2)) = lv') (k : XG ω rm nL κ L q h cells slots (pc + 1) lv' (rest)) : XG ω rm nL κ L q h cells slots pc lv (.ref x :: rest) := by
  obtain ⟨l, D, E, b, ζ⟩ := ω
  obtain ⟨p, e, s, m, args, below, meth, c, Q, A⟩ := κ
  intro H locs la hP hX hA hS hl
  exact lv_astore_n X.1 X.2.1 hd hi hl hn hv (fun la2 hl2 => k H locs la2 hP hX hA hS hl2)
theorem x_astore {ω : XO} {rm : Room} {nL : Nat} {κ : XK} {cc : ByteArray} {own : String} (X : XC ω rm nL κ cc own) {L : List Nat} {q : Nat → Nat} {h : hp} {cells slots pc : Nat} {lv : List (Nat × Value)} {rest : List Value} {i : Nat} {x : Nat} (lv' : List (Nat × Value)) (hd : decode cc pc = .ok (.astore i, 2)) (hn : i < nL) (hv : (i, Value.ref x) :: lv.filter (fun q => !(q.1 == i) && !(q.1 + 1 == i && q.2.category == 2)) = lv') (k : XG ω rm nL κ L q h cells slots (pc + 2) lv' (rest)) : XG ω rm nL κ L q h cells slots pc lv (.ref x :: rest) := by
  obtain ⟨l, D, E, b, ζ⟩ := ω
  obtain ⟨p, e, s, m, args, below, meth, c, Q, A⟩ := κ
  intro H locs la hP hX hA hS hl
  exact lv_astore X.1 X.2.1 hd hl hn hv (fun la2 hl2 => k H locs la2 hP hX hA hS hl2)
theorem x_iinc {ω : XO} {rm : Room} {nL : Nat} {κ : XK} {cc : ByteArray} {own : String} (X : XC ω rm nL κ cc own) {L : List Nat} {q : Nat → Nat} {h : hp} {cells slots pc : Nat} {lv : List (Nat × Value)} {rest : List Value} {i : Nat} {n : Int} {x : Int32} (v : Int32) (lv' : List (Nat × Value)) (hd : decode cc pc = .ok (.iinc i n, 3)) (j : Nat) (hj : lv[j]? = some (i, .int x)) (hv : Int32.ofInt n = v) (hn : i < nL) (hw : (i, Value.int (x + v)) :: lv.filter (fun q => !(q.1 == i) && !(q.1 + 1 == i && q.2.category == 2)) = lv') (k : XG ω rm nL κ L q h cells slots (pc + 3) lv' (rest)) : XG ω rm nL κ L q h cells slots pc lv (rest) := by
  obtain ⟨l, D, E, b, ζ⟩ := ω
  obtain ⟨p, e, s, m, args, below, meth, c, Q, A⟩ := κ
  intro H locs la hP hX hA hS hl
  exact lv_iinc X.1 X.2.1 hd hl hj (by rw [hv]) hn hw (fun la2 hl2 => k H locs la2 hP hX hA hS hl2)
theorem x_lv {ω : XO} {rm : Room} {nL : Nat} {κ : XK} {L : List Nat} {q : Nat → Nat} {h : hp} {cells slots pc : Nat} {lv lv' : List (Nat × Value)} {st : List Value} (ks : List Nat) (hl2 : lv_pick lv ks = lv') (k : XG ω rm nL κ L q h cells slots pc lv' st) : XG ω rm nL κ L q h cells slots pc lv st := by
  obtain ⟨l, D, E, b, ζ⟩ := ω
  obtain ⟨p, e, s, m, args, below, meth, c, Q, A⟩ := κ
  intro H locs la hP hX hA hS hl
  exact k H locs la hP hX hA hS (lv_sub hl ks hl2)
theorem x_goto {ω : XO} {rm : Room} {nL : Nat} {κ : XK} {cc : ByteArray} {own : String} (X : XC ω rm nL κ cc own) {L : List Nat} {q : Nat → Nat} {h : hp} {cells slots pc : Nat} {lv : List (Nat × Value)} {st : List Value} {off : Int} (tgt : Nat) (hd : decode cc pc = .ok (.goto off, 3)) (ht : (pc : Int) + off = (tgt : Int)) (k : XG ω rm nL κ L q h cells slots tgt lv st) : XG ω rm nL κ L q h cells slots pc lv st := by
  obtain ⟨l, D, E, b, ζ⟩ := ω
  obtain ⟨p, e, s, m, args, below, meth, c, Q, A⟩ := κ
  intro H locs la hP hX hA hS hl
  exact lv_goto X.1 X.2.1 hd ht (k H locs la hP hX hA hS hl)
theorem x_if_eq {ω : XO} {rm : Room} {nL : Nat} {κ : XK} {cc : ByteArray} {own : String} (X : XC ω rm nL κ cc own) {L : List Nat} {q : Nat → Nat} {h : hp} {cells slots pc : Nat} {lv : List (Nat × Value)} {rest : List Value} {x : Int32} {off : Int} (tgt : Nat) (hd : decode cc pc = .ok (.ifCond .eq off, 3)) (ht : (pc : Int) + off = (tgt : Int)) (kp : x = 0 → XG ω rm nL κ L q h cells slots tgt lv (rest)) (kn : ¬ (x = 0) → XG ω rm nL κ L q h cells slots (pc + 3) lv (rest)) : XG ω rm nL κ L q h cells slots pc lv (.int x :: rest) := by
  obtain ⟨l, D, E, b, ζ⟩ := ω
  obtain ⟨p, e, s, m, args, below, meth, c, Q, A⟩ := κ
  intro H locs la hP hX hA hS hl
  exact lv_if_eq X.1 X.2.1 hd ht (fun z => kp (z) H locs la hP hX hA hS hl) (fun z => kn (z) H locs la hP hX hA hS hl)
theorem x_if_ne {ω : XO} {rm : Room} {nL : Nat} {κ : XK} {cc : ByteArray} {own : String} (X : XC ω rm nL κ cc own) {L : List Nat} {q : Nat → Nat} {h : hp} {cells slots pc : Nat} {lv : List (Nat × Value)} {rest : List Value} {x : Int32} {off : Int} (tgt : Nat) (hd : decode cc pc = .ok (.ifCond .ne off, 3)) (ht : (pc : Int) + off = (tgt : Int)) (kp : x = 0 → XG ω rm nL κ L q h cells slots (pc + 3) lv (rest)) (kn : ¬ (x = 0) → XG ω rm nL κ L q h cells slots tgt lv (rest)) : XG ω rm nL κ L q h cells slots pc lv (.int x :: rest) := by
  obtain ⟨l, D, E, b, ζ⟩ := ω
  obtain ⟨p, e, s, m, args, below, meth, c, Q, A⟩ := κ
  intro H locs la hP hX hA hS hl
  exact lv_if_ne X.1 X.2.1 hd ht (fun z => kn (z) H locs la hP hX hA hS hl) (fun z => kp (z) H locs la hP hX hA hS hl)
theorem x_if_lt {ω : XO} {rm : Room} {nL : Nat} {κ : XK} {cc : ByteArray} {own : String} (X : XC ω rm nL κ cc own) {L : List Nat} {q : Nat → Nat} {h : hp} {cells slots pc : Nat} {lv : List (Nat × Value)} {rest : List Value} {x : Int32} {off : Int} (tgt : Nat) (hd : decode cc pc = .ok (.ifCond .lt off, 3)) (ht : (pc : Int) + off = (tgt : Int)) (kp : x < 0 → XG ω rm nL κ L q h cells slots tgt lv (rest)) (kn : ¬ (x < 0) → XG ω rm nL κ L q h cells slots (pc + 3) lv (rest)) : XG ω rm nL κ L q h cells slots pc lv (.int x :: rest) := by
  obtain ⟨l, D, E, b, ζ⟩ := ω
  obtain ⟨p, e, s, m, args, below, meth, c, Q, A⟩ := κ
  intro H locs la hP hX hA hS hl
  exact lv_if_lt X.1 X.2.1 hd ht (fun z => kp (z) H locs la hP hX hA hS hl) (fun z => kn (z) H locs la hP hX hA hS hl)
theorem x_if_ge {ω : XO} {rm : Room} {nL : Nat} {κ : XK} {cc : ByteArray} {own : String} (X : XC ω rm nL κ cc own) {L : List Nat} {q : Nat → Nat} {h : hp} {cells slots pc : Nat} {lv : List (Nat × Value)} {rest : List Value} {x : Int32} {off : Int} (tgt : Nat) (hd : decode cc pc = .ok (.ifCond .ge off, 3)) (ht : (pc : Int) + off = (tgt : Int)) (kp : x < 0 → XG ω rm nL κ L q h cells slots (pc + 3) lv (rest)) (kn : ¬ (x < 0) → XG ω rm nL κ L q h cells slots tgt lv (rest)) : XG ω rm nL κ L q h cells slots pc lv (.int x :: rest) := by
  obtain ⟨l, D, E, b, ζ⟩ := ω
  obtain ⟨p, e, s, m, args, below, meth, c, Q, A⟩ := κ
  intro H locs la hP hX hA hS hl
  exact lv_if_ge X.1 X.2.1 hd ht (fun z => kn (Int32.not_lt.mpr z) H locs la hP hX hA hS hl) (fun z => kp (Int32.not_le.mp z) H locs la hP hX hA hS hl)
theorem x_if_gt {ω : XO} {rm : Room} {nL : Nat} {κ : XK} {cc : ByteArray} {own : String} (X : XC ω rm nL κ cc own) {L : List Nat} {q : Nat → Nat} {h : hp} {cells slots pc : Nat} {lv : List (Nat × Value)} {rest : List Value} {x : Int32} {off : Int} (tgt : Nat) (hd : decode cc pc = .ok (.ifCond .gt off, 3)) (ht : (pc : Int) + off = (tgt : Int)) (kp : 0 < x → XG ω rm nL κ L q h cells slots tgt lv (rest)) (kn : ¬ (0 < x) → XG ω rm nL κ L q h cells slots (pc + 3) lv (rest)) : XG ω rm nL κ L q h cells slots pc lv (.int x :: rest) := by
  obtain ⟨l, D, E, b, ζ⟩ := ω
  obtain ⟨p, e, s, m, args, below, meth, c, Q, A⟩ := κ
  intro H locs la hP hX hA hS hl
  exact lv_if_gt X.1 X.2.1 hd ht (fun z => kp (z) H locs la hP hX hA hS hl) (fun z => kn (z) H locs la hP hX hA hS hl)
theorem x_if_le {ω : XO} {rm : Room} {nL : Nat} {κ : XK} {cc : ByteArray} {own : String} (X : XC ω rm nL κ cc own) {L : List Nat} {q : Nat → Nat} {h : hp} {cells slots pc : Nat} {lv : List (Nat × Value)} {rest : List Value} {x : Int32} {off : Int} (tgt : Nat) (hd : decode cc pc = .ok (.ifCond .le off, 3)) (ht : (pc : Int) + off = (tgt : Int)) (kp : 0 < x → XG ω rm nL κ L q h cells slots (pc + 3) lv (rest)) (kn : ¬ (0 < x) → XG ω rm nL κ L q h cells slots tgt lv (rest)) : XG ω rm nL κ L q h cells slots pc lv (.int x :: rest) := by
  obtain ⟨l, D, E, b, ζ⟩ := ω
  obtain ⟨p, e, s, m, args, below, meth, c, Q, A⟩ := κ
  intro H locs la hP hX hA hS hl
  exact lv_if_le X.1 X.2.1 hd ht (fun z => kn (Int32.not_lt.mpr z) H locs la hP hX hA hS hl) (fun z => kp (Int32.not_le.mp z) H locs la hP hX hA hS hl)
theorem x_icmp_eq {ω : XO} {rm : Room} {nL : Nat} {κ : XK} {cc : ByteArray} {own : String} (X : XC ω rm nL κ cc own) {L : List Nat} {q : Nat → Nat} {h : hp} {cells slots pc : Nat} {lv : List (Nat × Value)} {rest : List Value} {x y : Int32} {off : Int} (tgt : Nat) (hd : decode cc pc = .ok (.if_icmp .eq off, 3)) (ht : (pc : Int) + off = (tgt : Int)) (kp : x = y → XG ω rm nL κ L q h cells slots tgt lv (rest)) (kn : ¬ (x = y) → XG ω rm nL κ L q h cells slots (pc + 3) lv (rest)) : XG ω rm nL κ L q h cells slots pc lv (.int y :: .int x :: rest) := by
  obtain ⟨l, D, E, b, ζ⟩ := ω
  obtain ⟨p, e, s, m, args, below, meth, c, Q, A⟩ := κ
  intro H locs la hP hX hA hS hl
  exact lv_icmp_eq X.1 X.2.1 hd ht (fun z => kp (z) H locs la hP hX hA hS hl) (fun z => kn (z) H locs la hP hX hA hS hl)
theorem x_icmp_ne {ω : XO} {rm : Room} {nL : Nat} {κ : XK} {cc : ByteArray} {own : String} (X : XC ω rm nL κ cc own) {L : List Nat} {q : Nat → Nat} {h : hp} {cells slots pc : Nat} {lv : List (Nat × Value)} {rest : List Value} {x y : Int32} {off : Int} (tgt : Nat) (hd : decode cc pc = .ok (.if_icmp .ne off, 3)) (ht : (pc : Int) + off = (tgt : Int)) (kp : x = y → XG ω rm nL κ L q h cells slots (pc + 3) lv (rest)) (kn : ¬ (x = y) → XG ω rm nL κ L q h cells slots tgt lv (rest)) : XG ω rm nL κ L q h cells slots pc lv (.int y :: .int x :: rest) := by
  obtain ⟨l, D, E, b, ζ⟩ := ω
  obtain ⟨p, e, s, m, args, below, meth, c, Q, A⟩ := κ
  intro H locs la hP hX hA hS hl
  exact lv_icmp_ne X.1 X.2.1 hd ht (fun z => kn (z) H locs la hP hX hA hS hl) (fun z => kp (z) H locs la hP hX hA hS hl)
theorem x_icmp_lt {ω : XO} {rm : Room} {nL : Nat} {κ : XK} {cc : ByteArray} {own : String} (X : XC ω rm nL κ cc own) {L : List Nat} {q : Nat → Nat} {h : hp} {cells slots pc : Nat} {lv : List (Nat × Value)} {rest : List Value} {x y : Int32} {off : Int} (tgt : Nat) (hd : decode cc pc = .ok (.if_icmp .lt off, 3)) (ht : (pc : Int) + off = (tgt : Int)) (kp : x < y → XG ω rm nL κ L q h cells slots tgt lv (rest)) (kn : ¬ (x < y) → XG ω rm nL κ L q h cells slots (pc + 3) lv (rest)) : XG ω rm nL κ L q h cells slots pc lv (.int y :: .int x :: rest) := by
  obtain ⟨l, D, E, b, ζ⟩ := ω
  obtain ⟨p, e, s, m, args, below, meth, c, Q, A⟩ := κ
  intro H locs la hP hX hA hS hl
  exact lv_icmp_lt X.1 X.2.1 hd ht (fun z => kp (z) H locs la hP hX hA hS hl) (fun z => kn (z) H locs la hP hX hA hS hl)
theorem x_icmp_ge {ω : XO} {rm : Room} {nL : Nat} {κ : XK} {cc : ByteArray} {own : String} (X : XC ω rm nL κ cc own) {L : List Nat} {q : Nat → Nat} {h : hp} {cells slots pc : Nat} {lv : List (Nat × Value)} {rest : List Value} {x y : Int32} {off : Int} (tgt : Nat) (hd : decode cc pc = .ok (.if_icmp .ge off, 3)) (ht : (pc : Int) + off = (tgt : Int)) (kp : x < y → XG ω rm nL κ L q h cells slots (pc + 3) lv (rest)) (kn : ¬ (x < y) → XG ω rm nL κ L q h cells slots tgt lv (rest)) : XG ω rm nL κ L q h cells slots pc lv (.int y :: .int x :: rest) := by
  obtain ⟨l, D, E, b, ζ⟩ := ω
  obtain ⟨p, e, s, m, args, below, meth, c, Q, A⟩ := κ
  intro H locs la hP hX hA hS hl
  exact lv_icmp_ge X.1 X.2.1 hd ht (fun z => kn (Int32.not_lt.mpr z) H locs la hP hX hA hS hl) (fun z => kp (Int32.not_le.mp z) H locs la hP hX hA hS hl)
theorem x_icmp_gt {ω : XO} {rm : Room} {nL : Nat} {κ : XK} {cc : ByteArray} {own : String} (X : XC ω rm nL κ cc own) {L : List Nat} {q : Nat → Nat} {h : hp} {cells slots pc : Nat} {lv : List (Nat × Value)} {rest : List Value} {x y : Int32} {off : Int} (tgt : Nat) (hd : decode cc pc = .ok (.if_icmp .gt off, 3)) (ht : (pc : Int) + off = (tgt : Int)) (kp : y < x → XG ω rm nL κ L q h cells slots tgt lv (rest)) (kn : ¬ (y < x) → XG ω rm nL κ L q h cells slots (pc + 3) lv (rest)) : XG ω rm nL κ L q h cells slots pc lv (.int y :: .int x :: rest) := by
  obtain ⟨l, D, E, b, ζ⟩ := ω
  obtain ⟨p, e, s, m, args, below, meth, c, Q, A⟩ := κ
  intro H locs la hP hX hA hS hl
  exact lv_icmp_gt X.1 X.2.1 hd ht (fun z => kp (z) H locs la hP hX hA hS hl) (fun z => kn (z) H locs la hP hX hA hS hl)
theorem x_icmp_le {ω : XO} {rm : Room} {nL : Nat} {κ : XK} {cc : ByteArray} {own : String} (X : XC ω rm nL κ cc own) {L : List Nat} {q : Nat → Nat} {h : hp} {cells slots pc : Nat} {lv : List (Nat × Value)} {rest : List Value} {x y : Int32} {off : Int} (tgt : Nat) (hd : decode cc pc = .ok (.if_icmp .le off, 3)) (ht : (pc : Int) + off = (tgt : Int)) (kp : y < x → XG ω rm nL κ L q h cells slots (pc + 3) lv (rest)) (kn : ¬ (y < x) → XG ω rm nL κ L q h cells slots tgt lv (rest)) : XG ω rm nL κ L q h cells slots pc lv (.int y :: .int x :: rest) := by
  obtain ⟨l, D, E, b, ζ⟩ := ω
  obtain ⟨p, e, s, m, args, below, meth, c, Q, A⟩ := κ
  intro H locs la hP hX hA hS hl
  exact lv_icmp_le X.1 X.2.1 hd ht (fun z => kn (Int32.not_lt.mpr z) H locs la hP hX hA hS hl) (fun z => kp (Int32.not_le.mp z) H locs la hP hX hA hS hl)
theorem x_ldc {ω : XO} {rm : Room} {nL : Nat} {κ : XK} {cc : ByteArray} {own : String} (X : XC ω rm nL κ cc own) {L : List Nat} {q : Nat → Nat} {h : hp} {cells slots pc : Nat} {lv : List (Nat × Value)} {rest : List Value} {idx : Nat} {v : Int32} (hw : Cond.constant own idx v ∈ ALLW) (hd : decode cc pc = .ok (.ldc idx, 2)) (k : XG ω rm nL κ L q h cells slots (pc + 2) lv (.int v :: rest)) : XG ω rm nL κ L q h cells slots pc lv rest := by
  obtain ⟨l, D, E, b, ζ⟩ := ω
  obtain ⟨p, e, s, m, args, below, meth, c, Q, A⟩ := κ
  intro H locs la hP hX hA hS hl
  exact lv_ldc X.1 X.2.1 X.2.2.2.1 (X.2.2.2.2.1 _ hw) hd (k H locs la hP hX hA hS hl)
theorem x_ldc2 {ω : XO} {rm : Room} {nL : Nat} {κ : XK} {cc : ByteArray} {own : String} (X : XC ω rm nL κ cc own) {L : List Nat} {q : Nat → Nat} {h : hp} {cells slots pc : Nat} {lv : List (Nat × Value)} {rest : List Value} {idx : Nat} {v : Int64} (hw : Cond.constantLong own idx v ∈ ALLW) (hd : decode cc pc = .ok (.ldc2_w idx, 3)) (k : XG ω rm nL κ L q h cells slots (pc + 3) lv (.long v :: rest)) : XG ω rm nL κ L q h cells slots pc lv rest := by
  obtain ⟨l, D, E, b, ζ⟩ := ω
  obtain ⟨p, e, s, m, args, below, meth, c, Q, A⟩ := κ
  intro H locs la hP hX hA hS hl
  exact lv_ldc2 X.1 X.2.1 X.2.2.2.1 (X.2.2.2.2.1 _ hw) hd (k H locs la hP hX hA hS hl)
-- switches
theorem x_lsw {ω : XO} {rm : Room} {nL : Nat} {κ : XK} {cc : ByteArray} {own : String} (X : XC ω rm nL κ cc own) {L : List Nat} {q : Nat → Nat} {h : hp} {cells slots pc : Nat} {lv : List (Nat × Value)} {rest : List Value} {dflt : Int} {ps : Array (Int × Int)} {len : Nat} {x : Int32} {off : Int} (tgt : Nat) (hd : decode cc pc = .ok (.lookupswitch dflt ps, len)) (hp0 : (ps.toList.zip (ps.toList.drop 1)).all (fun (a, next) => a.1 < next.1) = true) (ho : Op.lookupswitch.offset ps.toList dflt x.toInt = off) (ht : (pc : Int) + off = (tgt : Int)) (k : XG ω rm nL κ L q h cells slots tgt lv rest) : XG ω rm nL κ L q h cells slots pc lv (.int x :: rest) := by
  obtain ⟨l, D, E, b, ζ⟩ := ω
  obtain ⟨p, e, s, m, args, below, meth, c, Q, A⟩ := κ
  intro H locs la hP hX hA hS hl
  exact lv_lookup X.1 X.2.1 hd hp0 ho ht (k H locs la hP hX hA hS hl)
theorem x_tswO {ω : XO} {rm : Room} {nL : Nat} {κ : XK} {cc : ByteArray} {own : String} (X : XC ω rm nL κ cc own) {L : List Nat} {q : Nat → Nat} {h : hp} {cells slots pc : Nat} {lv : List (Nat × Value)} {rest : List Value} {dflt lo hi : Int} {offs : Array Int} {len : Nat} {x : Int32} (tgt : Nat) (hd : decode cc pc = .ok (.tableswitch dflt lo hi offs, len)) (h0 : x.toInt < lo ∨ hi < x.toInt) (ht : (pc : Int) + dflt = (tgt : Int)) (k : XG ω rm nL κ L q h cells slots tgt lv rest) : XG ω rm nL κ L q h cells slots pc lv (.int x :: rest) := by
  obtain ⟨l, D, E, b, ζ⟩ := ω
  obtain ⟨p, e, s, m, args, below, meth, c, Q, A⟩ := κ
  intro H locs la hP hX hA hS hl
  exact lv_tableOut X.1 X.2.1 hd h0 ht (k H locs la hP hX hA hS hl)
theorem x_tswI {ω : XO} {rm : Room} {nL : Nat} {κ : XK} {cc : ByteArray} {own : String} (X : XC ω rm nL κ cc own) {L : List Nat} {q : Nat → Nat} {h : hp} {cells slots pc : Nat} {lv : List (Nat × Value)} {rest : List Value} {dflt lo hi : Int} {offs : Array Int} {len : Nat} {x y : Int32} {off : Int} (tgt : Nat) (hd : decode cc pc = .ok (.tableswitch dflt lo hi offs, len)) (hxy : x = y) (h1 : ¬ y.toInt < lo) (h2 : ¬ hi < y.toInt) (ho : offs[(y.toInt - lo).toNat]? = some off) (ht : (pc : Int) + off = (tgt : Int)) (k : XG ω rm nL κ L q h cells slots tgt lv rest) : XG ω rm nL κ L q h cells slots pc lv (.int x :: rest) := by
  obtain ⟨l, D, E, b, ζ⟩ := ω
  obtain ⟨p, e, s, m, args, below, meth, c, Q, A⟩ := κ
  subst hxy
  intro H locs la hP hX hA hS hl
  exact lv_tableIn X.1 X.2.1 hd h1 h2 ho ht (k H locs la hP hX hA hS hl)
-- ===== fields =====
/-- a field, as the class 'own' names it: the class of the list's place ci, the field's place k -/
def FL (own : String) (idx ci k : Nat) (rf : String) (C : String) (T : u_T) (N : Nat) : Prop := ci < 19 ∧ vwCl[ci]? = some (C, T, N) ∧ k < N ∧ (∀ w ∈ u_ws C T N, w ∈ ALLW) ∧ Cond.fieldLink own idx rf (T k).2.1 (T k).2.2.1 ∈ ALLW ∧ ((T k).1 = rf ∨ Cond.sameField rf (T k).1 (T k).2.1 (T k).2.2.1 ∈ ALLW)
theorem fl_same {own : String} {idx ci k : Nat} {rf C : String} {T : u_T} {N : Nat} (F : FL own idx ci k rf C T N) {args : Array Value} {s : State} (hts : ∀ w ∈ ALLW, w.before args s = true) : ∀ x, s.fieldFound? (T k).1 (T k).2.1 (T k).2.2.1 = some x → s.fieldFound? rf (T k).2.1 (T k).2.2.1 = some x := by
  intro x hx
  rcases F.2.2.2.2.2 with h | h
  · rw [← h]; exact hx
  · exact u_same (hts _ h) x hx
theorem x_getv {ω : XO} {rm : Room} {nL : Nat} {κ : XK} {cc : ByteArray} {own : String} (X : XC ω rm nL κ cc own) {L : List Nat} {q : Nat → Nat} {h : hp} {cells slots pc : Nat} {lv : List (Nat × Value)} {rest : List Value} {i k ci idx fd : Nat} {rf C : String} {T : u_T} {N : Nat} {v : Value} (F : FL own idx ci k rf C T N) (hs : sd ω.2.2.2.1 i = true) (hk : kdOf h i = ci + 1) (hf : (ktF ci)[k]? = some fd) (hv : fvl q h i k fd = v) (hd : decode cc pc = .ok (.getfield idx, 3)) (kk : XG ω rm nL κ L q h cells slots (pc + 3) lv (v :: rest)) : XG ω rm nL κ L q h cells slots pc lv (.ref (q i) :: rest) := by
  obtain ⟨l, D, E, b, ζ⟩ := ω
  obtain ⟨p, e, s, m, args, below, meth, c, Q, A⟩ := κ
  obtain ⟨f1, f2, f3, f4, f5, f6⟩ := F
  intro H locs la hP hX hA hS hl
  have hi : i ∈ L := hX.2.2.1 i hs (by rw [hk]; omega)
  obtain ⟨n, -, hn⟩ := XL_at (E := E) (q := q) (h := h) hi
  rw [cellX_obj hk f1] at hn
  exact va_get X.1 X.2.1 X.2.2.2.2.1 f4 X.2.2.2.1 X.2.2.2.2.2.1 hP n hn f2 k f3 (X.2.2.2.2.1 _ f5) (fl_same ⟨f1, f2, f3, f4, f5, f6⟩ X.2.2.2.2.1) ((fvs_get hf).trans (congrArg some hv)) hd (kk H locs la hP hX hA hS hl)
theorem x_geti {ω : XO} {rm : Room} {nL : Nat} {κ : XK} {cc : ByteArray} {own : String} (X : XC ω rm nL κ cc own) {L : List Nat} {q : Nat → Nat} {h : hp} {cells slots pc : Nat} {lv : List (Nat × Value)} {rest : List Value} {i k ci idx : Nat} {rf C : String} {T : u_T} {N : Nat} (F : FL own idx ci k rf C T N) (hs : sd ω.2.2.2.1 i = true) (hk : kdOf h i = ci + 1) (hf : (ktF ci)[k]? = some 0) (hd : decode cc pc = .ok (.getfield idx, 3)) (kk : XG ω rm nL κ L q h cells slots (pc + 3) lv (.int (hI h i k) :: rest)) : XG ω rm nL κ L q h cells slots pc lv (.ref (q i) :: rest) := x_getv X F hs hk hf rfl hd kk
theorem x_gets {ω : XO} {rm : Room} {nL : Nat} {κ : XK} {cc : ByteArray} {own : String} (X : XC ω rm nL κ cc own) {L : List Nat} {q : Nat → Nat} {h : hp} {cells slots pc : Nat} {lv : List (Nat × Value)} {rest : List Value} {i k ci idx : Nat} {rf C : String} {T : u_T} {N : Nat} (n : Nat) (F : FL own idx ci k rf C T N) (hs : sd ω.2.2.2.1 i = true) (hk : kdOf h i = ci + 1) (hf : (ktF ci)[k]? = some (n + 2)) (hd : decode cc pc = .ok (.getfield idx, 3)) (kk : XG ω rm nL κ L q h cells slots (pc + 3) lv (.ref (q (i + n)) :: rest)) : XG ω rm nL κ L q h cells slots pc lv (.ref (q i) :: rest) := x_getv X F hs hk hf rfl hd kk
theorem x_getr {ω : XO} {rm : Room} {nL : Nat} {κ : XK} {cc : ByteArray} {own : String} (X : XC ω rm nL κ cc own) {L : List Nat} {q : Nat → Nat} {h : hp} {cells slots pc : Nat} {lv : List (Nat × Value)} {rest : List Value} {i k ci idx : Nat} {rf C : String} {T : u_T} {N : Nat} (F : FL own idx ci k rf C T N) (hs : sd ω.2.2.2.1 i = true) (hk : kdOf h i = ci + 1) (hf : (ktF ci)[k]? = some 1) (hd : decode cc pc = .ok (.getfield idx, 3)) (kk : XG ω rm nL κ L q h cells slots (pc + 3) lv (va_rf ((hR h i k).map q) :: rest)) : XG ω rm nL κ L q h cells slots pc lv (.ref (q i) :: rest) := x_getv X F hs hk hf rfl hd kk
/-- what a write wants to know of a class's fields -/
def FW (C : String) (T : u_T) (N : Nat) (ty0 : Nat → FieldType) : Prop := (∀ k, k < N → parseFieldDescriptor (T k).2.2.1 = some (ty0 k)) ∧ ∀ a, a < N → ∀ b, b < N → a ≠ b → (T a).2.1 ≠ (T b).2.1
theorem x_putv {ω : XO} {rm : Room} {nL : Nat} {κ : XK} {cc : ByteArray} {own : String} (X : XC ω rm nL κ cc own) {L : List Nat} {q : Nat → Nat} {h h' : hp} {cells slots pc : Nat} {lv : List (Nat × Value)} {rest : List Value} {i k ci idx fd : Nat} {rf C : String} {T : u_T} {N : Nat} {v : Value} {ty0 : Nat → FieldType} (F : FL own idx ci k rf C T N) (P : FW C T N ty0) (hs : sd ω.2.2.2.1 i = true) (hk : kdOf h i = ci + 1) (hf : (ktF ci)[k]? = some fd) (hfin : (T k).2.2.2 = false) (hn : narrow (ty0 k) v = v) (hfit : fits (ty0 k) v = true) (hXD : XD ω.2.2.2.1 L q h → XD ω.2.2.2.1 L q h') (he : ∀ E, cellX E q h' i = .inr (ci, (fvs q h i (ktF ci)).set k v)) (ho : ∀ E, ∀ j, j ≠ i → cellX E q h' j = cellX E q h j) (hd : decode cc pc = .ok (.putfield idx, 3)) (kk : XG ω rm nL κ L q h' cells slots (pc + 3) lv rest) : XG ω rm nL κ L q h cells slots pc lv (v :: .ref (q i) :: rest) := by
  obtain ⟨l, D, E, b, ζ⟩ := ω
  obtain ⟨p, e, s, m, args, below, meth, c, Q, A⟩ := κ
  obtain ⟨f1, f2, f3, f4, f5, f6⟩ := F
  intro H locs la hP hX hA hS hl
  have hi : i ∈ L := hX.2.2.1 i hs (by rw [hk]; omega)
  obtain ⟨n, hLn, hn1⟩ := XL_at (E := E) (q := q) (h := h) hi
  rw [cellX_obj hk f1] at hn1
  have hX' : XD b L q h' := hXD hX
  refine va_put X.1 X.2.1 X.2.2.2.2.1 f4 ty0 P.1 P.2 X.2.2.2.1 X.2.2.2.2.2.1 hP (XL_D hX hA) hS n hn1 f2 k f3 (X.2.2.2.2.1 _ f5) (fl_same ⟨f1, f2, f3, f4, f5, f6⟩ X.2.2.2.2.1) hfin (P.1 k f3) hn hfit (by rw [fvs_len]; exact (List.getElem?_eq_some_iff.mp hf).1) hd (fun H1 locs1 hP1 hD1 hS1 => ?_)
  rw [XL_set (h' := h') hX.1 hLn (he E) (ho E)] at hP1
  exact kk H1 locs1 la hP1 hX' hA hS1 hl
theorem x_puti {ω : XO} {rm : Room} {nL : Nat} {κ : XK} {cc : ByteArray} {own : String} (X : XC ω rm nL κ cc own) {L : List Nat} {q : Nat → Nat} {h : hp} {cells slots pc : Nat} {lv : List (Nat × Value)} {rest : List Value} {i k ci idx : Nat} {rf C : String} {T : u_T} {N : Nat} {v : Int32} {ty0 : Nat → FieldType} (F : FL own idx ci k rf C T N) (P : FW C T N ty0) (hs : sd ω.2.2.2.1 i = true) (hk : kdOf h i = ci + 1) (hf : (ktF ci)[k]? = some 0) (hfin : (T k).2.2.2 = false) (hn : narrow (ty0 k) (.int v) = .int v) (hfit : fits (ty0 k) (.int v) = true) (hd : decode cc pc = .ok (.putfield idx, 3)) (kk : XG ω rm nL κ L q (sI h i k v) cells slots (pc + 3) lv rest) : XG ω rm nL κ L q h cells slots pc lv (.int v :: .ref (q i) :: rest) := by
  refine x_putv (h' := sI h i k v) X F P hs hk hf hfin hn hfit (fun hX => hX) (fun E => ?_) (fun E j hj => cellX_sI hj) hd kk
  rw [cellX_obj (ci := ci) (show kdOf (sI h i k v) i = ci + 1 from hk) F.1]
  refine congrArg (fun z => Sum.inr (ci, z)) (fvs_set hf ?_ ?_).symm
  · simp [fvl, hI, sI, up2]
  · intro j f hj
    match f with
    | 0 => simp [fvl, hI, sI, up2, hj]
    | 1 => rfl
    | m + 2 => rfl
theorem XD_sR {b : Nat} {L : List Nat} {q : Nat → Nat} {h : hp} {i k : Nat} {o : Option Nat} (hX : XD b L q h) (ho : ∀ t, o = some t → sd b t = true ∧ kdOf h t ≠ 0) : XD b L q (sR h i k o) := by
  refine ⟨hX.1, hX.2.1, hX.2.2.1, hX.2.2.2.1, fun j hj => ⟨fun m t ht => ?_, (hX.2.2.2.2 j hj).2.1, (hX.2.2.2.2 j hj).2.2⟩⟩
  by_cases hc : j = i ∧ m = k
  · obtain ⟨rfl, rfl⟩ := hc
    have : o = some t := by simpa [hR, sR, up2] using ht
    exact hX.2.2.2.1 t (hX.2.2.1 t (ho t this).1 (ho t this).2)
  · exact (hX.2.2.2.2 j hj).1 m t (by simpa [hR, sR, up2, hc] using ht)
theorem XD_tR {b : Nat} {L : List Nat} {q : Nat → Nat} {h : hp} {i k : Nat} {o : Option Nat} (hX : XD b L q h) (ho : ∀ t, o = some t → sd b t = true ∧ kdOf h t ≠ 0) : XD b L q (tR h i k o) := by
  refine ⟨hX.1, hX.2.1, hX.2.2.1, hX.2.2.2.1, fun j hj => ⟨(hX.2.2.2.2 j hj).1, fun m t ht => ?_, (hX.2.2.2.2 j hj).2.2⟩⟩
  by_cases hc : j = i ∧ m = k
  · obtain ⟨rfl, rfl⟩ := hc
    have : o = some t := by simpa [aR, tR, up2] using ht
    exact hX.2.2.2.1 t (hX.2.2.1 t (ho t this).1 (ho t this).2)
  · exact (hX.2.2.2.2 j hj).2.1 m t (by simpa [aR, tR, up2, hc] using ht)
theorem x_putr {ω : XO} {rm : Room} {nL : Nat} {κ : XK} {cc : ByteArray} {own : String} (X : XC ω rm nL κ cc own) {L : List Nat} {q : Nat → Nat} {h : hp} {cells slots pc : Nat} {lv : List (Nat × Value)} {rest : List Value} {i k ci idx : Nat} {rf C : String} {T : u_T} {N : Nat} {o : Option Nat} {v : Value} {ty0 : Nat → FieldType} (F : FL own idx ci k rf C T N) (P : FW C T N ty0) (hs : sd ω.2.2.2.1 i = true) (hk : kdOf h i = ci + 1) (hf : (ktF ci)[k]? = some 1) (hfin : (T k).2.2.2 = false) (hlv : ∀ t, o = some t → sd ω.2.2.2.1 t = true ∧ kdOf h t ≠ 0) (hv : v = va_rf (o.map q)) (hn : narrow (ty0 k) v = v) (hfit : fits (ty0 k) v = true) (hd : decode cc pc = .ok (.putfield idx, 3)) (kk : XG ω rm nL κ L q (sR h i k o) cells slots (pc + 3) lv rest) : XG ω rm nL κ L q h cells slots pc lv (v :: .ref (q i) :: rest) := by
  refine x_putv (h' := sR h i k o) X F P hs hk hf hfin hn hfit (fun hX => XD_sR hX hlv) (fun E => ?_) (fun E j hj => cellX_sR hj) hd kk
  rw [cellX_obj (ci := ci) (show kdOf (sR h i k o) i = ci + 1 from hk) F.1]
  refine congrArg (fun z => Sum.inr (ci, z)) (fvs_set hf ?_ ?_).symm
  · rw [hv]; simp [fvl, hR, sR, up2]
  · intro j f hj
    match f with
    | 0 => rfl
    | 1 => simp [fvl, hR, sR, up2, hj]
    | m + 2 => rfl
-- ===== rows =====
theorem acn_i {q : Nat → Nat} {h : hp} {i e : Nat} (he : e < 3) : acn q h i e = .inl (aI h i) := by
  unfold acn; rw [if_neg (by omega), if_neg (by omega)]
theorem acn_l {q : Nat → Nat} {h : hp} {i : Nat} : acn q h i 3 = .inr (.inl (aL h i)) := rfl
theorem acn_r {q : Nat → Nat} {h : hp} {i e : Nat} (he : 4 ≤ e) : acn q h i e = .inr (.inr (.inr (.inr (fun j => (aR h i j).map q)))) := by
  unfold acn; rw [if_neg (by omega), if_pos he]
theorem upd_tI {h : hp} {i k : Nat} {v : Int32} : upd (aI h i) k v = aI (tI h i k v) i := by
  funext j; by_cases hj : j = k <;> simp [upd, aI, tI, up2, hj]
theorem upd_tL {h : hp} {i k : Nat} {v : Int64} : vp_updL (aL h i) k v = aL (tL h i k v) i := by
  funext j; by_cases hj : j = k <;> simp [vp_updL, aL, tL, up2, hj]
theorem upd_tR {q : Nat → Nat} {h : hp} {i k v : Nat} : va_up (fun j => (aR h i j).map q) k (some (q v)) = fun j => (aR (tR h i k (some v)) i j).map q := by
  funext j; by_cases hj : j = k <;> simp [va_up, aR, tR, up2, hj]
theorem x_alen {ω : XO} {rm : Room} {nL : Nat} {κ : XK} {cc : ByteArray} {own : String} (X : XC ω rm nL κ cc own) {L : List Nat} {q : Nat → Nat} {h : hp} {cells slots pc : Nat} {lv : List (Nat × Value)} {rest : List Value} {i n e : Nat} {v : Int32} (he : e < 6) (hs : sd ω.2.2.2.1 i = true) (hk : kdOf h i = 40 + 10 * n + e) (hv : Int32.ofNat n = v) (hd : decode cc pc = .ok (.arraylength, 1)) (kk : XG ω rm nL κ L q h cells slots (pc + 1) lv (.int v :: rest)) : XG ω rm nL κ L q h cells slots pc lv (.ref (q i) :: rest) := by
  obtain ⟨l, D, E, b, ζ⟩ := ω
  obtain ⟨p, e2, s, m, args, below, meth, c, Q, A⟩ := κ
  intro H locs la hP hX hA hS hl
  have hi : i ∈ L := hX.2.2.1 i hs (by rw [hk]; omega)
  obtain ⟨j, -, hj⟩ := XL_at (E := E) (q := q) (h := h) hi
  rw [cellX_row hk (by omega)] at hj
  obtain ⟨ty, hty⟩ : ∃ ty, (tysE E)[e]? = some (E e, ty) := by
    rcases (show e = 0 ∨ e = 1 ∨ e = 2 ∨ e = 3 ∨ e = 4 ∨ e = 5 by omega) with rfl | rfl | rfl | rfl | rfl | rfl <;> exact ⟨_, rfl⟩
  exact va_alen X.1 X.2.1 X.2.2.2.2.2.1 hP j e hj hty hv hd (kk H locs la hP hX hA hS hl)
theorem x_iald {ω : XO} {rm : Room} {nL : Nat} {κ : XK} {cc : ByteArray} {own : String} (X : XC ω rm nL κ cc own) {L : List Nat} {q : Nat → Nat} {h : hp} {cells slots pc : Nat} {lv : List (Nat × Value)} {rest : List Value} {i n : Nat} {x : Int32} (hs : sd ω.2.2.2.1 i = true) (hk : kdOf h i = 40 + 10 * n + 0) (hin : vp_in x n) (hd : decode cc pc = .ok (.iaload, 1)) (kk : XG ω rm nL κ L q h cells slots (pc + 1) lv (.int (aI h i x.toNatClampNeg) :: rest)) : XG ω rm nL κ L q h cells slots pc lv (.int x :: .ref (q i) :: rest) := by
  obtain ⟨l, D, E, b, ζ⟩ := ω
  obtain ⟨p, e2, s, m, args, below, meth, c, Q, A⟩ := κ
  intro H locs la hP hX hA hS hl
  have hi : i ∈ L := hX.2.2.1 i hs (by rw [hk]; omega)
  obtain ⟨j, hLj, hj⟩ := XL_at (E := E) (q := q) (h := h) hi
  rw [cellX_row hk (by omega), acn_i (by omega)] at hj
  exact va_iald X.1 X.2.1 X.2.2.2.2.2.1 hP j 0 hj rfl hin hd (kk H locs la hP hX hA hS hl)
theorem x_bald {ω : XO} {rm : Room} {nL : Nat} {κ : XK} {cc : ByteArray} {own : String} (X : XC ω rm nL κ cc own) {L : List Nat} {q : Nat → Nat} {h : hp} {cells slots pc : Nat} {lv : List (Nat × Value)} {rest : List Value} {i n : Nat} {x : Int32} (hs : sd ω.2.2.2.1 i = true) (hk : kdOf h i = 40 + 10 * n + 1) (hin : vp_in x n) (hd : decode cc pc = .ok (.baload, 1)) (kk : XG ω rm nL κ L q h cells slots (pc + 1) lv (.int (aI h i x.toNatClampNeg) :: rest)) : XG ω rm nL κ L q h cells slots pc lv (.int x :: .ref (q i) :: rest) := by
  obtain ⟨l, D, E, b, ζ⟩ := ω
  obtain ⟨p, e2, s, m, args, below, meth, c, Q, A⟩ := κ
  intro H locs la hP hX hA hS hl
  have hi : i ∈ L := hX.2.2.1 i hs (by rw [hk]; omega)
  obtain ⟨j, hLj, hj⟩ := XL_at (E := E) (q := q) (h := h) hi
  rw [cellX_row hk (by omega), acn_i (by omega)] at hj
  exact va_bald X.1 X.2.1 X.2.2.2.2.2.1 hP j 1 hj rfl hin hd (kk H locs la hP hX hA hS hl)
theorem x_zald {ω : XO} {rm : Room} {nL : Nat} {κ : XK} {cc : ByteArray} {own : String} (X : XC ω rm nL κ cc own) {L : List Nat} {q : Nat → Nat} {h : hp} {cells slots pc : Nat} {lv : List (Nat × Value)} {rest : List Value} {i n : Nat} {x : Int32} (hs : sd ω.2.2.2.1 i = true) (hk : kdOf h i = 40 + 10 * n + 2) (hin : vp_in x n) (hd : decode cc pc = .ok (.baload, 1)) (kk : XG ω rm nL κ L q h cells slots (pc + 1) lv (.int (aI h i x.toNatClampNeg) :: rest)) : XG ω rm nL κ L q h cells slots pc lv (.int x :: .ref (q i) :: rest) := by
  obtain ⟨l, D, E, b, ζ⟩ := ω
  obtain ⟨p, e2, s, m, args, below, meth, c, Q, A⟩ := κ
  intro H locs la hP hX hA hS hl
  have hi : i ∈ L := hX.2.2.1 i hs (by rw [hk]; omega)
  obtain ⟨j, hLj, hj⟩ := XL_at (E := E) (q := q) (h := h) hi
  rw [cellX_row hk (by omega), acn_i (by omega)] at hj
  exact va_zald X.1 X.2.1 X.2.2.2.2.2.1 hP j 2 hj rfl hin hd (kk H locs la hP hX hA hS hl)
theorem x_lald {ω : XO} {rm : Room} {nL : Nat} {κ : XK} {cc : ByteArray} {own : String} (X : XC ω rm nL κ cc own) {L : List Nat} {q : Nat → Nat} {h : hp} {cells slots pc : Nat} {lv : List (Nat × Value)} {rest : List Value} {i n : Nat} {x : Int32} (hs : sd ω.2.2.2.1 i = true) (hk : kdOf h i = 40 + 10 * n + 3) (hin : vp_in x n) (hd : decode cc pc = .ok (.laload, 1)) (kk : XG ω rm nL κ L q h cells slots (pc + 1) lv (.long (aL h i x.toNatClampNeg) :: rest)) : XG ω rm nL κ L q h cells slots pc lv (.int x :: .ref (q i) :: rest) := by
  obtain ⟨l, D, E, b, ζ⟩ := ω
  obtain ⟨p, e2, s, m, args, below, meth, c, Q, A⟩ := κ
  intro H locs la hP hX hA hS hl
  have hi : i ∈ L := hX.2.2.1 i hs (by rw [hk]; omega)
  obtain ⟨j, hLj, hj⟩ := XL_at (E := E) (q := q) (h := h) hi
  rw [cellX_row hk (by omega), acn_l] at hj
  exact va_lald X.1 X.2.1 X.2.2.2.2.2.1 hP j 3 hj rfl hin hd (kk H locs la hP hX hA hS hl)
theorem x_iast {ω : XO} {rm : Room} {nL : Nat} {κ : XK} {cc : ByteArray} {own : String} (X : XC ω rm nL κ cc own) {L : List Nat} {q : Nat → Nat} {h : hp} {cells slots pc : Nat} {lv : List (Nat × Value)} {rest : List Value} {i n : Nat} {x : Int32} {v : Int32} (hs : sd ω.2.2.2.1 i = true) (hk : kdOf h i = 40 + 10 * n + 0) (hin : vp_in x n) (hd : decode cc pc = .ok (.iastore, 1)) (kk : XG ω rm nL κ L q (tI h i x.toNatClampNeg v) cells slots (pc + 1) lv (rest)) : XG ω rm nL κ L q h cells slots pc lv (.int v :: .int x :: .ref (q i) :: rest) := by
  obtain ⟨l, D, E, b, ζ⟩ := ω
  obtain ⟨p, e2, s, m, args, below, meth, c, Q, A⟩ := κ
  intro H locs la hP hX hA hS hl
  have hi : i ∈ L := hX.2.2.1 i hs (by rw [hk]; omega)
  obtain ⟨j, hLj, hj⟩ := XL_at (E := E) (q := q) (h := h) hi
  rw [cellX_row hk (by omega), acn_i (by omega)] at hj
  refine va_iast X.1 X.2.1 X.2.2.2.2.2.1 hP (XL_D hX hA) hS j 0 hj rfl hin hd (fun H1 locs1 hP1 hD1 hS1 => ?_)
  rw [upd_tI, XL_set (h' := (tI h i x.toNatClampNeg v)) hX.1 hLj (by rw [cellX_row (show kdOf (tI h i x.toNatClampNeg v) i = _ from hk) (by omega), acn_i (by omega)]) (fun j hj => cellX_tI hj)] at hP1
  exact kk H1 locs1 la hP1 hX hA hS1 hl
theorem x_bast {ω : XO} {rm : Room} {nL : Nat} {κ : XK} {cc : ByteArray} {own : String} (X : XC ω rm nL κ cc own) {L : List Nat} {q : Nat → Nat} {h : hp} {cells slots pc : Nat} {lv : List (Nat × Value)} {rest : List Value} {i n : Nat} {x : Int32} {v : Int32} (hs : sd ω.2.2.2.1 i = true) (hk : kdOf h i = 40 + 10 * n + 1) (hin : vp_in x n) (hd : decode cc pc = .ok (.bastore, 1)) (kk : XG ω rm nL κ L q (tI h i x.toNatClampNeg (vp_nar .byte v)) cells slots (pc + 1) lv (rest)) : XG ω rm nL κ L q h cells slots pc lv (.int v :: .int x :: .ref (q i) :: rest) := by
  obtain ⟨l, D, E, b, ζ⟩ := ω
  obtain ⟨p, e2, s, m, args, below, meth, c, Q, A⟩ := κ
  intro H locs la hP hX hA hS hl
  have hi : i ∈ L := hX.2.2.1 i hs (by rw [hk]; omega)
  obtain ⟨j, hLj, hj⟩ := XL_at (E := E) (q := q) (h := h) hi
  rw [cellX_row hk (by omega), acn_i (by omega)] at hj
  refine va_bast X.1 X.2.1 X.2.2.2.2.2.1 hP (XL_D hX hA) hS j 1 hj rfl hin hd (fun H1 locs1 hP1 hD1 hS1 => ?_)
  rw [upd_tI, XL_set (h' := (tI h i x.toNatClampNeg (vp_nar .byte v))) hX.1 hLj (by rw [cellX_row (show kdOf (tI h i x.toNatClampNeg (vp_nar .byte v)) i = _ from hk) (by omega), acn_i (by omega)]) (fun j hj => cellX_tI hj)] at hP1
  exact kk H1 locs1 la hP1 hX hA hS1 hl
theorem x_zast {ω : XO} {rm : Room} {nL : Nat} {κ : XK} {cc : ByteArray} {own : String} (X : XC ω rm nL κ cc own) {L : List Nat} {q : Nat → Nat} {h : hp} {cells slots pc : Nat} {lv : List (Nat × Value)} {rest : List Value} {i n : Nat} {x : Int32} {v : Int32} (hs : sd ω.2.2.2.1 i = true) (hk : kdOf h i = 40 + 10 * n + 2) (hin : vp_in x n) (hd : decode cc pc = .ok (.bastore, 1)) (kk : XG ω rm nL κ L q (tI h i x.toNatClampNeg (vp_nar .boolean v)) cells slots (pc + 1) lv (rest)) : XG ω rm nL κ L q h cells slots pc lv (.int v :: .int x :: .ref (q i) :: rest) := by
  obtain ⟨l, D, E, b, ζ⟩ := ω
  obtain ⟨p, e2, s, m, args, below, meth, c, Q, A⟩ := κ
  intro H locs la hP hX hA hS hl
  have hi : i ∈ L := hX.2.2.1 i hs (by rw [hk]; omega)
  obtain ⟨j, hLj, hj⟩ := XL_at (E := E) (q := q) (h := h) hi
  rw [cellX_row hk (by omega), acn_i (by omega)] at hj
  refine va_zast X.1 X.2.1 X.2.2.2.2.2.1 hP (XL_D hX hA) hS j 2 hj rfl hin hd (fun H1 locs1 hP1 hD1 hS1 => ?_)
  rw [upd_tI, XL_set (h' := (tI h i x.toNatClampNeg (vp_nar .boolean v))) hX.1 hLj (by rw [cellX_row (show kdOf (tI h i x.toNatClampNeg (vp_nar .boolean v)) i = _ from hk) (by omega), acn_i (by omega)]) (fun j hj => cellX_tI hj)] at hP1
  exact kk H1 locs1 la hP1 hX hA hS1 hl
theorem x_last {ω : XO} {rm : Room} {nL : Nat} {κ : XK} {cc : ByteArray} {own : String} (X : XC ω rm nL κ cc own) {L : List Nat} {q : Nat → Nat} {h : hp} {cells slots pc : Nat} {lv : List (Nat × Value)} {rest : List Value} {i n : Nat} {x : Int32} {v : Int64} (hs : sd ω.2.2.2.1 i = true) (hk : kdOf h i = 40 + 10 * n + 3) (hin : vp_in x n) (hd : decode cc pc = .ok (.lastore, 1)) (kk : XG ω rm nL κ L q (tL h i x.toNatClampNeg v) cells slots (pc + 1) lv (rest)) : XG ω rm nL κ L q h cells slots pc lv (.long v :: .int x :: .ref (q i) :: rest) := by
  obtain ⟨l, D, E, b, ζ⟩ := ω
  obtain ⟨p, e2, s, m, args, below, meth, c, Q, A⟩ := κ
  intro H locs la hP hX hA hS hl
  have hi : i ∈ L := hX.2.2.1 i hs (by rw [hk]; omega)
  obtain ⟨j, hLj, hj⟩ := XL_at (E := E) (q := q) (h := h) hi
  rw [cellX_row hk (by omega), acn_l] at hj
  refine va_last X.1 X.2.1 X.2.2.2.2.2.1 hP (XL_D hX hA) hS j 3 hj rfl hin hd (fun H1 locs1 hP1 hD1 hS1 => ?_)
  rw [upd_tL, XL_set (h' := (tL h i x.toNatClampNeg v)) hX.1 hLj (by rw [cellX_row (show kdOf (tL h i x.toNatClampNeg v) i = _ from hk) (by omega), acn_l]) (fun j hj => cellX_tL hj)] at hP1
  exact kk H1 locs1 la hP1 hX hA hS1 hl
theorem x_aald {ω : XO} {rm : Room} {nL : Nat} {κ : XK} {cc : ByteArray} {own : String} (X : XC ω rm nL κ cc own) {L : List Nat} {q : Nat → Nat} {h : hp} {cells slots pc : Nat} {lv : List (Nat × Value)} {rest : List Value} {i n e : Nat} {x : Int32} (he : e = 4 ∨ e = 5) (hs : sd ω.2.2.2.1 i = true) (hk : kdOf h i = 40 + 10 * n + e) (hin : vp_in x n) (hd : decode cc pc = .ok (.aaload, 1)) (kk : XG ω rm nL κ L q h cells slots (pc + 1) lv (va_rf ((aR h i x.toNatClampNeg).map q) :: rest)) : XG ω rm nL κ L q h cells slots pc lv (.int x :: .ref (q i) :: rest) := by
  obtain ⟨l, D, E, b, ζ⟩ := ω
  obtain ⟨p, e2, s, m, args, below, meth, c, Q, A⟩ := κ
  intro H locs la hP hX hA hS hl
  have hi : i ∈ L := hX.2.2.1 i hs (by rw [hk]; omega)
  obtain ⟨j, -, hj⟩ := XL_at (E := E) (q := q) (h := h) hi
  rw [cellX_row hk (by omega), acn_r (by omega)] at hj
  rcases he with rfl | rfl
  · exact va_aldq X.1 X.2.1 X.2.2.2.2.2.1 hP j 4 hj rfl hin hd (kk H locs la hP hX hA hS hl)
  · exact va_aldq X.1 X.2.1 X.2.2.2.2.2.1 hP j 5 hj rfl hin hd (kk H locs la hP hX hA hS hl)
-- ===== calls =====
/-- what a call of a method asks of the tables -/
def MT (y : MethodName) (cc : ByteArray) (nL : Nat) (rt : Option FieldType) (C : String) (np : Nat) : Prop := Cond.instanceMethod y ∈ ALLW ∧ Cond.selects C y y ∈ ALLW ∧ Cond.initialized C ∈ ALLW ∧ Cond.code y cc nL rt ∈ ALLW ∧ (y.cls = C ∧ y.cls ≠ "java/lang/invoke/MethodHandle" ∧ y.cls ≠ "java/lang/invoke/VarHandle" ∧ (parseMethodDescriptor y.desc).map (fun d => d.parameters.length) = some np)
def MS (y : MethodName) (cc : ByteArray) (nL : Nat) (rt : Option FieldType) (np : Nat) : Prop := Cond.static y ∈ ALLW ∧ Cond.initialized y.cls ∈ ALLW ∧ Cond.code y cc nL rt ∈ ALLW ∧ (y.cls ≠ "java/lang/invoke/MethodHandle" ∧ y.cls ≠ "java/lang/invoke/VarHandle" ∧ (parseMethodDescriptor y.desc).map (fun d => d.parameters.length) = some np)
theorem xb_blind {ω : XO} {L : List Nat} {q : Nat → Nat} {h : hp} {sz : Nat} {as : List Value} : FrameBlind (va_Pc as (XB ω L q h sz)) := by
  obtain ⟨l, D, E, b, ζ⟩ := ω
  intro a U g mk hh
  obtain ⟨q0, q1, qP, qK, qD, qz⟩ := hh
  exact ⟨q0, q1, qP, va_K.moved (u := U) (U := U.calling g mk a) (Vm.Alike.refl U.vm) qK, qD, xz_same (u := U) (U := U.calling g mk a) rfl rfl qz⟩
theorem xb_pre {ω : XO} {rm : Room} {nL : Nat} {κ : XK} {cc : ByteArray} {own : String} (X : XC ω rm nL κ cc own) {L : List Nat} {q : Nat → Nat} {h : hp} {as : List Value} {H : Heap} {locs : List Loc} {U : State} (hP : va_P ω.2.1 vwCl (XL ω.2.2.1 L q h) H) (hX : XD ω.2.2.2.1 L q h) (hA : ∀ i ∈ L, κ.2.2.2.2.2.2.2.2.2 (q i)) (hS : va_S κ.2.2.2.2.2.2.2.2.2 κ.2.2.1.heap H locs) (hU : U.heap = H) (hW : κ.2.2.1.WarmedH U.vm) : va_Pc as (XB ω L q h H.size) as.toArray U := by
  obtain ⟨l, D, E, b, ζ⟩ := ω
  obtain ⟨p, e, s, m, args, below, meth, c, Q, A⟩ := κ
  obtain ⟨-, -, -, -, -, hK, -, hA0, hz⟩ := X
  subst hU
  refine ⟨rfl, rfl, hP, va_K.moved hW.alike hK, hX, xz_to hz hW hS (fun a ha => ?_)⟩
  rcases ha with ⟨i, hi, rfl⟩ | ha
  · exact hA i hi
  · exact hA0 a (Nat.le_trans hS.1 ha)
theorem xg_call {ω : XO} {rm : Room} {nL : Nat} {κ : XK} {cc : ByteArray} {own : String} (X : XC ω rm nL κ cc own) {L : List Nat} {q : Nat → Nat} {h h' : hp} {cells slots pc : Nat} {lv : List (Nat × Value)} {rest st : List Value} {v : Option Value} {a : Array Value} {rm2 : Room} (h0 : rm2.cells = 0 ∧ rm2.slots = 0)
    (hrun : ∀ (H : Heap) (locs : List Loc) (la : Array Slot), va_P ω.2.1 vwCl (XL ω.2.2.1 L q h) H → XD ω.2.2.2.1 L q h → (∀ i ∈ L, κ.2.2.2.2.2.2.2.2.2 (q i)) → va_S κ.2.2.2.2.2.2.2.2.2 κ.2.2.1.heap H locs → lv_has la nL lv → va_Run κ.1 ω.1 κ.2.1 rm κ.2.2.1 κ.2.2.2.1 κ.2.2.2.2.1 κ.2.2.2.2.2.1 κ.2.2.2.2.2.2.1 κ.2.2.2.2.2.2.2.1 H locs cells slots rm2.cells rm2.slots (F0 κ.2.2.2.1 pc la st) rest (XQ ω L q h' v H.size a) (XA L q H.size))
    (kk : XG ω rm nL κ L q h' cells slots (pc + 3) lv (v.toList ++ rest)) : XG ω rm nL κ L q h cells slots pc lv st := by
  obtain ⟨l, D, E, b, ζ⟩ := ω
  obtain ⟨p, e, s, m, args, below, meth, c, Q, A⟩ := κ
  obtain ⟨-, -, -, -, -, -, -, hA0, -⟩ := X
  intro H locs la hP hX hA hS hl
  intro T hT XS
  obtain ⟨v', st₀, t, T', L2, g0, X', hL, e1, e2, ⟨⟨hv, hP1, hX1⟩, hz, hk⟩, stp⟩ := hrun H locs la hP hX hA hS hl T hT XS
  cases hv
  rw [g0] at hz hk
  rw [h0.1, h0.2] at X'
  have hsub : ∀ a, XA L q H.size a → A a := fun a ha => by
    rcases ha with ⟨i, hi, rfl⟩ | ha
    · exact hA i hi
    · exact hA0 a (Nat.le_trans hS.1 ha)
  obtain ⟨t2, a1, b1⟩ := kk T'.heap (locs ++ L2) la (by rw [e1]; exact hP1) hX1 hA
    ⟨Nat.le_trans hS.1 (by rw [e1]; exact hz), fun a h1 h2 => by rw [e1, hk a (Nat.lt_of_lt_of_le h1 hS.1) (fun z => h2 (hsub a z))]; exact hS.2.1 a h1 h2, fun x hx => by
      rcases List.mem_append.mp hx with h | h
      · exact hS.2.2 x h
      · exact hsub _ (hL x h)⟩ hl T' rfl X'
  exact ⟨t2, stp t2 a1, b1⟩
theorem x_callV {ω : XO} {rm : Room} {nL : Nat} {κ : XK} {cc : ByteArray} {own : String} (X : XC ω rm nL κ cc own) {L : List Nat} {q : Nat → Nat} {h h' : hp} {cells slots pc : Nat} {lv : List (Nat × Value)} {st : List Value} {v : Option Value} {y : MethodName} {bytes : ByteArray} {maxL idx i ci : Nat} {rt : Option FieldType} {rm2 : Room} {C : String} {T : u_T} {N : Nat} (As rest : List Value)
    (hM : XM ω y bytes maxL rt rm2 L q h (.ref (q i) :: As) v h') (hT : MT y bytes maxL rt C As.length) (hl0 : Cond.methodLink own idx y ∈ ALLW) (hR : rm2.frames + 1 ≤ rm.frames ∧ 8 + (maxL + 11) + rm2.locals ≤ rm.locals) (h0 : rm2.cells = 0 ∧ rm2.slots = 0) (hcs : cells ≤ rm.cells ∧ slots ≤ rm.slots)
    (hs : sd ω.2.2.2.1 i = true) (hk : kdOf h i = ci + 1) (hci : ci < 19) (hc : vwCl[ci]? = some (C, T, N)) (hst : st = As.reverse ++ .ref (q i) :: rest) (hroom : (rest.map fun v => v.category).sum ≤ 8) (hd : decode cc pc = .ok (.invokevirtual idx, 3))
    (kk : XG ω rm nL κ L q h' cells slots (pc + 3) lv (v.toList ++ rest)) : XG ω rm nL κ L q h cells slots pc lv st := by
  refine xg_call (a := (Value.ref (q i) :: As).toArray) X h0 (fun H locs la hP hX hA hS hl => ?_) kk
  have X2 := X
  have hpre := fun (U : State) (hU : U.heap = H) hW => xb_pre X (as := .ref (q i) :: As) hP hX hA hS hU hW
  obtain ⟨l, D, E, b, ζ⟩ := ω
  obtain ⟨p, e, s, m, args, below, meth, c, Q, A⟩ := κ
  obtain ⟨hx, hb, hml, hown, hts, hK, hlocks, hA0, hz⟩ := X2
  have hi : i ∈ L := hX.2.2.1 i hs (by rw [hk]; omega)
  obtain ⟨n, -, hn⟩ := XL_at (E := E) (q := q) (h := h) hi
  rw [cellX_obj hk hci] at hn
  obtain ⟨m1, m2, m3, m4, m5⟩ := hT
  have hG : GoodIn ALLW (wsV own idx C y (wA y bytes maxL rt)) := goodA m4 (by
    intro w hw
    simp only [List.mem_cons, List.not_mem_nil, or_false] at hw
    rcases hw with rfl | rfl | rfl | rfl <;> assumption)
  exact va_runV (As := As) (rest := rest) ⟨hx, hb, hml, hown, hts⟩ (hM H.size) (cwV As.length hts hG rfl rfl rfl m5 hR) ⟨xb_blind, va_recv hK hP hc hn, hpre⟩ rfl rfl hl.1 hst (lv_room hroom) hd ⟨by rw [h0.1]; exact hcs.1, by rw [h0.2]; exact hcs.2⟩
theorem x_callS {ω : XO} {rm : Room} {nL : Nat} {κ : XK} {cc : ByteArray} {own : String} (X : XC ω rm nL κ cc own) {L : List Nat} {q : Nat → Nat} {h h' : hp} {cells slots pc : Nat} {lv : List (Nat × Value)} {st : List Value} {v : Option Value} {y : MethodName} {bytes : ByteArray} {maxL idx : Nat} {rt : Option FieldType} {rm2 : Room} (As rest : List Value)
    (hM : XM ω y bytes maxL rt rm2 L q h As v h') (hT : MS y bytes maxL rt As.length) (hl0 : Cond.methodLink own idx y ∈ ALLW) (hR : rm2.frames + 1 ≤ rm.frames ∧ 8 + (maxL + 11) + rm2.locals ≤ rm.locals) (h0 : rm2.cells = 0 ∧ rm2.slots = 0) (hcs : cells ≤ rm.cells ∧ slots ≤ rm.slots)
    (hst : st = As.reverse ++ rest) (hroom : (rest.map fun v => v.category).sum ≤ 8) (hd : decode cc pc = .ok (.invokestatic idx, 3))
    (kk : XG ω rm nL κ L q h' cells slots (pc + 3) lv (v.toList ++ rest)) : XG ω rm nL κ L q h cells slots pc lv st := by
  refine xg_call (a := As.toArray) X h0 (fun H locs la hP hX hA hS hl => ?_) kk
  have X2 := X
  have hpre := fun (U : State) (hU : U.heap = H) hW => xb_pre X (as := As) hP hX hA hS hU hW
  obtain ⟨l, D, E, b, ζ⟩ := ω
  obtain ⟨p, e, s, m, args, below, meth, c, Q, A⟩ := κ
  obtain ⟨hx, hb, hml, hown, hts, hK, hlocks, hA0, hz⟩ := X2
  obtain ⟨m2, m3, m4, m5⟩ := hT
  have hG : GoodIn ALLW (va_wsS own idx y (wA y bytes maxL rt)) := goodA m4 (by
    intro w hw
    simp only [List.mem_cons, List.not_mem_nil, or_false] at hw
    rcases hw with rfl | rfl | rfl <;> assumption)
  exact va_runS (As := As) (rest := rest) ⟨hx, hb, hml, hown, hts⟩ (hM H.size) (va_cwS As.length hts hG rfl rfl rfl m5 hR) ⟨xb_blind, hpre⟩ rfl rfl hl.1 hst (lv_room hroom) hd ⟨by rw [h0.1]; exact hcs.1, by rw [h0.2]; exact hcs.2⟩
-- ===== references that may be null =====
theorem onO_some {α : Type} {o : Option Nat} {k : Nat → Option α} {r : α} (h : onO o none k = some r) : ∃ i : Nat, o = some i ∧ k i = some r := by
  match o, h with
  | some i, h => exact ⟨i, rfl, h⟩
theorem onO_none {α : Type} {o : Option Nat} {a : α} {b : Nat → α} (e : o = none) : onO o a b = a := by rw [e]; rfl
theorem onO_is {α : Type} {o : Option Nat} {a : α} {b : Nat → α} {i : Nat} (e : o = some i) : onO o a b = b i := by rw [e]; rfl
theorem x_nn {ω : XO} {rm : Room} {nL : Nat} {κ : XK} {L : List Nat} {q : Nat → Nat} {h : hp} {cells slots pc : Nat} {lv : List (Nat × Value)} {rest : List Value} {o : Option Nat} {i : Nat} (e : o = some i) (k : XG ω rm nL κ L q h cells slots pc lv (.ref (q i) :: rest)) : XG ω rm nL κ L q h cells slots pc lv (va_rf (o.map q) :: rest) := by subst e; exact k
theorem x_ifnull {ω : XO} {rm : Room} {nL : Nat} {κ : XK} {cc : ByteArray} {own : String} (X : XC ω rm nL κ cc own) {L : List Nat} {q : Nat → Nat} {h : hp} {cells slots pc : Nat} {lv : List (Nat × Value)} {rest : List Value} {o : Option Nat} {off : Int} (tgt : Nat) (hd : decode cc pc = .ok (.ifnull off, 3)) (ht : (pc : Int) + off = (tgt : Int)) (kt : o = none → XG ω rm nL κ L q h cells slots tgt lv rest) (kf : ∀ i, o = some i → XG ω rm nL κ L q h cells slots (pc + 3) lv rest) : XG ω rm nL κ L q h cells slots pc lv (va_rf (o.map q) :: rest) := by
  obtain ⟨l, D, E, b, ζ⟩ := ω
  obtain ⟨p, e, s, m, args, below, meth, c, Q, A⟩ := κ
  intro H locs la hP hX hA hS hl
  match o, kt, kf with
  | none, kt, kf => exact lv_ifnullN X.1 X.2.1 hd ht (kt rfl H locs la hP hX hA hS hl)
  | some i, kt, kf => exact lv_ifnull X.1 X.2.1 hd (kf i rfl H locs la hP hX hA hS hl)
theorem x_ifnonnull {ω : XO} {rm : Room} {nL : Nat} {κ : XK} {cc : ByteArray} {own : String} (X : XC ω rm nL κ cc own) {L : List Nat} {q : Nat → Nat} {h : hp} {cells slots pc : Nat} {lv : List (Nat × Value)} {rest : List Value} {o : Option Nat} {off : Int} (tgt : Nat) (hd : decode cc pc = .ok (.ifnonnull off, 3)) (ht : (pc : Int) + off = (tgt : Int)) (kt : o = none → XG ω rm nL κ L q h cells slots (pc + 3) lv rest) (kf : ∀ i, o = some i → XG ω rm nL κ L q h cells slots tgt lv rest) : XG ω rm nL κ L q h cells slots pc lv (va_rf (o.map q) :: rest) := by
  obtain ⟨l, D, E, b, ζ⟩ := ω
  obtain ⟨p, e, s, m, args, below, meth, c, Q, A⟩ := κ
  intro H locs la hP hX hA hS hl
  match o, kt, kf with
  | none, kt, kf => exact lv_ifnonnullN X.1 X.2.1 hd (kt rfl H locs la hP hX hA hS hl)
  | some i, kt, kf => exact lv_ifnonnull X.1 X.2.1 hd ht (kf i rfl H locs la hP hX hA hS hl)
-- ===== static nest mates; calls of the class above; calls that the class of the object decides =====
theorem xg_frame {ω : XO} {rm : Room} {nL : Nat} {κ : XK} {cc : ByteArray} {own : String} (X : XC ω rm nL κ cc own) {L : List Nat} {q : Nat → Nat} {h : hp} {H : Heap} {i ci : Nat} {C : String} {T : u_T} {N : Nat} (hP : va_P ω.2.1 vwCl (XL ω.2.2.1 L q h) H) (hX : XD ω.2.2.2.1 L q h) (hs : sd ω.2.2.2.1 i = true) (hk : kdOf h i = ci + 1) (hci : ci < 19) (hc : vwCl[ci]? = some (C, T, N)) : ∃ cell : Cell, H[q i]? = some cell ∧ cell.vm.isStatics = false ∧ κ.2.2.1.vm.findClass C = some cell.cls := by
  obtain ⟨l, D, E, b, ζ⟩ := ω
  obtain ⟨p, e, s, m, args, below, meth, c, Q, A⟩ := κ
  obtain ⟨hx, hb, hml, hown, hts, hK, hlocks, hA0, hz⟩ := X
  have hi : i ∈ L := hX.2.2.1 i hs (by rw [hk]; omega)
  obtain ⟨n, -, hn⟩ := XL_at (E := E) (q := q) (h := h) hi
  rw [cellX_obj hk hci] at hn
  exact va_recv hK hP hc hn
theorem x_callSN {ω : XO} {rm : Room} {nL : Nat} {κ : XK} {cc : ByteArray} {own : String} (X : XC ω rm nL κ cc own) {L : List Nat} {q : Nat → Nat} {h h' : hp} {cells slots pc : Nat} {lv : List (Nat × Value)} {st : List Value} {v : Option Value} {y : MethodName} {bytes : ByteArray} {maxL idx : Nat} {rt : Option FieldType} {rm2 : Room} {host : String} (As rest : List Value)
    (hM : XM ω y bytes maxL rt rm2 L q h As v h') (hT : MS y bytes maxL rt As.length) (hl0 : (own, idx, y, host) ∈ nwM) (hR : rm2.frames + 1 ≤ rm.frames ∧ 8 + (maxL + 11) + rm2.locals ≤ rm.locals) (h0 : rm2.cells = 0 ∧ rm2.slots = 0) (hcs : cells ≤ rm.cells ∧ slots ≤ rm.slots)
    (hst : st = As.reverse ++ rest) (hroom : (rest.map fun v => v.category).sum ≤ 8) (hd : decode cc pc = .ok (.invokestatic idx, 3))
    (kk : XG ω rm nL κ L q h' cells slots (pc + 3) lv (v.toList ++ rest)) : XG ω rm nL κ L q h cells slots pc lv st := by
  refine xg_call (a := As.toArray) X h0 (fun H locs la hP hX hA hS hl => ?_) kk
  have X2 := X
  have hpre := fun (U : State) (hU : U.heap = H) hW => xb_pre X (as := As) hP hX hA hS hU hW
  obtain ⟨l, D, E, b, ζ⟩ := ω
  obtain ⟨p, e, s, m, args, below, meth, c, Q, A⟩ := κ
  obtain ⟨hx, hb, hml, hown, hts, hK, hlocks, hA0, hz⟩ := X2
  obtain ⟨m2, m3, m4, m5⟩ := hT
  have hG : GoodIn ALLW (wA y bytes maxL rt) := goodA (ws := []) m4 (fun w hw => by cases hw)
  exact va_runSN (As := As) (rest := rest) ⟨hx, hb, hml, hown, hts⟩ (hM H.size) ⟨va_cnB As.length hts hG rfl rfl rfl (hz.2.2.2.2.2.2.2.2.1 _ hl0) (hts _ m3) m5 hR, hts _ m2, trivial⟩ ⟨xb_blind, hpre⟩ rfl rfl hl.1 hst (lv_room hroom) hd ⟨by rw [h0.1]; exact hcs.1, by rw [h0.2]; exact hcs.2⟩
theorem x_callSU {ω : XO} {rm : Room} {nL : Nat} {κ : XK} {cc : ByteArray} {own : String} (X : XC ω rm nL κ cc own) {L : List Nat} {q : Nat → Nat} {h h' : hp} {cells slots pc : Nat} {lv : List (Nat × Value)} {st : List Value} {v : Option Value} {y : MethodName} {bytes : ByteArray} {maxL idx i ci : Nat} {rt : Option FieldType} {rm2 : Room} {C : String} {T : u_T} {N : Nat} (As rest : List Value)
    (hM : XM ω y bytes maxL rt rm2 L q h (.ref (q i) :: As) v h') (hl0 : ∀ w ∈ ([.methodLink own idx y, .sameMethod y.cls y.cls y.name y.desc, .superclass own y.cls, .instanceMethod y, .initialized y.cls] : List Cond), w ∈ ALLW) (hcode : Cond.code y bytes maxL rt ∈ ALLW) (hd1 : y.name ≠ "<init>" ∧ (parseMethodDescriptor y.desc).map (fun d => d.parameters.length) = some As.length) (hR : rm2.frames + 1 ≤ rm.frames ∧ 8 + (maxL + 11) + rm2.locals ≤ rm.locals) (h0 : rm2.cells = 0 ∧ rm2.slots = 0) (hcs : cells ≤ rm.cells ∧ slots ≤ rm.slots)
    (hs : sd ω.2.2.2.1 i = true) (hk : kdOf h i = ci + 1) (hci : ci < 19) (hc : vwCl[ci]? = some (C, T, N)) (hst : st = As.reverse ++ .ref (q i) :: rest) (hroom : (rest.map fun v => v.category).sum ≤ 8) (hd : decode cc pc = .ok (.invokespecial idx, 3))
    (kk : XG ω rm nL κ L q h' cells slots (pc + 3) lv (v.toList ++ rest)) : XG ω rm nL κ L q h cells slots pc lv st := by
  refine xg_call (a := (Value.ref (q i) :: As).toArray) X h0 (fun H locs la hP hX hA hS hl => ?_) kk
  have X2 := X
  have hpre := fun (U : State) (hU : U.heap = H) hW => xb_pre X (as := .ref (q i) :: As) hP hX hA hS hU hW
  have hrc := xg_frame X hP hX hs hk hci hc
  obtain ⟨l, D, E, b, ζ⟩ := ω
  obtain ⟨p, e, s, m, args, below, meth, c, Q, A⟩ := κ
  obtain ⟨hx, hb, hml, hown, hts, hK, hlocks, hA0, hz⟩ := X2
  exact va_runSU (As := As) (rest := rest) (hK.1 ci _ hc).2 ⟨hx, hb, hml, hown, hts⟩ (hM H.size) (va_cwSU As.length hts (goodA hcode hl0) rfl rfl rfl hd1 hR) ⟨xb_blind, hrc, hpre⟩ rfl rfl hl.1 hst (lv_room hroom) hd ⟨by rw [h0.1]; exact hcs.1, by rw [h0.2]; exact hcs.2⟩
theorem x_callU {ω : XO} {rm : Room} {nL : Nat} {κ : XK} {cc : ByteArray} {own : String} (X : XC ω rm nL κ cc own) {L : List Nat} {q : Nat → Nat} {h h' : hp} {cells slots pc : Nat} {lv : List (Nat × Value)} {st : List Value} {v : Option Value} {x y : MethodName} {bytes : ByteArray} {maxL idx i ci : Nat} {rt : Option FieldType} {rm2 : Room} {C owner : String} {T : u_T} {N : Nat} (As rest : List Value)
    (hM : XM ω y bytes maxL rt rm2 L q h (.ref (q i) :: As) v h') (hl0 : ∀ w ∈ ([.methodLink own idx x, .sameMethod x.cls owner x.name x.desc, .selects C x y, .instanceMethod y, .initialized y.cls] : List Cond), w ∈ ALLW) (hcode : Cond.code y bytes maxL rt ∈ ALLW) (hyx : y = ⟨owner, x.name, x.desc⟩) (hd1 : owner ≠ "java/lang/invoke/MethodHandle" ∧ owner ≠ "java/lang/invoke/VarHandle" ∧ (parseMethodDescriptor x.desc).map (fun d => d.parameters.length) = some As.length) (hR : rm2.frames + 1 ≤ rm.frames ∧ 8 + (maxL + 11) + rm2.locals ≤ rm.locals) (h0 : rm2.cells = 0 ∧ rm2.slots = 0) (hcs : cells ≤ rm.cells ∧ slots ≤ rm.slots)
    (hs : sd ω.2.2.2.1 i = true) (hk : kdOf h i = ci + 1) (hci : ci < 19) (hc : vwCl[ci]? = some (C, T, N)) (hst : st = As.reverse ++ .ref (q i) :: rest) (hroom : (rest.map fun v => v.category).sum ≤ 8) (hd : decode cc pc = .ok (.invokevirtual idx, 3))
    (kk : XG ω rm nL κ L q h' cells slots (pc + 3) lv (v.toList ++ rest)) : XG ω rm nL κ L q h cells slots pc lv st := by
  refine xg_call (a := (Value.ref (q i) :: As).toArray) X h0 (fun H locs la hP hX hA hS hl => ?_) kk
  have X2 := X
  have hpre := fun (U : State) (hU : U.heap = H) hW => xb_pre X (as := .ref (q i) :: As) hP hX hA hS hU hW
  have hrc := xg_frame X hP hX hs hk hci hc
  obtain ⟨l, D, E, b, ζ⟩ := ω
  obtain ⟨p, e, s, m, args, below, meth, c, Q, A⟩ := κ
  obtain ⟨hx, hb, hml, hown, hts, hK, hlocks, hA0, hz⟩ := X2
  exact va_runU (As := As) (rest := rest) ⟨hx, hb, hml, hown, hts⟩ (hM H.size) (va_cwU As.length hts (goodA hcode hl0) rfl rfl rfl hyx hd1 hR) ⟨xb_blind, hrc, hpre⟩ rfl rfl hl.1 hst (lv_room hroom) hd ⟨by rw [h0.1]; exact hcs.1, by rw [h0.2]; exact hcs.2⟩
theorem x_callO {ω : XO} {rm : Room} {nL : Nat} {κ : XK} {cc : ByteArray} {own : String} (X : XC ω rm nL κ cc own) {L : List Nat} {q : Nat → Nat} {h h' : hp} {cells slots pc : Nat} {lv : List (Nat × Value)} {st : List Value} {v : Option Value} {x y : MethodName} {bytes b0 : ByteArray} {maxL m0 idx i ci : Nat} {rt r0 : Option FieldType} {rm2 : Room} {C owner : String} {T : u_T} {N : Nat} (As rest : List Value)
    (hM : XM ω y bytes maxL rt rm2 L q h (.ref (q i) :: As) v h') (hl0 : ∀ w ∈ ([.methodLink own idx x, .sameMethod x.cls owner x.name x.desc, .instanceMethod ⟨owner, x.name, x.desc⟩, .selects C x y, .instanceMethod y, .initialized y.cls] : List Cond), w ∈ ALLW) (hcode : Cond.code y bytes maxL rt ∈ ALLW) (hc0 : Cond.code ⟨owner, x.name, x.desc⟩ b0 m0 r0 ∈ ALLW) (hd1 : owner ≠ "java/lang/invoke/MethodHandle" ∧ owner ≠ "java/lang/invoke/VarHandle" ∧ (parseMethodDescriptor x.desc).map (fun d => d.parameters.length) = some As.length) (hR : rm2.frames + 1 ≤ rm.frames ∧ 8 + (maxL + 11) + rm2.locals ≤ rm.locals) (h0 : rm2.cells = 0 ∧ rm2.slots = 0) (hcs : cells ≤ rm.cells ∧ slots ≤ rm.slots)
    (hs : sd ω.2.2.2.1 i = true) (hk : kdOf h i = ci + 1) (hci : ci < 19) (hc : vwCl[ci]? = some (C, T, N)) (hst : st = As.reverse ++ .ref (q i) :: rest) (hroom : (rest.map fun v => v.category).sum ≤ 8) (hd : decode cc pc = .ok (.invokevirtual idx, 3))
    (kk : XG ω rm nL κ L q h' cells slots (pc + 3) lv (v.toList ++ rest)) : XG ω rm nL κ L q h cells slots pc lv st := by
  refine xg_call (a := (Value.ref (q i) :: As).toArray) X h0 (fun H locs la hP hX hA hS hl => ?_) kk
  have X2 := X
  have hpre := fun (U : State) (hU : U.heap = H) hW => xb_pre X (as := .ref (q i) :: As) hP hX hA hS hU hW
  have hrc := xg_frame X hP hX hs hk hci hc
  obtain ⟨l, D, E, b, ζ⟩ := ω
  obtain ⟨p, e, s, m, args, below, meth, c, Q, A⟩ := κ
  obtain ⟨hx, hb, hml, hown, hts, hK, hlocks, hA0, hz⟩ := X2
  exact va_runU (As := As) (rest := rest) ⟨hx, hb, hml, hown, hts⟩ (hM H.size) (va_cwO As.length hts (goodA hcode hl0) rfl rfl rfl hc0 hd1 hR) ⟨xb_blind, hrc, hpre⟩ rfl rfl hl.1 hst (lv_room hroom) hd ⟨by rw [h0.1]; exact hcs.1, by rw [h0.2]; exact hcs.2⟩
-- ===== instanceof =====
theorem x_instE {ω : XO} {rm : Room} {nL : Nat} {κ : XK} {cc : ByteArray} {own : String} (X : XC ω rm nL κ cc own) {L : List Nat} {q : Nat → Nat} {h : hp} {cells slots pc : Nat} {lv : List (Nat × Value)} {rest : List Value} {i ci idx : Nat} {C nm : String} {T : u_T} {N : Nat} (hl0 : Cond.classLink own idx nm ∈ ALLW) (hs : sd ω.2.2.2.1 i = true) (hk : kdOf h i = ci + 1) (hci : ci < 19) (hc : vwCl[ci]? = some (C, T, N)) (hn : C = nm) (hd : decode cc pc = .ok (.instanceof idx, 3)) (kk : XG ω rm nL κ L q h cells slots (pc + 3) lv (.int 1 :: rest)) : XG ω rm nL κ L q h cells slots pc lv (.ref (q i) :: rest) := by
  obtain ⟨l, D, E, b, ζ⟩ := ω
  obtain ⟨p, e, s, m, args, below, meth, c, Q, A⟩ := κ
  intro H locs la hP hX hA hS hl
  subst hn
  exact va_instE X.1 X.2.1 X.2.2.2.1 (X.2.2.2.2.1 _ hl0) (xg_frame (ω := (l, D, E, b, ζ)) (κ := (p, e, s, m, args, below, meth, c, Q, A)) X hP hX hs hk hci hc) hd (kk H locs la hP hX hA hS hl)
theorem x_instY {ω : XO} {rm : Room} {nL : Nat} {κ : XK} {cc : ByteArray} {own : String} (X : XC ω rm nL κ cc own) {L : List Nat} {q : Nat → Nat} {h : hp} {cells slots pc : Nat} {lv : List (Nat × Value)} {rest : List Value} {i ci idx : Nat} {C nm : String} {T : u_T} {N : Nat} (hl0 : Cond.classLink own idx nm ∈ ALLW) (hs : sd ω.2.2.2.1 i = true) (hk : kdOf h i = ci + 1) (hci : ci < 19) (hc : vwCl[ci]? = some (C, T, N)) (hn : (C, nm) ∈ nwC) (hd : decode cc pc = .ok (.instanceof idx, 3)) (kk : XG ω rm nL κ L q h cells slots (pc + 3) lv (.int 1 :: rest)) : XG ω rm nL κ L q h cells slots pc lv (.ref (q i) :: rest) := by
  obtain ⟨l, D, E, b, ζ⟩ := ω
  obtain ⟨p, e, s, m, args, below, meth, c, Q, A⟩ := κ
  intro H locs la hP hX hA hS hl
  exact va_instY X.1 X.2.1 X.2.2.2.1 (X.2.2.2.2.1 _ hl0) (X.2.2.2.2.2.2.2.2.2.2.2.2.2.2.2.2.2.1 _ hn) (xg_frame (ω := (l, D, E, b, ζ)) (κ := (p, e, s, m, args, below, meth, c, Q, A)) X hP hX hs hk hci hc) hd (kk H locs la hP hX hA hS hl)
theorem x_instNo {ω : XO} {rm : Room} {nL : Nat} {κ : XK} {cc : ByteArray} {own : String} (X : XC ω rm nL κ cc own) {L : List Nat} {q : Nat → Nat} {h : hp} {cells slots pc : Nat} {lv : List (Nat × Value)} {rest : List Value} {i ci idx : Nat} {C nm : String} {T : u_T} {N : Nat} (hl0 : Cond.classLink own idx nm ∈ ALLW) (hs : sd ω.2.2.2.1 i = true) (hk : kdOf h i = ci + 1) (hci : ci < 19) (hc : vwCl[ci]? = some (C, T, N)) (hn : (C, nm) ∈ ncL) (hd : decode cc pc = .ok (.instanceof idx, 3)) (kk : XG ω rm nL κ L q h cells slots (pc + 3) lv (.int 0 :: rest)) : XG ω rm nL κ L q h cells slots pc lv (.ref (q i) :: rest) := by
  obtain ⟨l, D, E, b, ζ⟩ := ω
  obtain ⟨p, e, s, m, args, below, meth, c, Q, A⟩ := κ
  intro H locs la hP hX hA hS hl
  exact va_instNo X.1 X.2.1 X.2.2.2.1 (X.2.2.2.2.1 _ hl0) (X.2.2.2.2.2.2.2.2.2.2.2.2.2.2.2.2.2.2.2.1 _ hn) (xg_frame (ω := (l, D, E, b, ζ)) (κ := (p, e, s, m, args, below, meth, c, Q, A)) X hP hX hs hk hci hc) hd (kk H locs la hP hX hA hS hl)
/-- a private method of the class above, on an object of the class below -/
theorem sel_priv2 {C : String} {n : Nat} {x0 y : MethodName} {s : State} {args : Array Value} (hy : y.cls ≠ "java/lang/invoke/MethodHandle" ∧ y.cls ≠ "java/lang/invoke/VarHandle") (hins : (Cond.instantiable C n).before args s = true) (hpriv : (Cond.privateMethod y).before args s = true) (hinst : (Cond.instanceMethod y).before args s = true) (hs0 : (Cond.selects C x0 x0).before args s = true) (hc0 : x0.cls = y.cls) : (Cond.selects C y y).before args s = true := by
  obtain ⟨c, k, hc, hk, -, -, -, -⟩ := Cond.instantiable_spec hins
  obtain ⟨mk, methM, hnamed, hmethM, -, -⟩ := Cond.instanceMethod_spec hinst
  have hfound : s.methodFound? y.cls y.name y.desc = some mk := State.methodFound?_of_named hnamed hy
  have hsel : selectMethod {} s.vm c mk = .method mk := selectMethod_private hmethM (Cond.privateMethod_at hpriv mk methM hnamed hmethM)
  obtain ⟨c2, r2, m2, -, -, hn2, -, k2, hk2, hni⟩ := Cond.selects_spec hs0
  have hcls : mk.cls = m2.cls := Option.some.inj ((findClass_of_methodNamed hnamed).symm.trans ((by rw [← hc0]; exact findClass_of_methodNamed hn2)))
  simp only [Cond.before, Cond.holds, Cond.value, hc, hfound, hnamed, hsel, hcls, hk2]
  simp; exact hni
theorem x_ldcw {ω : XO} {rm : Room} {nL : Nat} {κ : XK} {cc : ByteArray} {own : String} (X : XC ω rm nL κ cc own) {L : List Nat} {q : Nat → Nat} {h : hp} {cells slots pc : Nat} {lv : List (Nat × Value)} {rest : List Value} {idx : Nat} {v : Int32} (hw : Cond.constant own idx v ∈ ALLW) (hd : decode cc pc = .ok (.ldc_w idx, 3)) (k : XG ω rm nL κ L q h cells slots (pc + 3) lv (.int v :: rest)) : XG ω rm nL κ L q h cells slots pc lv rest := by
  obtain ⟨l, D, E, b, ζ⟩ := ω
  obtain ⟨p, e, s, m, args, below, meth, c, Q, A⟩ := κ
  intro H locs la hP hX hA hS hl
  exact lv_ldcw X.1 X.2.1 X.2.2.2.1 (X.2.2.2.2.1 _ hw) hd (k H locs la hP hX hA hS hl)
