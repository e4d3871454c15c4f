-- ===== acts_ =====
def TRX (h_ : hp) (q_ : List Nat) : Prop := hI h_ 33 1 = 0 ∧ hI h_ 33 3 = nI q_.length ∧ ∀ i_ b_, q_[i_]? = some b_ → aI h_ 34 i_ = nI b_
def TRM (h_ : hp) (q_ : List Nat) : Prop := hI h_ 52 55 = nI q_.length ∧ ∀ i_ b_, q_[i_]? = some b_ → aI h_ 86 i_ = nI b_
def agB (h_ h' : hp) : Prop := h'.2.1 = h_.2.1 ∧ h'.2.2.2 = h_.2.2.2 ∧ (∀ a_ k_, ¬ (a_ = 52 ∧ k_ = 55) → hI h' a_ k_ = hI h_ a_ k_) ∧ ∀ a_, a_ ≠ 86 → aI h' a_ = aI h_ a_
theorem agB.rf {h_ : hp} : agB h_ h_ := ⟨rfl, rfl, fun _ _ _ => rfl, fun _ _ => rfl⟩
theorem agB.tr {h_ h1 h2 : hp} (x_ : agB h_ h1) (y_ : agB h1 h2) : agB h_ h2 := ⟨y_.1.trans x_.1, y_.2.1.trans x_.2.1, fun a_ k_ hk => (y_.2.2.1 a_ k_ hk).trans (x_.2.2.1 a_ k_ hk), fun a_ ha_ => (y_.2.2.2 a_ ha_).trans (x_.2.2.2 a_ ha_)⟩
theorem snocq {q_ : List Nat} {b_ i_ c_ : Nat} (h_ : (q_ ++ [b_])[i_]? = some c_) : (i_ < q_.length ∧ q_[i_]? = some c_) ∨ (i_ = q_.length ∧ c_ = b_) := by
  by_cases h1 : i_ < q_.length
  · rw [List.getElem?_append_left h1] at h_; exact Or.inl ⟨h1, h_⟩
  · right
    have := (List.getElem?_eq_some_iff.mp h_).1
    simp only [List.length_append, List.length_cons, List.length_nil] at this
    have e_ : i_ = q_.length := by omega
    subst e_
    rw [List.getElem?_append_right (Nat.le_refl _), Nat.sub_self] at h_
    exact ⟨rfl, by simpa using h_.symm⟩
theorem byte8 : ∀ c_, c_ < 128 → vp_nar .byte ((nI c_).toInt8.toInt32) = nI c_ := by
  intro c_ hc_
  rw [pk_vb]
  have : ∀ c_, c_ < 128 → (nI c_).toInt8.toInt32 = nI c_ := by decide +kernel
  exact this c_ hc_
theorem X_append {h_ : hp} {q_ : List Nat} {b_ : Nat} (H_ : TRX h_ q_) (hq : q_.length < 16) (hb_ : b_ < 128) : ∃ h', f_J4_append_cf468 h_ 33 (nI b_) = some (h', 33) ∧ TRX h' (q_ ++ [b_]) ∧ agX (fun j_ => 33 ≤ j_ ∧ j_ ≤ 34) h_ h' := by
  obtain ⟨c1_, c3_, c4_⟩ := H_
  have hA := fun (y_ : Option (hp × Unit)) => ckA_of (b := 1) (h := h_) (i := 33 + 1) (e := 1) (n := 16) (a := y_) rfl rfl (by decide)
  have ec : f_J5_ensureCapacityInternal_d00df h_ 33 (nI (q_.length + 1)) = some (h_, ()) := by
    unfold f_J5_ensureCapacityInternal_d00df
    rw [ckO_of (show sd 1 33 = true from rfl) (show kdOf h_ 33 = 1 from rfl), (hA _).1, (hA none).2, ckO_of (show sd 1 33 = true from rfl) (show kdOf h_ 33 = 1 from rfl), c1_, nm_eq, if_neg]
    · rfl
    · rw [Int32.lt_iff_toInt_lt]
      have e1_ : (nI (q_.length + 1) - nI 16).toInt = ((q_.length + 1 : Nat) : Int) - 16 := pk_sub_toInt (by omega) (by decide)
      have e2_ : (Int32.ofNat 16 >>> ((0 : Int32) &&& 31)) = nI 16 := by decide
      rw [e2_, e1_]
      have : ((0 : Int32)).toInt = 0 := rfl
      omega
  have il : f_J5_isLatin1_aae02 h_ 33 = some 1 := by
    unfold f_J5_isLatin1_aae02
    rw [if_neg ne10, ckO_of (show sd 1 33 = true from rfl) (show kdOf h_ 33 = 1 from rfl), c1_, if_pos rfl]; rfl
  have ce : f_J1_canEncode_fc78d h_ (nI b_) = some 1 := by
    unfold f_J1_canEncode_fc78d
    rw [if_neg (show ¬ (255 : Int32) < nI b_ from nI_nlt (a := 255) (by omega) (by decide))]; rfl
  unfold f_J4_append_cf468 f_J5_append_3fe6f
  rw [ckO_of (show sd 1 33 = true from rfl) (show kdOf h_ 33 = 1 from rfl), ckO_of (show sd 1 33 = true from rfl) (show kdOf h_ 33 = 1 from rfl), ckO_of (show sd 1 33 = true from rfl) (show kdOf h_ 33 = 1 from rfl), c3_, nI_1, bnd_of ec, ckO_of (show sd 1 33 = true from rfl) (show kdOf h_ 33 = 1 from rfl), bnr_of il, if_neg ne10, bnr_of ce, if_neg ne10, ckO_of (show sd 1 33 = true from rfl) (show kdOf h_ 33 = 1 from rfl), ckO_of (show sd 1 33 = true from rfl) (show kdOf h_ 33 = 1 from rfl), ckO_of (show sd 1 33 = true from rfl) (show kdOf h_ 33 = 1 from rfl), c3_, nI_1, nm_eq]
  have hB_ := fun (y_ : Option (hp × Nat)) => ckA_of (b := 1) (h := sI h_ 33 3 (nI (q_.length + 1))) (i := 33 + 1) (e := 1) (n := 16) (a := y_) rfl rfl (by decide)
  rw [(hB_ _).1, (hB_ none).2, chk_of (vp_in_nI (n := q_.length) (N := 16) hq (by decide)), nm_eq, nI_clamp (n := q_.length) (by omega), byte8 _ hb_]
  refine ⟨_, rfl, ⟨c1_, ?_, fun i_ c_ hi_ => ?_⟩, (agX_sI (by omega)).tr (agX_tI (by omega))⟩
  · rw [hI_tI, hI_sI, if_pos ⟨rfl, rfl⟩, List.length_append]; rfl
  · rw [aI_tI]
    rcases snocq hi_ with ⟨u1_, u2_⟩ | ⟨u1_, u2_⟩
    · rw [if_neg (by rintro ⟨-, hh⟩; omega)]; exact c4_ i_ c_ u2_
    · rw [if_pos ⟨rfl, u1_⟩, u2_]
theorem M_body {h_ : hp} {q_ : List Nat} {b_ : Nat} (H_ : TRM h_ q_) (hq : q_.length < 16) : ∃ h', f_X12_body h_ (nI b_) = some (h', ()) ∧ TRM h' (q_ ++ [b_]) ∧ agB h_ h' := by
  obtain ⟨c1_, c4_⟩ := H_
  unfold f_X12_body f_X12_body_19
  rw [c1_, if_pos (show nI q_.length < (20 : Int32) from nI_lt (b := 20) (by omega) (by decide)), chk_of (vp_in_nI (n := q_.length) (N := 20) (by omega) (by decide)), nm_eq, nI_clamp (n := q_.length) (by omega), hI_tI, c1_, nI_1, nm_eq]
  refine ⟨_, rfl, ⟨?_, fun i_ c_ hi_ => ?_⟩, rfl, rfl, fun a_ k_ hk => ?_, fun a_ ha_ => ?_⟩
  · rw [hI_sI, if_pos ⟨rfl, rfl⟩, List.length_append]; rfl
  · rw [aI_sI, aI_tI]
    rcases snocq hi_ with ⟨u1_, u2_⟩ | ⟨u1_, u2_⟩
    · rw [if_neg (by rintro ⟨-, hh⟩; omega)]; exact c4_ i_ c_ u2_
    · rw [if_pos ⟨rfl, u1_⟩, u2_]
  · rw [hI_sI, if_neg (by rintro ⟨rfl, rfl⟩; exact hk ⟨rfl, rfl⟩), hI_tI]
  · funext i_
    rw [aI_sI, aI_tI, if_neg (by rintro ⟨rfl, -⟩; exact ha_ rfl)]
/-- both_ sides in an act, o the class's sender p_ of_ kind k_ and digit v_ -/
def AC (o p_ k_ v_ : Nat) (hx0 hm0 hx hm_ : hp) (q_ : List Nat) : Prop := agX (fun j_ => 33 ≤ j_ ∧ j_ ≤ 34) hx0 hx ∧ agB hm0 hm_ ∧ TRX hx q_ ∧ TRM hm_ q_ ∧ (∀ b_ ∈ q_, b_ < 128) ∧ (sd 1 o = true ∧ kdOf hx o = sndQ k_ ∧ hI hx o 0 = nI p_ ∧ hI hx o 2 = nI v_) ∧ aI hm_ 54 p_ = nI k_ ∧ aI hm_ 55 p_ = nI v_
def stpA (o p_ k_ v_ : Nat) (hx0 hm0 : hp) (c_ : Nat) (FX_ FM : hp → Option (hp × Int32)) : Prop := ∀ hx hm_ q_, AC o p_ k_ v_ hx0 hm0 hx hm_ q_ → q_.length + c_ ≤ 16 → ∃ hx' hm' q' r_, FX_ hx = some (hx', r_) ∧ FM hm_ = some (hm', r_) ∧ AC o p_ k_ v_ hx0 hm0 hx' hm' q' ∧ q'.length ≤ q_.length + c_
theorem stpA_app {o p_ k_ v_ : Nat} {hx0 hm0 : hp} {b_ : Nat} (ho : 100 ≤ o) (hb_ : b_ < 128) {hx hm_ : hp} {q_ : List Nat} (H_ : AC o p_ k_ v_ hx0 hm0 hx hm_ q_) (hq : q_.length < 16) : ∃ hx' hm', f_J4_append_cf468 hx 33 (nI b_) = some (hx', 33) ∧ f_X12_body hm_ (nI b_) = some (hm', ()) ∧ AC o p_ k_ v_ hx0 hm0 hx' hm' (q_ ++ [b_]) := by
  obtain ⟨a1_, a2, a3, a4, a5, ⟨s1_, s2_, s3_, s4_⟩, a6, a7⟩ := H_
  obtain ⟨hx', x1_, x2_, x3⟩ := X_append a3 hq hb_
  obtain ⟨hm', m1_, m2_, m3_⟩ := M_body (b_ := b_) a4 hq
  refine ⟨hx', hm', x1_, m1_, a1_.tr x3, a2.tr m3_, x2_, m2_, fun c_ hc_ => ?_, ⟨s1_, (x3.kd o).trans s2_, by rw [(x3.2 o (by omega)).1]; exact s3_, by rw [(x3.2 o (by omega)).1]; exact s4_⟩, by rw [m3_.2.2.2 54 (by decide)]; exact a6, by rw [m3_.2.2.2 55 (by decide)]; exact a7⟩
  rcases List.mem_append.mp hc_ with hc_ | hc_
  · exact a5 c_ hc_
  · rw [List.mem_singleton.mp hc_]; exact hb_
theorem AC_S {o p_ k_ v_ : Nat} {hx0 hm0 hx hm_ : hp} {q_ : List Nat} (H_ : AC o p_ k_ v_ hx0 hm0 hx hm_ q_) : sd 1 o = true ∧ kdOf hx o ∈ sndK := by
  obtain ⟨-, -, -, -, -, ⟨s1_, s2_, -⟩, -⟩ := H_
  exact ⟨s1_, by rw [s2_]; exact sndQ_in⟩
theorem ck33 {α : Type} {h_ : hp} {a_ : Option α} : ckO 1 h_ 33 1 a_ = a_ := ckO_of (show sd 1 33 = true from rfl) (show kdOf h_ 33 = 1 from rfl)
theorem len1 {q_ : List Nat} {b_ : Nat} : (q_ ++ [b_]).length = q_.length + 1 := by simp
theorem A_t {o p_ k_ v_ : Nat} {hx0 hm0 : hp} (ho : 100 ≤ o) (hp5 : p_ < 5) (x_ : Int32) : stpA o p_ k_ v_ hx0 hm0 1 (fun h_ => f_X4_tilts h_ o x_ 33) (fun h_ => f_X12_senderTilts h_ (nI p_) x_) := by
  intro hx hm_ q_ H_ hq
  obtain ⟨hx', hm', y1, y2, y3⟩ := stpA_app (b_ := 10) ho (by decide) H_ (by omega)
  obtain ⟨s1_, s2_⟩ := AC_S y3
  have y1 : f_J4_append_cf468 hx 33 (10 : Int32) = some (hx', 33) := y1
  have y2 : f_X12_body hm_ (10 : Int32) = some (hm', ()) := y2
  refine ⟨hx', hm', q_ ++ [10], x_ + nI p_, ?_, ?_, y3, by rw [len1]; omega⟩
  · show f_X4_tilts hx o x_ 33 = _
    unfold f_X4_tilts
    rw [ck33, bnd_of y1, ckS_of s1_ s2_, show hI hx' o 0 = nI p_ from y3.2.2.2.2.2.1.2.2.1]
  · show f_X12_senderTilts hm_ (nI p_) x_ = _
    unfold f_X12_senderTilts
    rw [bnd_of y2]
theorem stpA_up {o p_ k_ v_ : Nat} {hx0 hm0 : hp} {c_ d_ : Nat} {FX_ FM : hp → Option (hp × Int32)} (hcd : c_ ≤ d_) (H_ : stpA o p_ k_ v_ hx0 hm0 c_ FX_ FM) : stpA o p_ k_ v_ hx0 hm0 d_ FX_ FM := fun hx hm_ q_ A_ hq => by
  obtain ⟨hx', hm', q', r_, y1, y2, y3, y4⟩ := H_ hx hm_ q_ A_ (by omega)
  exact ⟨hx', hm', q', r_, y1, y2, y3, by omega⟩
theorem A_X0 {o p_ k_ v_ : Nat} {hx0 hm0 : hp} (ho : 100 ≤ o) (hp5 : p_ < 5) (x_ : Int32) : stpA o p_ k_ v_ hx0 hm0 2 (fun h_ => f_X0_tilts h_ o x_ 33) (fun h_ => bnd (f_X12_body h_ (30 : Int32)) fun h3 _ => bnd (f_X12_senderTilts h3 (nI p_) (x_ * (3 : Int32))) fun h5 r6 => some (h5, r6)) := by
  intro hx hm_ q_ H_ hq
  obtain ⟨hx', hm', y1, y2, y3⟩ := stpA_app (b_ := 30) ho (by decide) H_ (by omega)
  obtain ⟨s1_, s2_⟩ := AC_S y3
  have y1 : f_J4_append_cf468 hx 33 (30 : Int32) = some (hx', 33) := y1
  have y2 : f_X12_body hm_ (30 : Int32) = some (hm', ()) := y2
  obtain ⟨hx2, hm2, q2_, r_, z1, z2, z3, z4⟩ := A_t ho hp5 (x_ * (3 : Int32)) hx' hm' _ y3 (by rw [len1]; omega)
  rw [len1] at z4
  refine ⟨hx2, hm2, q2_, r_, ?_, ?_, z3, by omega⟩
  · show f_X0_tilts hx o x_ 33 = _
    unfold f_X0_tilts
    rw [ck33, bnd_of y1, ckS_of s1_ s2_, bnd_of z1]
  · show bnd (f_X12_body hm_ (30 : Int32)) _ = _
    rw [bnd_of y2, bnd_of z2]
theorem A_X5 {o p_ k_ v_ : Nat} {hx0 hm0 : hp} (ho : 100 ≤ o) (hp5 : p_ < 5) (x_ : Int32) : stpA o p_ k_ v_ hx0 hm0 2 (fun h_ => f_X5_tilts h_ o x_ 33) (fun h_ => bnd (f_X12_body h_ (50 : Int32)) fun h3 _ => bnd (f_X12_senderTilts h3 (nI p_) x_) fun h5 r6 => some (h5, (-r6))) := by
  intro hx hm_ q_ H_ hq
  obtain ⟨hx', hm', y1, y2, y3⟩ := stpA_app (b_ := 50) ho (by decide) H_ (by omega)
  obtain ⟨s1_, s2_⟩ := AC_S y3
  have y1 : f_J4_append_cf468 hx 33 (50 : Int32) = some (hx', 33) := y1
  have y2 : f_X12_body hm_ (50 : Int32) = some (hm', ()) := y2
  obtain ⟨hx2, hm2, q2_, r_, z1, z2, z3, z4⟩ := A_t ho hp5 x_ hx' hm' _ y3 (by rw [len1]; omega)
  rw [len1] at z4
  refine ⟨hx2, hm2, q2_, -r_, ?_, ?_, z3, by omega⟩
  · show f_X5_tilts hx o x_ 33 = _
    unfold f_X5_tilts
    rw [ck33, bnd_of y1, ckS_of s1_ s2_, bnd_of z1]
  · show bnd (f_X12_body hm_ (50 : Int32)) _ = _
    rw [bnd_of y2, bnd_of z2]
theorem A_tilts {o p_ k_ v_ : Nat} {hx0 hm0 : hp} (ho : 100 ≤ o) (hp5 : p_ < 5) (hk7 : k_ < 7) (x_ : Int32) : stpA o p_ k_ v_ hx0 hm0 2 (fun h_ => f_D_tilts h_ o x_ 33) (fun h_ => f_X12_tiltsAct h_ (nI p_) x_) := by
  intro hx hm_ q_ H_ hq
  have hin : vp_in (nI p_) 5 := vp_in_nI hp5 (by decide)
  have kk := H_.2.2.2.2.2.1.2.1
  have mk := H_.2.2.2.2.2.2.1
  have base_ := stpA_up (d_ := 2) (by decide) (A_t (k_ := k_) (v_ := v_) (hx0 := hx0) (hm0 := hm0) ho hp5 x_) hx hm_ q_ H_ hq
  show ∃ hx' hm' q' r_, f_D_tilts hx o x_ 33 = some (hx', r_) ∧ f_X12_tiltsAct hm_ (nI p_) x_ = some (hm', r_) ∧ _
  unfold f_D_tilts f_X12_tiltsAct
  rw [kk, chk_of hin, nI_clamp (n := p_) (by omega), mk]
  have base2 : ∃ hx' hm' q' r_, f_X4_tilts hx o x_ 33 = some (hx', r_) ∧ (bnd (f_X12_senderTilts hm_ (nI p_) x_) fun h9 r10 => some (h9, r10)) = some (hm', r_) ∧ AC o p_ k_ v_ hx0 hm0 hx' hm' q' ∧ q'.length ≤ q_.length + 2 := by
    obtain ⟨hx', hm', q', r_, z1, z2, z3, z4⟩ := base_
    have z2 : f_X12_senderTilts hm_ (nI p_) x_ = some (hm', r_) := z2
    exact ⟨hx', hm', q', r_, z1, by rw [bnd_of z2], z3, z4⟩
  rcases (show k_ = 0 ∨ k_ = 1 ∨ k_ = 2 ∨ k_ = 3 ∨ k_ = 4 ∨ k_ = 5 ∨ k_ = 6 by omega) with rfl | rfl | rfl | rfl | rfl | rfl | rfl
  · exact base2
  · exact base2
  · exact A_X0 ho hp5 x_ hx hm_ q_ H_ hq
  · exact base2
  · exact A_X5 ho hp5 x_ hx hm_ q_ H_ hq
  · exact A_X0 ho hp5 x_ hx hm_ q_ H_ hq
  · show ∃ hx' hm' q' r_, f_X8_tilts hx o x_ 33 = some (hx', r_) ∧ (bnd (f_X12_body hm_ (71 : Int32)) fun h25 _ => bnd (f_X12_senderTilts h25 (nI p_) x_) fun h27 r28 => chk (nI p_) 5 (some (h27, (r28 ^^^ (aI h27 55 p_))))) = some (hm', r_) ∧ _
    obtain ⟨hx', hm', y1, y2, y3⟩ := stpA_app (b_ := 71) ho (by decide) H_ (by omega)
    obtain ⟨s1_, s2_⟩ := AC_S y3
    have y1 : f_J4_append_cf468 hx 33 (71 : Int32) = some (hx', 33) := y1
    have y2 : f_X12_body hm_ (71 : Int32) = some (hm', ()) := y2
    obtain ⟨hx2, hm2, q2_, r_, z1, z2, z3, z4⟩ := A_t ho hp5 x_ hx' hm' _ y3 (by rw [len1]; omega)
    rw [len1] at z4
    refine ⟨hx2, hm2, q2_, r_ ^^^ nI v_, ?_, ?_, z3, by omega⟩
    · unfold f_X8_tilts
      rw [ck33, bnd_of y1, ckS_of s1_ s2_, bnd_of z1, ckO_of z3.2.2.2.2.2.1.1 (show kdOf hx2 o = 10 from z3.2.2.2.2.2.1.2.1), show hI hx2 o 2 = nI v_ from z3.2.2.2.2.2.1.2.2.2]
    · rw [bnd_of y2, bnd_of z2, chk_of hin, show aI hm2 55 p_ = nI v_ from z3.2.2.2.2.2.2.2]
theorem A_s {o p_ k_ v_ : Nat} {hx0 hm0 : hp} (ho : 100 ≤ o) (hp5 : p_ < 5) (hk7 : k_ < 7) (x_ : Int32) : stpA o p_ k_ v_ hx0 hm0 3 (fun h_ => f_X4_sends h_ o x_ 33) (fun h_ => f_X12_senderSends h_ (nI p_) x_) := by
  intro hx hm_ q_ H_ hq
  have hin : vp_in (nI p_) 5 := vp_in_nI hp5 (by decide)
  obtain ⟨hx', hm', y1, y2, y3⟩ := stpA_app (b_ := 11) ho (by decide) H_ (by omega)
  obtain ⟨s1_, s2_⟩ := AC_S y3
  have y1 : f_J4_append_cf468 hx 33 (11 : Int32) = some (hx', 33) := y1
  have y2 : f_X12_body hm_ (11 : Int32) = some (hm', ()) := y2
  obtain ⟨hx2, hm2, q2_, r_, z1, z2, z3, z4⟩ := A_tilts ho hp5 hk7 x_ hx' hm' _ y3 (by rw [len1]; omega)
  obtain ⟨t1_, t2_⟩ := AC_S z3
  rw [len1] at z4
  refine ⟨hx2, hm2, q2_, r_ - nI v_, ?_, ?_, z3, by omega⟩
  · show f_X4_sends hx o x_ 33 = _
    unfold f_X4_sends
    rw [ck33, bnd_of y1, ckS_of s1_ s2_, bnd_of z1, ckS_of t1_ t2_, show hI hx2 o 2 = nI v_ from z3.2.2.2.2.2.1.2.2.2]
  · show f_X12_senderSends hm_ (nI p_) x_ = _
    unfold f_X12_senderSends
    rw [bnd_of y2, bnd_of z2, chk_of hin, nI_clamp (n := p_) (by omega), show aI hm2 55 p_ = nI v_ from z3.2.2.2.2.2.2.2]
theorem A_s7 {o p_ k_ v_ : Nat} {hx0 hm0 : hp} (ho : 100 ≤ o) (hp5 : p_ < 5) (hk7 : k_ < 7) (x_ : Int32) : stpA o p_ k_ v_ hx0 hm0 4 (fun h_ => f_X7_sends h_ o x_ 33) (fun h_ => f_X12_tiltedSends h_ (nI p_) x_) := by
  intro hx hm_ q_ H_ hq
  obtain ⟨hx', hm', y1, y2, y3⟩ := stpA_app (b_ := 20) ho (by decide) H_ (by omega)
  obtain ⟨s1_, s2_⟩ := AC_S y3
  have y1 : f_J4_append_cf468 hx 33 (20 : Int32) = some (hx', 33) := y1
  have y2 : f_X12_body hm_ (20 : Int32) = some (hm', ()) := y2
  obtain ⟨hx2, hm2, q2_, r_, z1, z2, z3, z4⟩ := A_s ho hp5 hk7 x_ hx' hm' _ y3 (by rw [len1]; omega)
  rw [len1] at z4
  refine ⟨hx2, hm2, q2_, r_ ^^^ (6 : Int32), ?_, ?_, z3, by omega⟩
  · show f_X7_sends hx o x_ 33 = _
    unfold f_X7_sends
    rw [ck33, bnd_of y1, ckS_of s1_ s2_, bnd_of z1]
  · show f_X12_tiltedSends hm_ (nI p_) x_ = _
    unfold f_X12_tiltedSends
    rw [bnd_of y2, bnd_of z2]
theorem A_sends {o p_ k_ v_ : Nat} {hx0 hm0 : hp} (ho : 100 ≤ o) (hp5 : p_ < 5) (hk7 : k_ < 7) (x_ : Int32) : stpA o p_ k_ v_ hx0 hm0 5 (fun h_ => f_D_sends h_ o x_ 33) (fun h_ => f_X12_sendsAct h_ (nI p_) x_) := by
  intro hx hm_ q_ H_ hq
  have hin : vp_in (nI p_) 5 := vp_in_nI hp5 (by decide)
  have kk := H_.2.2.2.2.2.1.2.1
  have mk := H_.2.2.2.2.2.2.1
  have base_ := stpA_up (d_ := 5) (by decide) (A_s (k_ := k_) (v_ := v_) (hx0 := hx0) (hm0 := hm0) ho hp5 hk7 x_) hx hm_ q_ H_ hq
  show ∃ hx' hm' q' r_, f_D_sends hx o x_ 33 = some (hx', r_) ∧ f_X12_sendsAct hm_ (nI p_) x_ = some (hm', r_) ∧ _
  unfold f_D_sends f_X12_sendsAct
  rw [kk, chk_of hin, nI_clamp (n := p_) (by omega), mk]
  have base2 : ∃ hx' hm' q' r_, f_X4_sends hx o x_ 33 = some (hx', r_) ∧ (bnd (f_X12_senderSends hm_ (nI p_) x_) fun h9 r10 => some (h9, r10)) = some (hm', r_) ∧ AC o p_ k_ v_ hx0 hm0 hx' hm' q' ∧ q'.length ≤ q_.length + 5 := by
    obtain ⟨hx', hm', q', r_, z1, z2, z3, z4⟩ := base_
    have z2 : f_X12_senderSends hm_ (nI p_) x_ = some (hm', r_) := z2
    exact ⟨hx', hm', q', r_, z1, by rw [bnd_of z2], z3, z4⟩
  rcases (show k_ = 0 ∨ k_ = 1 ∨ k_ = 2 ∨ k_ = 3 ∨ k_ = 4 ∨ k_ = 5 ∨ k_ = 6 by omega) with rfl | rfl | rfl | rfl | rfl | rfl | rfl
  · exact base2
  · obtain ⟨hx', hm', q', r_, z1, z2, z3, z4⟩ := A_s7 ho hp5 hk7 x_ hx hm_ q_ H_ (by omega)
    have z2 : f_X12_tiltedSends hm_ (nI p_) x_ = some (hm', r_) := z2
    refine ⟨hx', hm', q', r_, z1, ?_, z3, by omega⟩
    show (bnd (f_X12_tiltedSends hm_ (nI p_) x_) fun h3 r4 => some (h3, r4)) = _
    rw [bnd_of z2]
  · exact base2
  · exact base2
  · show ∃ hx' hm' q' r_, f_X5_sends hx o x_ 33 = some (hx', r_) ∧ (bnd (f_X12_body hm_ (51 : Int32)) fun h7 _ => bnd (f_X12_tiltedSends h7 (nI p_) (x_ + (1 : Int32))) fun h9 r10 => some (h9, r10)) = some (hm', r_) ∧ _
    obtain ⟨hx', hm', y1, y2, y3⟩ := stpA_app (b_ := 51) ho (by decide) H_ (by omega)
    obtain ⟨s1_, s2_⟩ := AC_S y3
    have y1 : f_J4_append_cf468 hx 33 (51 : Int32) = some (hx', 33) := y1
    have y2 : f_X12_body hm_ (51 : Int32) = some (hm', ()) := y2
    obtain ⟨hx2, hm2, q2_, r_, z1, z2, z3, z4⟩ := A_s7 ho hp5 hk7 (x_ + (1 : Int32)) hx' hm' _ y3 (by rw [len1]; omega)
    rw [len1] at z4
    refine ⟨hx2, hm2, q2_, r_, ?_, ?_, z3, by omega⟩
    · unfold f_X5_sends
      rw [ck33, bnd_of y1, ckS_of s1_ s2_, bnd_of z1]
    · rw [bnd_of y2, bnd_of z2]
  · exact base2
  · show ∃ hx' hm' q' r_, f_X8_sends hx o x_ 33 = some (hx', r_) ∧ (bnd (f_X12_body hm_ (70 : Int32)) fun h13 _ => bnd (f_X12_senderSends h13 (nI p_) x_) fun h15 r16 => bnd (f_X12_senderTilts h15 (nI p_) (2 : Int32)) fun h18 r19 => some (h18, (r16 + r19))) = some (hm', r_) ∧ _
    obtain ⟨hx', hm', y1, y2, y3⟩ := stpA_app (b_ := 70) ho (by decide) H_ (by omega)
    obtain ⟨s1_, s2_⟩ := AC_S y3
    have y1 : f_J4_append_cf468 hx 33 (70 : Int32) = some (hx', 33) := y1
    have y2 : f_X12_body hm_ (70 : Int32) = some (hm', ()) := y2
    obtain ⟨hx2, hm2, q2_, r_, z1, z2, z3, z4⟩ := A_s ho hp5 hk7 x_ hx' hm' _ y3 (by rw [len1]; omega)
    rw [len1] at z4
    obtain ⟨t1_, t2_⟩ := AC_S z3
    obtain ⟨hx3, hm3, q3_, r3, w1_, w2_, w3_, w4_⟩ := A_t ho hp5 (2 : Int32) hx2 hm2 _ z3 (by omega)
    refine ⟨hx3, hm3, q3_, r_ + r3, ?_, ?_, w3_, by omega⟩
    · unfold f_X8_sends
      rw [ck33, bnd_of y1, ckS_of s1_ s2_, bnd_of z1, ckS_of t1_ t2_, bnd_of w1_]
    · rw [bnd_of y2, bnd_of z2, bnd_of w2_]
theorem A_te {o p_ k_ v_ : Nat} {hx0 hm0 : hp} (ho : 100 ≤ o) (hp5 : p_ < 5) (hk7 : k_ < 7) (x_ : Int32) : stpA o p_ k_ v_ hx0 hm0 6 (fun h_ => f_X4_tells h_ o x_ 33) (fun h_ => f_X12_senderTells h_ (nI p_) x_) := by
  intro hx hm_ q_ H_ hq
  obtain ⟨hx', hm', y1, y2, y3⟩ := stpA_app (b_ := 12) ho (by decide) H_ (by omega)
  obtain ⟨s1_, s2_⟩ := AC_S y3
  have y1 : f_J4_append_cf468 hx 33 (12 : Int32) = some (hx', 33) := y1
  have y2 : f_X12_body hm_ (12 : Int32) = some (hm', ()) := y2
  obtain ⟨hx2, hm2, q2_, r_, z1, z2, z3, z4⟩ := A_sends ho hp5 hk7 x_ hx' hm' _ y3 (by rw [len1]; omega)
  rw [len1] at z4
  refine ⟨hx2, hm2, q2_, r_ * (2 : Int32), ?_, ?_, z3, by omega⟩
  · show f_X4_tells hx o x_ 33 = _
    unfold f_X4_tells
    rw [ck33, bnd_of y1, ckS_of s1_ s2_, bnd_of z1]
  · show f_X12_senderTells hm_ (nI p_) x_ = _
    unfold f_X12_senderTells
    rw [bnd_of y2, bnd_of z2]
theorem A_X1 {o p_ k_ v_ : Nat} {hx0 hm0 : hp} (ho : 100 ≤ o) (hp5 : p_ < 5) (hk : k_ = 3 ∨ k_ = 6) (x_ : Int32) : stpA o p_ k_ v_ hx0 hm0 12 (fun h_ => f_X1_tells h_ o x_ 33) (fun h_ => bnd (f_X12_body h_ (40 : Int32)) fun h3 _ => bnd (f_X12_senderTells h3 (nI p_) x_) fun h5 r6 => bnd (f_X12_sendsAct h5 (nI p_) (1 : Int32)) fun h8 r9 => some (h8, (r6 + r9))) := by
  intro hx hm_ q_ H_ hq
  have hk7 : k_ < 7 := by omega
  obtain ⟨hx', hm', y1, y2, y3⟩ := stpA_app (b_ := 40) ho (by decide) H_ (by omega)
  obtain ⟨s1_, s2_⟩ := AC_S y3
  have y1 : f_J4_append_cf468 hx 33 (40 : Int32) = some (hx', 33) := y1
  have y2 : f_X12_body hm_ (40 : Int32) = some (hm', ()) := y2
  obtain ⟨hx2, hm2, q2_, r_, z1, z2, z3, z4⟩ := A_te ho hp5 hk7 x_ hx' hm' _ y3 (by rw [len1]; omega)
  rw [len1] at z4
  obtain ⟨t1_, t2_⟩ := AC_S z3
  obtain ⟨hx3, hm3, q3_, r3, w1_, w2_, w3_, w4_⟩ := A_sends ho hp5 hk7 (1 : Int32) hx2 hm2 _ z3 (by omega)
  have dn : f_DN_sends hx2 o (1 : Int32) 33 = f_D_sends hx2 o (1 : Int32) 33 := by
    unfold f_DN_sends f_D_sends
    rw [show kdOf hx2 o = sndQ k_ from z3.2.2.2.2.2.1.2.1]
    rcases hk with rfl | rfl <;> rfl
  refine ⟨hx3, hm3, q3_, r_ + r3, ?_, ?_, w3_, by omega⟩
  · show f_X1_tells hx o x_ 33 = _
    unfold f_X1_tells
    rw [ck33, bnd_of y1, ckS_of s1_ s2_, bnd_of z1, ckS_of t1_ t2_, dn, bnd_of w1_]
  · show bnd (f_X12_body hm_ (40 : Int32)) _ = _
    rw [bnd_of y2, bnd_of z2, bnd_of w2_]
theorem A_tells {o p_ k_ v_ : Nat} {hx0 hm0 : hp} (ho : 100 ≤ o) (hp5 : p_ < 5) (hk7 : k_ < 7) (x_ : Int32) : stpA o p_ k_ v_ hx0 hm0 12 (fun h_ => f_D_tells h_ o x_ 33) (fun h_ => f_X12_tellsAct h_ (nI p_) x_) := by
  intro hx hm_ q_ H_ hq
  have hin : vp_in (nI p_) 5 := vp_in_nI hp5 (by decide)
  have kk := H_.2.2.2.2.2.1.2.1
  have mk := H_.2.2.2.2.2.2.1
  have base_ := stpA_up (d_ := 12) (by decide) (A_te (k_ := k_) (v_ := v_) (hx0 := hx0) (hm0 := hm0) ho hp5 hk7 x_) hx hm_ q_ H_ hq
  show ∃ hx' hm' q' r_, f_D_tells hx o x_ 33 = some (hx', r_) ∧ f_X12_tellsAct hm_ (nI p_) x_ = some (hm', r_) ∧ _
  unfold f_D_tells f_X12_tellsAct
  rw [kk, chk_of hin, nI_clamp (n := p_) (by omega), mk]
  have base2 : ∃ hx' hm' q' r_, f_X4_tells hx o x_ 33 = some (hx', r_) ∧ (bnd (f_X12_senderTells hm_ (nI p_) x_) fun h9 r10 => some (h9, r10)) = some (hm', r_) ∧ AC o p_ k_ v_ hx0 hm0 hx' hm' q' ∧ q'.length ≤ q_.length + 12 := by
    obtain ⟨hx', hm', q', r_, z1, z2, z3, z4⟩ := base_
    have z2 : f_X12_senderTells hm_ (nI p_) x_ = some (hm', r_) := z2
    exact ⟨hx', hm', q', r_, z1, by rw [bnd_of z2], z3, z4⟩
  rcases (show k_ = 0 ∨ k_ = 1 ∨ k_ = 2 ∨ k_ = 3 ∨ k_ = 4 ∨ k_ = 5 ∨ k_ = 6 by omega) with rfl | rfl | rfl | rfl | rfl | rfl | rfl
  · exact base2
  · exact base2
  · exact base2
  · exact A_X1 ho hp5 (Or.inl rfl) x_ hx hm_ q_ H_ hq
  · exact base2
  · show ∃ hx' hm' q' r_, f_X10_tells hx o x_ 33 = some (hx', r_) ∧ (bnd (f_X12_body hm_ (60 : Int32)) fun h16_ _ => bnd (f_X12_senderTells h16_ (nI p_) (x_ - nI p_)) fun h18 r19 => some (h18, r19)) = some (hm', r_) ∧ _
    obtain ⟨hx', hm', y1, y2, y3⟩ := stpA_app (b_ := 60) ho (by decide) H_ (by omega)
    obtain ⟨s1_, s2_⟩ := AC_S y3
    have y1 : f_J4_append_cf468 hx 33 (60 : Int32) = some (hx', 33) := y1
    have y2 : f_X12_body hm_ (60 : Int32) = some (hm', ()) := y2
    obtain ⟨hx2, hm2, q2_, r_, z1, z2, z3, z4⟩ := A_te ho hp5 hk7 (x_ - nI p_) hx' hm' _ y3 (by rw [len1]; omega)
    rw [len1] at z4
    refine ⟨hx2, hm2, q2_, r_, ?_, ?_, z3, by omega⟩
    · unfold f_X10_tells
      rw [ck33, bnd_of y1, ckO_of y3.2.2.2.2.2.1.1 (show kdOf hx' o = 12 from y3.2.2.2.2.2.1.2.1), ckS_of s1_ s2_, show hI hx' o 0 = nI p_ from y3.2.2.2.2.2.1.2.2.1, bnd_of z1]
    · rw [bnd_of y2, bnd_of z2]
  · exact A_X1 ho hp5 (Or.inr rfl) x_ hx hm_ q_ H_ hq
