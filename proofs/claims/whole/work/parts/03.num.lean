/- numbers and indices -/
abbrev bl_i (f : Nat → Nat) : Nat → Int32 := fun j => nI (f j)
theorem bl_ui {f : Nat → Nat} {k' k : Nat} {x : Nat} {y : Int32} (hk : k' = k) (hy : y = nI x) : upd (bl_i f) k' y = bl_i (bl_u f k x) := by
  subst hk hy
  funext j
  by_cases e : j = k'
  · subst e
    rw [pk_us]
    show _ = nI (bl_u f j x j)
    rw [bl_us]
  · rw [pk_un e]
    show _ = nI (bl_u f k' x j)
    rw [bl_un e]
theorem bl_z0 : (fun _ => 0 : Nat → Int32) = bl_i (fun _ => 0) := rfl

theorem bn_z {c : Nat} (hc : c < 2 ^ 31) : nI c = 0 ↔ c = 0 := by
  have h := nI_eq (a := c) (b := 0) hc (by omega)
  exact h
theorem bn_x (b t : Nat) : nI b * 61 + nI t = nI (b * 61 + t) := by
  rw [show (61 : Int32) = nI 61 from rfl, pk_mul, nI_add]
theorem bn_x0 (b : Nat) : nI b * 61 = nI (b * 61) := by
  rw [show (61 : Int32) = nI 61 from rfl, pk_mul]
theorem bn_y (b t : Nat) : nI b * 16 + nI t = nI (b * 16 + t) := by
  rw [show (16 : Int32) = nI 16 from rfl, pk_mul, nI_add]
theorem bn_y0 (b : Nat) : nI b * 16 = nI (b * 16) := by
  rw [show (16 : Int32) = nI 16 from rfl, pk_mul]
theorem bn_xin {b t : Nat} (hb : b < 4) (ht : t ≤ 60) : vp_in (nI b * 61 + nI t) 244 := by
  rw [bn_x]; exact vp_in_nI (by omega) (by omega)
theorem bn_xcl {b t : Nat} (hb : b < 4) (ht : t ≤ 60) : (nI b * 61 + nI t).toNatClampNeg = b * 61 + t := by
  rw [bn_x]; exact nI_clamp (by omega)
theorem bn_xin0 {b : Nat} (hb : b < 4) : vp_in (nI b * 61) 244 := by
  rw [bn_x0]; exact vp_in_nI (by omega) (by omega)
theorem bn_xcl0 {b : Nat} (hb : b < 4) : (nI b * 61).toNatClampNeg = b * 61 := by
  rw [bn_x0]; exact nI_clamp (by omega)
theorem bn_yin {b t : Nat} (hb : b < 4) (ht : t < 16) : vp_in (nI b * 16 + nI t) 64 := by
  rw [bn_y]; exact vp_in_nI (by omega) (by omega)
theorem bn_ycl {b t : Nat} (hb : b < 4) (ht : t < 16) : (nI b * 16 + nI t).toNatClampNeg = b * 16 + t := by
  rw [bn_y]; exact nI_clamp (by omega)
theorem bn_yin0 {b : Nat} (hb : b < 4) : vp_in (nI b * 16) 64 := by
  rw [bn_y0]; exact vp_in_nI (by omega) (by omega)
theorem bn_ycl0 {b : Nat} (hb : b < 4) : (nI b * 16).toNatClampNeg = b * 16 := by
  rw [bn_y0]; exact nI_clamp (by omega)
theorem bn_bin {b : Nat} (hb : b < 4) : vp_in (nI b) 4 := vp_in_nI hb (by omega)
theorem bn_bcl {b : Nat} (hb : b < 4) : (nI b).toNatClampNeg = b := nI_clamp (by omega)
theorem bn_ain {a : Nat} (ha : a < 2) : vp_in (nI a) 2 := vp_in_nI ha (by omega)
theorem bn_acl {a : Nat} (ha : a < 2) : (nI a).toNatClampNeg = a := nI_clamp (by omega)
theorem bn_xrd {f : Nat → Nat} {b t : Nat} (hb : b < 4) (ht : t ≤ 60) : bl_i f (nI b * 61 + nI t).toNatClampNeg = nI (f (b * 61 + t)) := by
  rw [bn_xcl hb ht]
theorem bn_xrd0 {f : Nat → Nat} {b : Nat} (hb : b < 4) : bl_i f (nI b * 61).toNatClampNeg = nI (f (b * 61)) := by
  rw [bn_xcl0 hb]
theorem bn_yrd {f : Nat → Nat} {b t : Nat} (hb : b < 4) (ht : t < 16) : bl_i f (nI b * 16 + nI t).toNatClampNeg = nI (f (b * 16 + t)) := by
  rw [bn_ycl hb ht]
theorem bn_yrd0 {f : Nat → Nat} {b : Nat} (hb : b < 4) : bl_i f (nI b * 16).toNatClampNeg = nI (f (b * 16)) := by
  rw [bn_ycl0 hb]
theorem bn_brd {f : Nat → Nat} {b : Nat} (hb : b < 4) : bl_i f (nI b).toNatClampNeg = nI (f b) := by
  rw [bn_bcl hb]
theorem bn_ard {f : Nat → Nat} {a : Nat} (ha : a < 2) : bl_i f (nI a).toNatClampNeg = nI (f a) := by
  rw [bn_acl ha]

theorem bn_pred (m : Nat) : nI (m + 1) - 1 = nI m := nI_pred m
theorem bn_L4 {L : Nat} (h : 8 ≤ L) : nI L - 4 = nI (L - 4) := pk_sub (b := 4) (by omega)
theorem bn_L3 {L : Nat} (h : 8 ≤ L) : nI L - 4 + 1 = nI (L - 3) := by
  rw [bn_L4 h, nI_1]
  exact congrArg nI (by omega)
theorem bn_m4 : (-4 : Int32) = nI 0 - 4 := by decide
theorem bn_q4 (a : Nat) : nI a = nI (a + 4) - 4 := by
  have h := pk_sub (a := a + 4) (b := 4) (by omega)
  rw [Nat.add_sub_cancel] at h
  exact h.symm
theorem bn_dif {t q : Nat} (h : q ≤ t) : nI t - (nI q - 4) = nI (t - q + 4) := by
  have e : nI t - (nI q - 4) = nI t - nI q + 4 := by grind
  rw [e, pk_sub h]
  exact nI_add _ 4
theorem bn_ne4 (n : Nat) (h : n < 2 ^ 31) : ¬ nI n = -4 := by
  intro e
  have a := nI_toInt h
  rw [e] at a
  have b : (-4 : Int32).toInt = -4 := by decide
  omega
theorem bn_ne1 (n : Nat) (h : n < 2 ^ 31) : ¬ nI n = -1 := by
  intro e
  have a := nI_toInt h
  rw [e] at a
  have b : (-1 : Int32).toInt = -1 := by decide
  omega
theorem bn_ne2 (n : Nat) (h : n < 2 ^ 31) : ¬ nI n = -2 := by
  intro e
  have a := nI_toInt h
  rw [e] at a
  have b : (-2 : Int32).toInt = -2 := by decide
  omega
/-- not an index below n -/
def bn_bad (n : Nat) (x : Int32) : Prop := x < 0 ∨ nI n ≤ x
theorem bn_split (n : Nat) (hn : n < 2 ^ 31) (x : Int32) : bn_bad n x ∨ ∃ j, j < n ∧ x = nI j := by
  rcases pk_ix x hn with h | h | h
  · exact Or.inl (Or.inl h)
  · exact Or.inl (Or.inr h)
  · exact Or.inr h
theorem bn_gt {n : Nat} (hn : n + 1 < 2 ^ 31) {x : Int32} (h : nI (n + 1) ≤ x) : ¬ x ≤ nI n := by
  rw [Int32.le_iff_toInt_le, nI_toInt hn] at h
  rw [Int32.le_iff_toInt_le, nI_toInt (by omega)]
  omega
theorem bn_gt' {n : Nat} (hn : n + 1 < 2 ^ 31) {x : Int32} (h : nI (n + 1) ≤ x) : nI n < x := by
  rw [Int32.le_iff_toInt_le, nI_toInt hn] at h
  rw [Int32.lt_iff_toInt_lt, nI_toInt (by omega)]
  omega

/-- whether the arm's set A holds kind k -/
def bn_w (A : Int32) (k : Nat) : Prop := ¬ ((A >>> (nI k &&& 31)) &&& 1) = 0
theorem bn_bt1 : ∀ i, i < 32 → bt 1 i = decide (i = 0) := by decide +kernel
theorem bn_mask (A : Int32) {k : Nat} (hk : k < 8) : (((A &&& 255) >>> (nI k &&& 31)) &&& 1) = ((A >>> (nI k &&& 31)) &&& 1) := by
  apply b_ext
  intro i hi
  rw [b_and, b_and, bn_bt1 i hi]
  by_cases e : i = 0
  · subst e
    rw [b_sshr k (by omega) _ hi, b_sshr k (by omega) _ hi, if_pos (by omega), if_pos (by omega), b_and, b_255, Nat.add_zero, decide_eq_true hk, Bool.and_true]
  · rw [decide_eq_false e, Bool.and_false, Bool.and_false]
theorem bn_and1 (x : Int32) : ¬ (x &&& 1) = 0 ↔ (x &&& 1) = 1 := by
  obtain ⟨j, hj, e⟩ := pk_andE x (m := 1) 1 (by decide)
  rw [e]
  have : j = 0 ∨ j = 1 := by omega
  rcases this with rfl | rfl
  · exact ⟨fun h => absurd rfl h, fun h => absurd h (by decide)⟩
  · exact ⟨fun _ => rfl, fun _ => by decide⟩
theorem bn_w1 (A : Int32) {k : Nat} (hk : k < 8) : (((A &&& 255) >>> (nI k &&& 31)) &&& 1) = 1 ↔ bn_w A k := by
  rw [bn_mask A hk]
  exact (bn_and1 _).symm
