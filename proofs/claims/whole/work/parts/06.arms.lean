/- the reference's arm at work -/
section
variable {L a b r : Nat} {CN PL KD : Nat → Nat} {g : Int32} {E S F T R K H : Nat → Int32} {Aa : Int32}

theorem ry_117_pass {i p : Nat} {z : Int32} {post : SY → Prop} {J : Int32 → Int32 → Int32 → (Nat → Int32) → (Nat → Int32) → (Nat → Int32) → (Nat → Int32) → (Nat → Int32) → (Nat → Int32) → (Nat → Int32) → (Nat → Int32) → (Nat → Int32) → (Nat → Int32) → Prop}
    (ha : a < 2) (hp : p ≤ 60) (hr : r ≤ 60) (no : H a = -4 → r ≤ p → p ≤ r + 3 → z = 0)
    (h : J (nI (i + 1)) (nI L) g (bl_i CN) (bl_i PL) (bl_i KD) E S F T R K H) :
    wY_work_117 post J (nI a) (nI b) (nI i) (nI p - nI r) z (nI L) g (bl_i CN) (bl_i PL) (bl_i KD) E S F T R K H := by
  have eH : H (nI a).toNatClampNeg = H a := by rw [bn_acl ha]
  refine ⟨bn_ain ha, ?_⟩
  rw [eH]
  by_cases hH : H a = -4
  · refine br_t hH ?_
    by_cases c : p < r
    · exact br_t (pk_sneg (by omega) c) (nm_r (nI_1 i) h)
    · rw [pk_sub (a := p) (b := r) (by omega)]
      refine br_f (nI_pos (by omega)) ?_
      by_cases c2 : p ≤ r + 3
      · exact br_f (nI_nlt (b := p - r) (a := 3) (by omega) (by decide)) (br_t (no hH (by omega) c2) (nm_r (nI_1 i) h))
      · exact br_t (nI_lt (a := 3) (by omega) (by omega)) (nm_r (nI_1 i) h)
  · exact br_f hH (nm_r (nI_1 i) h)

theorem ry_wpass {i n : Nat} {post : SY → Prop} (ha : a < 2) (hb : b < 4) (hn : CN b ≤ 16) (hi : i < CN b) (hp : PL (b * 16 + i) ≤ 60) (hk : KD (b * 16 + i) < 8) (hr : r ≤ 60)
    (hR : R a = nI r) (hK : K a = Aa &&& 255)
    (no : H a = -4 → r ≤ PL (b * 16 + i) → PL (b * 16 + i) ≤ r + 3 → ¬ bn_w Aa (KD (b * 16 + i)))
    (h : wY_work_58 post (nI a) (nI b) n (nI (i + 1)) (nI L) g (bl_i CN) (bl_i PL) (bl_i KD) E S F T R K H) :
    wY_work_58 post (nI a) (nI b) (n + 1) (nI i) (nI L) g (bl_i CN) (bl_i PL) (bl_i KD) E S F T R K H := by
  have ec : bl_i CN (nI b).toNatClampNeg = nI (CN b) := bn_brd hb
  have h1 : ¬ bl_i CN (nI b).toNatClampNeg ≤ nI i := by rw [ec]; exact nI_ge (by omega) (by omega)
  have e4 : bl_i PL (nI b * 16 + nI i).toNatClampNeg - R (nI a).toNatClampNeg = nI (PL (b * 16 + i)) - nI r := by rw [bn_yrd hb (by omega), bn_acl ha, hR]
  have ew : ((K (nI a).toNatClampNeg >>> (bl_i KD (nI b * 16 + nI i).toNatClampNeg &&& 31)) &&& 1) = (((Aa &&& 255) >>> (nI (KD (b * 16 + i)) &&& 31)) &&& 1) := by
    rw [bn_yrd hb (by omega), bn_acl ha, hK]
  refine ⟨bn_bin hb, br_f h1 ⟨bn_yin hb (by omega), bn_ain ha, nm_r e4 ⟨bn_ain ha, bn_yin hb (by omega), ?_⟩⟩⟩
  by_cases w : bn_w Aa (KD (b * 16 + i))
  · exact br_t (ew.trans ((bn_w1 Aa hk).mpr w)) (ry_117_pass ha hp hr (fun x y z => absurd w (no x y z)) h)
  · exact br_f (fun z => w ((bn_w1 Aa hk).mp (ew.symm.trans z))) (ry_117_pass ha hp hr (fun _ _ _ => rfl) h)

theorem ry_wtake {i m n : Nat} {post : SY → Prop} (ha : a < 2) (hb : b < 4) (hm : CN b = m + 1) (hm2 : m < 16) (hi : i ≤ m) (hp : PL (b * 16 + i) ≤ 60) (hk : KD (b * 16 + i) < 8) (hr : r ≤ 60)
    (hR : R a = nI r) (hK : K a = Aa &&& 255) (hH : H a = -4) (w1 : r ≤ PL (b * 16 + i)) (w2 : PL (b * 16 + i) ≤ r + 3) (w : bn_w Aa (KD (b * 16 + i)))
    (h : wY_work_58 post (nI a) (nI b) n (nI (i + 1)) (nI L) g (bl_i (bl_u CN b m)) (bl_i (bl_sh PL (b * 16 + i) (b * 16 + m))) (bl_i (bl_sh KD (b * 16 + i) (b * 16 + m))) E S F T R K (upd H a (nI (KD (b * 16 + i))))) :
    wY_work_58 post (nI a) (nI b) (n + 1) (nI i) (nI L) g (bl_i CN) (bl_i PL) (bl_i KD) E S F T R K H := by
  have ec : bl_i CN (nI b).toNatClampNeg = nI (CN b) := bn_brd hb
  have h1 : ¬ bl_i CN (nI b).toNatClampNeg ≤ nI i := by rw [ec]; exact nI_ge (by omega) (by omega)
  have e4 : bl_i PL (nI b * 16 + nI i).toNatClampNeg - R (nI a).toNatClampNeg = nI (PL (b * 16 + i) - r) := by rw [bn_yrd hb (by omega), bn_acl ha, hR]; exact pk_sub w1
  have ew : ((K (nI a).toNatClampNeg >>> (bl_i KD (nI b * 16 + nI i).toNatClampNeg &&& 31)) &&& 1) = (((Aa &&& 255) >>> (nI (KD (b * 16 + i)) &&& 31)) &&& 1) := by
    rw [bn_yrd hb (by omega), bn_acl ha, hK]
  have eH : H (nI a).toNatClampNeg = -4 := by rw [bn_acl ha]; exact hH
  refine ⟨bn_bin hb, br_f h1 ⟨bn_yin hb (by omega), bn_ain ha, nm_r e4 ⟨bn_ain ha, bn_yin hb (by omega), br_t (ew.trans ((bn_w1 Aa hk).mpr w)) ?_⟩⟩⟩
  refine ⟨bn_ain ha, br_t eH (br_f (nI_pos (by omega)) (br_f (nI_nlt (b := PL (b * 16 + i) - r) (a := 3) (by omega) (by decide)) (br_f (by decide) ?_)))⟩
  refine ry_off hb hm hm2 hi ?_
  exact ⟨bn_ain ha, nm_r (e' := upd H a (nI (KD (b * 16 + i)))) (by rw [bn_acl ha]) (nm_r (nI_1 i) h)⟩

theorem ry_wend {post : SY → Prop} (ha : a < 2) (hb : b < 4) (hn : CN b ≤ 16) (hp : ∀ i, i < CN b → PL (b * 16 + i) ≤ 60) (hk : ∀ i, i < CN b → KD (b * 16 + i) < 8) (hr : r ≤ 60)
    (hR : R a = nI r) (hK : K a = Aa &&& 255) (h : post (nI L, g, bl_i CN, bl_i PL, bl_i KD, E, S, F, T, R, K, H)) : ∀ d i, CN b ≤ i + d → i ≤ 100 →
    (∀ k, i ≤ k → k < CN b → H a = -4 → r ≤ PL (b * 16 + k) → PL (b * 16 + k) ≤ r + 3 → ¬ bn_w Aa (KD (b * 16 + k))) →
    wY_work_58 post (nI a) (nI b) (d + 1) (nI i) (nI L) g (bl_i CN) (bl_i PL) (bl_i KD) E S F T R K H := by
  have ec : bl_i CN (nI b).toNatClampNeg = nI (CN b) := bn_brd hb
  intro d
  induction d with
  | zero =>
    intro i hi hi2 _
    exact ⟨bn_bin hb, br_t (by rw [ec]; exact nI_le (by omega) (by omega)) h⟩
  | succ d ih =>
    intro i hi hi2 no
    by_cases c : i < CN b
    · exact ry_wpass ha hb hn c (hp i c) (hk i c) hr hR hK (no i (Nat.le_refl _) c) (ih (i + 1) (by omega) (by omega) (fun k hk1 hk2 => no k (by omega) hk2))
    · exact ⟨bn_bin hb, br_t (by rw [ec]; exact nI_le (by omega) (by omega)) h⟩

theorem ry_wto {i0 N : Nat} {post : SY → Prop} (ha : a < 2) (hb : b < 4) (hn : CN b ≤ 16) (h0 : i0 < CN b) (hp : ∀ i, i < CN b → PL (b * 16 + i) ≤ 60) (hk : ∀ i, i < CN b → KD (b * 16 + i) < 8) (hr : r ≤ 60)
    (hR : R a = nI r) (hK : K a = Aa &&& 255)
    (no : ∀ k, k < i0 → r ≤ PL (b * 16 + k) → PL (b * 16 + k) ≤ r + 3 → ¬ bn_w Aa (KD (b * 16 + k)))
    (h : wY_work_58 post (nI a) (nI b) N (nI i0) (nI L) g (bl_i CN) (bl_i PL) (bl_i KD) E S F T R K H) : ∀ d i, i + d = i0 →
    wY_work_58 post (nI a) (nI b) (N + d) (nI i) (nI L) g (bl_i CN) (bl_i PL) (bl_i KD) E S F T R K H := by
  intro d
  induction d with
  | zero =>
    intro i hi
    have e : i = i0 := by omega
    subst e
    exact h
  | succ d ih =>
    intro i hi
    exact ry_wpass (n := N + d) ha hb hn (by omega) (hp i (by omega)) (hk i (by omega)) hr hR hK (fun _ => no i (by omega)) (ih (i + 1) (by omega))
end
