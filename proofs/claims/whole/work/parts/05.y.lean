/- the reference's methods, each with a general post -/
theorem ry_badN {b : Nat} (hb : b < 4) {u : SY} {post : Int32 → Prop} (h : post 0) : wpY_bad post u (nI b) := by
  obtain ⟨_, _, _, _, _, _, _, _, _, _, _, _⟩ := u
  exact br_f (nI_pos (by omega)) (br_t (nI_le (b := 3) (by omega) (by decide)) h)
theorem ry_badY {x : Int32} (hx : bn_bad 4 x) {u : SY} {post : Int32 → Prop} (h : post 1) : wpY_bad post u x := by
  obtain ⟨_, _, _, _, _, _, _, _, _, _, _, _⟩ := u
  by_cases h0 : x < 0
  · exact br_t h0 h
  · exact br_f h0 (br_f (bn_gt (n := 3) (by decide) (hx.resolve_left h0)) h)

section
variable {L b : Nat} {CN PL KD : Nat → Nat} {g : Int32} {E S F T R K H : Nat → Int32}

theorem ry_start {k : Nat} (hb : b < 4) (hn : CN b < 16) {post : SY → Prop}
    (h : post (nI L, g, bl_i (bl_u CN b (CN b + 1)), bl_i (bl_u PL (b * 16 + CN b) L), bl_i (bl_u KD (b * 16 + CN b) k), E, S, F, T, R, K, H)) :
    wpY_start post (nI L, g, bl_i CN, bl_i PL, bl_i KD, E, S, F, T, R, K, H) (nI b) (nI k) := by
  have e1 : nI b * 16 + bl_i CN (nI b).toNatClampNeg = nI (b * 16 + CN b) := by rw [bn_brd hb, bn_y]
  have e2 : bl_i CN (nI b).toNatClampNeg + 1 = nI (CN b + 1) := by rw [bn_brd hb, nI_1]
  have hi : vp_in (nI (b * 16 + CN b)) 64 := vp_in_nI (by omega) (by omega)
  have hc : (nI (b * 16 + CN b)).toNatClampNeg = b * 16 + CN b := nI_clamp (by omega)
  exact ⟨bn_bin hb, nm_r e1 ⟨hi, nm_r (bl_ui hc rfl) ⟨hi, nm_r (bl_ui hc rfl) ⟨bn_bin hb, bn_bin hb, nm_r (bl_ui (bn_bcl hb) e2) h⟩⟩⟩⟩

theorem ry_off15 {i m : Nat} {x3 : Int32} (hb : b < 4) (hm : CN b = m + 1) (hm2 : m < 16) : ∀ d k, k + d = m → i ≤ k → ∀ post : Int32 → SY → Prop,
    post x3 (nI L, g, bl_i (bl_u CN b m), bl_i (bl_sh PL (b * 16 + i) (b * 16 + m)), bl_i (bl_sh KD (b * 16 + i) (b * 16 + m)), E, S, F, T, R, K, H) →
    wY_off_15 post (nI b) x3 (nI L) g (d + 1) (nI k) (bl_i CN) (bl_i (bl_sh PL (b * 16 + i) (b * 16 + k))) (bl_i (bl_sh KD (b * 16 + i) (b * 16 + k))) E S F T R K H := by
  have ec : bl_i CN (nI b).toNatClampNeg - 1 = nI m := by rw [bn_brd hb, hm, bn_pred]
  intro d
  induction d with
  | zero =>
    intro k hk hik post hp
    have ek : k = m := by omega
    subst ek
    have h1 : bl_i CN (nI b).toNatClampNeg - 1 ≤ nI k := by rw [ec]; exact nI_le (Nat.le_refl _) (by omega)
    exact ⟨bn_bin hb, br_t h1 ⟨bn_bin hb, bn_bin hb, nm_r (bl_ui (bn_bcl hb) ec) hp⟩⟩
  | succ d ih =>
    intro k hk hik post hp
    have h1 : ¬ bl_i CN (nI b).toNatClampNeg - 1 ≤ nI k := by rw [ec]; exact nI_ge (by omega) (by omega)
    have e1 : nI b * 16 + nI k + 1 = nI (b * 16 + k + 1) := by rw [bn_y, nI_1]
    have hi1 : vp_in (nI b * 16 + nI k + 1) 64 := by rw [e1]; exact vp_in_nI (by omega) (by omega)
    have hc1 : (nI b * 16 + nI k + 1).toNatClampNeg = b * 16 + k + 1 := by rw [e1]; exact nI_clamp (by omega)
    have v1 : bl_i (bl_sh PL (b * 16 + i) (b * 16 + k)) (nI b * 16 + nI k + 1).toNatClampNeg = nI (PL (b * 16 + k + 1)) := by
      rw [hc1]; exact congrArg nI (bl_sh_hi (by omega))
    have v2 : bl_i (bl_sh KD (b * 16 + i) (b * 16 + k)) (nI b * 16 + nI k + 1).toNatClampNeg = nI (KD (b * 16 + k + 1)) := by
      rw [hc1]; exact congrArg nI (bl_sh_hi (by omega))
    have u1 : upd (bl_i (bl_sh PL (b * 16 + i) (b * 16 + k))) (nI b * 16 + nI k).toNatClampNeg (bl_i (bl_sh PL (b * 16 + i) (b * 16 + k)) (nI b * 16 + nI k + 1).toNatClampNeg) = bl_i (bl_sh PL (b * 16 + i) (b * 16 + (k + 1))) :=
      (bl_ui (bn_ycl hb (by omega)) v1).trans (congrArg bl_i (bl_sh_s PL (by omega)))
    have u2 : upd (bl_i (bl_sh KD (b * 16 + i) (b * 16 + k))) (nI b * 16 + nI k).toNatClampNeg (bl_i (bl_sh KD (b * 16 + i) (b * 16 + k)) (nI b * 16 + nI k + 1).toNatClampNeg) = bl_i (bl_sh KD (b * 16 + i) (b * 16 + (k + 1))) :=
      (bl_ui (bn_ycl hb (by omega)) v2).trans (congrArg bl_i (bl_sh_s KD (by omega)))
    have hr := ih (k + 1) (by omega) (by omega) post hp
    exact ⟨bn_bin hb, br_f h1 ⟨hi1, bn_yin hb (by omega), nm_r u1 ⟨hi1, bn_yin hb (by omega), nm_r u2 (nm_r (nI_1 k) hr)⟩⟩⟩

theorem ry_off {i m : Nat} (hb : b < 4) (hm : CN b = m + 1) (hm2 : m < 16) (hi : i ≤ m) {post : Int32 → SY → Prop}
    (h : post (nI (KD (b * 16 + i))) (nI L, g, bl_i (bl_u CN b m), bl_i (bl_sh PL (b * 16 + i) (b * 16 + m)), bl_i (bl_sh KD (b * 16 + i) (b * 16 + m)), E, S, F, T, R, K, H)) :
    wpY_off post (nI L, g, bl_i CN, bl_i PL, bl_i KD, E, S, F, T, R, K, H) (nI b) (nI i) := by
  have hr := ry_off15 (i := i) (x3 := nI (KD (b * 16 + i))) hb hm hm2 (m - i) i (by omega) (Nat.le_refl _) post h
  rw [bl_sh_0, bl_sh_0] at hr
  exact ⟨bn_yin hb (by omega), nm_r (bn_yrd hb (by omega)) ⟨_, hr⟩⟩

theorem ry_room (hb : b < 4) (hL8 : 8 ≤ L) (hL : L ≤ 60) (hn : CN b ≤ 16) (hp : ∀ i, i < CN b → PL (b * 16 + i) ≤ L) {post : Int32 → Prop}
    (h1 : bl_rm L (CN b) (fun i => PL (b * 16 + i)) → post 1) (h0 : ¬ bl_rm L (CN b) (fun i => PL (b * 16 + i)) → post 0) :
    wpY_room post (nI L, g, bl_i CN, bl_i PL, bl_i KD, E, S, F, T, R, K, H) (nI b) := by
  unfold wpY_room
  refine ry_badN hb ?_
  refine br_t rfl ⟨bn_bin hb, ?_⟩
  by_cases n0 : CN b = 0
  · have e0 : bl_i CN (nI b).toNatClampNeg = 0 := by rw [bn_brd hb, n0]; rfl
    exact br_t e0 (h1 (Or.inl n0))
  · have e0 : ¬ bl_i CN (nI b).toNatClampNeg = 0 := by rw [bn_brd hb, bn_z (by omega)]; exact n0
    obtain ⟨m, hm⟩ : ∃ m, CN b = m + 1 := ⟨CN b - 1, by omega⟩
    have e1 : nI b * 16 + bl_i CN (nI b).toNatClampNeg - 1 = nI (b * 16 + m) := by rw [bn_brd hb, bn_y, hm]; exact nI_pred (b * 16 + m)
    have hi : vp_in (nI b * 16 + bl_i CN (nI b).toNatClampNeg - 1) 64 := by rw [e1]; exact vp_in_nI (by omega) (by omega)
    have v : bl_i PL (nI b * 16 + bl_i CN (nI b).toNatClampNeg - 1).toNatClampNeg = nI (PL (b * 16 + m)) := by rw [e1, nI_clamp (by omega)]
    have pm := hp m (by omega)
    have hrm : bl_rm L (CN b) (fun i => PL (b * 16 + i)) ↔ PL (b * 16 + m) + 4 ≤ L := by
      unfold bl_rm
      rw [hm, Nat.add_sub_cancel]
      exact ⟨fun z => z.resolve_left (by omega), Or.inr⟩
    refine br_f e0 ⟨bn_bin hb, hi, ?_⟩
    rw [v, bn_L4 hL8]
    by_cases c : PL (b * 16 + m) + 4 ≤ L
    · exact br_f (nI_nlt (by omega) (by omega)) (h1 (hrm.mpr c))
    · exact br_t (nI_lt (by omega) (by omega)) (h0 (fun z => c (hrm.mp z)))

theorem ry_moves {n i : Nat} {kd ce : Nat → Nat} (hb : b < 4) (hL : L ≤ 60) (q : bl_Q L n (fun i => PL (b * 16 + i)) kd ce) (hi : i < n) {post : Int32 → Prop}
    (h1 : bl_q (fun i => PL (b * 16 + i)) i < PL (b * 16 + i) → post 1) (h0 : ¬ bl_q (fun i => PL (b * 16 + i)) i < PL (b * 16 + i) → post 0) :
    wpY_moves post (nI L, g, bl_i CN, bl_i (bl_mv PL b i), bl_i KD, E, S, F, T, R, K, H) (nI b) (nI i) := by
  have n16 := q.1
  have pi : PL (b * 16 + i) ≤ L := q.2.1 i hi
  have hin : vp_in (nI (b * 16 + i)) 64 := vp_in_nI (by omega) (by omega)
  have v : bl_i (bl_mv PL b i) (nI (b * 16 + i)).toNatClampNeg = nI (PL (b * 16 + i)) := by
    rw [nI_clamp (by omega)]; exact congrArg nI (bl_mv_hi (Nat.le_refl _))
  have hq : bl_q (fun i => PL (b * 16 + i)) i ≤ PL (b * 16 + i) := bl_q_le q.2.2.2.2.1 i hi
  refine nm_r (bn_y b i) ⟨hin, ?_⟩
  by_cases z : PL (b * 16 + i) = 0
  · exact br_t (by rw [v, z]; rfl) (h0 (by omega))
  · refine br_f (by rw [v, bn_z (by omega)]; exact z) ?_
    cases i with
    | zero => exact br_t rfl (h1 (by show 0 < _; omega))
    | succ j =>
      refine br_f (nI_ne0 (by omega) (by omega)) ?_
      have pj : PL (b * 16 + j) ≤ L := q.2.1 j (by omega)
      have lj : bl_n (fun i => PL (b * 16 + i)) j ≤ PL (b * 16 + j) := bl_n_le (fun i => PL (b * 16 + i)) j
      have ep : nI (b * 16 + (j + 1)) - 1 = nI (b * 16 + j) := nI_pred (b * 16 + j)
      have v2 : bl_i (bl_mv PL b (j + 1)) (nI (b * 16 + (j + 1)) - 1).toNatClampNeg = nI (bl_n (fun i => PL (b * 16 + i)) j) := by
        rw [ep, nI_clamp (by omega)]; exact congrArg nI (bl_mv_in (Nat.lt_succ_self _))
      have hi2 : vp_in (nI (b * 16 + (j + 1)) - 1) 64 := by rw [ep]; exact vp_in_nI (by omega) (by omega)
      refine ⟨hin, hi2, ?_⟩
      rw [bl_q_s] at hq h1 h0
      have e4 : bl_i (bl_mv PL b (j + 1)) (nI (b * 16 + (j + 1))).toNatClampNeg - bl_i (bl_mv PL b (j + 1)) (nI (b * 16 + (j + 1)) - 1).toNatClampNeg = nI (PL (b * 16 + (j + 1)) - bl_n (fun i => PL (b * 16 + i)) j) := by
        rw [v, v2]; exact pk_sub (by omega)
      by_cases c : bl_n (fun i => PL (b * 16 + i)) j + 4 < PL (b * 16 + (j + 1))
      · exact br_f (by rw [e4]; exact nI_ge (a := 4) (by omega) (by omega)) (h1 c)
      · exact br_t (by rw [e4]; exact nI_le (b := 4) (by omega) (by decide)) (h0 c)

theorem ry_move2 {kd ce : Nat → Nat} (hb : b < 4) (hL : L ≤ 60) (q : bl_Q L (CN b) (fun i => PL (b * 16 + i)) kd ce) : ∀ d i, i + d = CN b → ∀ post : SY → Prop,
    post (nI L, g, bl_i CN, bl_i (bl_mv PL b (CN b)), bl_i KD, E, S, F, T, R, K, H) →
    wY_move_2 post (nI b) (nI L) g (d + 1) (nI i) (bl_i CN) (bl_i (bl_mv PL b i)) (bl_i KD) E S F T R K H := by
  have n16 := q.1
  have ec : bl_i CN (nI b).toNatClampNeg = nI (CN b) := bn_brd hb
  intro d
  induction d with
  | zero =>
    intro i hi post hp
    have e : i = CN b := by omega
    subst e
    exact ⟨bn_bin hb, br_t (by rw [ec]; exact nI_le (Nat.le_refl _) (by omega)) hp⟩
  | succ d ih =>
    intro i hi post hp
    have h1 : ¬ bl_i CN (nI b).toNatClampNeg ≤ nI i := by rw [ec]; exact nI_ge (by omega) (by omega)
    have hr := ih (i + 1) (by omega) post hp
    have pi : PL (b * 16 + i) ≤ L := q.2.1 i (by omega)
    refine ⟨bn_bin hb, br_f h1 (ry_moves hb hL q (by omega) (fun c => ?_) (fun c => ?_))⟩
    · have v : bl_i (bl_mv PL b i) (nI b * 16 + nI i).toNatClampNeg - 1 = nI (bl_n (fun i => PL (b * 16 + i)) i) := by
        rw [bn_yrd hb (by omega), bl_mv_hi (Nat.le_refl _), bl_n_t c]; exact pk_sub (b := 1) (by omega)
      have u1 : upd (bl_i (bl_mv PL b i)) (nI b * 16 + nI i).toNatClampNeg (bl_i (bl_mv PL b i) (nI b * 16 + nI i).toNatClampNeg - 1) = bl_i (bl_mv PL b (i + 1)) :=
        (bl_ui (bn_ycl hb (by omega)) v).trans (congrArg bl_i (bl_mv_s PL b i))
      exact br_f (by decide) ⟨bn_yin hb (by omega), bn_yin hb (by omega), nm_r u1 (nm_r (nI_1 i) hr)⟩
    · rw [← bl_mv_f PL b i (bl_n_f c)] at hr
      exact br_t rfl (nm_r (nI_1 i) hr)

theorem ry_move {kd ce : Nat → Nat} (hb : b < 4) (hL : L ≤ 60) (q : bl_Q L (CN b) (fun i => PL (b * 16 + i)) kd ce) {post : SY → Prop}
    (h : post (nI L, g, bl_i CN, bl_i (bl_mv PL b (CN b)), bl_i KD, E, S, F, T, R, K, H)) :
    wpY_move post (nI L, g, bl_i CN, bl_i PL, bl_i KD, E, S, F, T, R, K, H) (nI b) := by
  have hr := ry_move2 (g := g) (KD := KD) (E := E) (S := S) (F := F) (T := T) (R := R) (K := K) (H := H) hb hL q (CN b) 0 (by omega) post h
  rw [bl_mv_0] at hr
  exact ⟨_, hr⟩

theorem ry_moving18 {kd ce : Nat → Nat} (hb : b < 4) (hL : L ≤ 60) (q : bl_Q L (CN b) (fun i => PL (b * 16 + i)) kd ce) : ∀ d i, i + d = CN b →
    ∀ x3 : Int32, x3 = nI (bl_q (fun i => PL (b * 16 + i)) i) - 4 → ∀ post : Int32 → Prop, post (nI (bl_m (fun i => PL (b * 16 + i)) (CN b))) →
    wY_moving_18 post (nI b) (nI L) g (bl_i CN) (bl_i PL) (bl_i KD) E S F T R K H (d + 1) (nI (bl_m (fun i => PL (b * 16 + i)) i)) x3 (nI i) := by
  have n16 := q.1
  have ec : bl_i CN (nI b).toNatClampNeg = nI (CN b) := bn_brd hb
  intro d
  induction d with
  | zero =>
    intro i hi x3 hx post hp
    have e : i = CN b := by omega
    subst e
    exact ⟨bn_bin hb, br_t (by rw [ec]; exact nI_le (Nat.le_refl _) (by omega)) hp⟩
  | succ d ih =>
    intro i hi x3 hx post hp
    have h1 : ¬ bl_i CN (nI b).toNatClampNeg ≤ nI i := by rw [ec]; exact nI_ge (by omega) (by omega)
    have pi : PL (b * 16 + i) ≤ L := q.2.1 i (by omega)
    have hq : bl_q (fun i => PL (b * 16 + i)) i ≤ PL (b * 16 + i) := bl_q_le q.2.2.2.2.1 i (by omega)
    have hr := ih (i + 1) (by omega) (nI (bl_n (fun i => PL (b * 16 + i)) i)) (bn_q4 _) post hp
    subst hx
    refine ⟨bn_bin hb, br_f h1 ⟨bn_yin hb (by omega), nm_r (bn_yrd hb (by omega)) ?_⟩⟩
    by_cases mv : bl_q (fun i => PL (b * 16 + i)) i < PL (b * 16 + i)
    · have em : bl_m (fun i => PL (b * 16 + i)) (i + 1) = bl_m (fun i => PL (b * 16 + i)) i + 1 := bl_m_t mv
      have en : nI (PL (b * 16 + i)) - 1 = nI (bl_n (fun i => PL (b * 16 + i)) i) := by rw [bl_n_t mv]; exact pk_sub (b := 1) (by omega)
      rw [em] at hr
      refine br_f (nI_nle (by omega) (by omega)) ?_
      refine br_f (by rw [bn_dif hq]; exact nI_ge (a := 4) (by omega) (by omega)) ?_
      exact nm_r en (nm_r (nI_1 _) (nm_r (nI_1 i) hr))
    · have em : bl_m (fun i => PL (b * 16 + i)) (i + 1) = bl_m (fun i => PL (b * 16 + i)) i := bl_m_f mv
      rw [em, bl_n_f mv] at hr
      by_cases z : PL (b * 16 + i) = 0
      · exact br_t (nI_le (b := 0) (by omega) (by decide)) (nm_r (nI_1 i) hr)
      · refine br_f (nI_nle (by omega) (by omega)) ?_
        exact br_t (by rw [bn_dif hq]; exact nI_le (b := 4) (by omega) (by decide)) (nm_r (nI_1 i) hr)
end
