/- a tick, then n of them -/
abbrev st_X (P : Int32 → Int32 → (Nat → Int32) → (Nat → Int32) → (Nat → Int32) → (Nat → Int32) → (Nat → Int32) → (Nat → Int32) → (Nat → Int32) → (Nat → Int32) → Prop) (u : SX) : Prop :=
  P u.1 u.2.1 u.2.2.1 u.2.2.2.1 u.2.2.2.2.1 u.2.2.2.2.2.1 u.2.2.2.2.2.2.1 u.2.2.2.2.2.2.2.1 u.2.2.2.2.2.2.2.2.1 u.2.2.2.2.2.2.2.2.2
abbrev st_Y (P : Int32 → Int32 → (Nat → Int32) → (Nat → Int32) → (Nat → Int32) → (Nat → Int32) → (Nat → Int32) → (Nat → Int32) → (Nat → Int32) → (Nat → Int32) → (Nat → Int32) → (Nat → Int32) → Prop) (v : SY) : Prop :=
  P v.1 v.2.1 v.2.2.1 v.2.2.2.1 v.2.2.2.2.1 v.2.2.2.2.2.1 v.2.2.2.2.2.2.1 v.2.2.2.2.2.2.2.1 v.2.2.2.2.2.2.2.2.1 v.2.2.2.2.2.2.2.2.2.1 v.2.2.2.2.2.2.2.2.2.2.1 v.2.2.2.2.2.2.2.2.2.2.2
theorem st_arms : ∀ d t, t + d = 2 → ∀ (u : SX) (v : SY), bl_Rel u v → ∃ u' v', bl_Rel u' v' ∧
    (∀ post : SX → Prop, post u' → st_X (wX_workOneTick_25 post (d + 1) (nI t)) u) ∧
    (∀ (post : Int32 → SY → Prop) J x1 x2 x3, st_Y (J (x3 + 1)) v' → st_Y (wY_tick_49 post J x1 x2 x3 (d + 1) (nI t)) v) := by
  intro d
  induction d with
  | zero =>
    intro t ht u v h
    have e : t = 2 := by omega
    subst e
    obtain ⟨x1, x2, x3, x4, x5, x6, x7, x8, x9, x10⟩ := u
    obtain ⟨y1, y2, y3, y4, y5, y6, y7, y8, y9, y10, y11, y12⟩ := v
    have h2 : (2 : Int32) ≤ nI 2 := by decide
    exact ⟨_, _, h, fun post hp => br_t h2 hp, fun post J _ _ z3 hp => br_t h2 (nm_e hp)⟩
  | succ d ih =>
    intro t ht u v h
    have h2 : ¬ (2 : Int32) ≤ nI t := nI_ge (b := 2) (by omega) (by decide)
    obtain ⟨x1, x2, x3, x4, x5, x6, x7, x8, x9, x10⟩ := u
    obtain ⟨y1, y2, y3, y4, y5, y6, y7, y8, y9, y10, y11, y12⟩ := v
    have es : y7 = x5 := by
      obtain ⟨L, g, CE, CN, PL, KD, E, S, F, T, R, A, H, HY, eu, ev, c⟩ := h
      simp only [Prod.mk.injEq] at eu ev
      rw [eu.2.2.2.2.1, ev.2.2.2.2.2.2.1]
    subst es
    have hv : vp_in (nI t) 2 := bn_ain (by omega)
    by_cases z : y7 (nI t).toNatClampNeg = 0
    · obtain ⟨u', v', h', hX, hY⟩ := ih (t + 1) (by omega) _ _ h
      exact ⟨u', v', h', fun post hp => br_f h2 ⟨hv, br_t z (nm_r (nI_1 t) (hX post hp))⟩, fun post J a1 a2 a3 hp => br_f h2 ⟨hv, br_t z (nm_r (nI_1 t) (hY post J a1 a2 a3 hp))⟩⟩
    · obtain ⟨⟨w1, w2, w3, w4, w5, w6, w7, w8, w9, w10⟩, ⟨z1, z2, z3, z4, z5, z6, z7, z8, z9, z10, z11, z12⟩, h1, hX1, hY1⟩ := st_work h (a := t) (by omega)
      obtain ⟨u', v', h', hX, hY⟩ := ih (t + 1) (by omega) _ _ h1
      exact ⟨u', v', h', fun post hp => br_f h2 ⟨hv, br_f z (hX1 _ (nm_r (nI_1 t) (hX post hp)))⟩, fun post J a1 a2 a3 hp => br_f h2 ⟨hv, br_f z (hY1 _ (nm_r (nI_1 t) (hY post J a1 a2 a3 hp)))⟩⟩

theorem st_belts : ∀ d t, t + d = 4 → ∀ (u : SX) (v : SY), bl_Rel u v → ∃ u' v', bl_Rel u' v' ∧
    (∀ post : SX → Prop, post u' → st_X (wX_workOneTick_2 post (d + 1) (nI t)) u) ∧
    (∀ (post : Int32 → SY → Prop) J x1 x2 x3, st_Y (J (x3 + 1)) v' → st_Y (wY_tick_22 post J x1 x2 x3 (d + 1) (nI t)) v) := by
  intro d
  induction d with
  | zero =>
    intro t ht u v h
    have e : t = 4 := by omega
    subst e
    have h4 : (4 : Int32) ≤ nI 4 := by decide
    obtain ⟨u', v', h', hX, hY⟩ := st_arms 2 0 (by omega) u v h
    obtain ⟨x1, x2, x3, x4, x5, x6, x7, x8, x9, x10⟩ := u
    obtain ⟨y1, y2, y3, y4, y5, y6, y7, y8, y9, y10, y11, y12⟩ := v
    exact ⟨u', v', h', fun post hp => br_t h4 ⟨_, hX post hp⟩, fun post J a1 a2 a3 hp => br_t h4 ⟨_, hY post J a1 a2 a3 hp⟩⟩
  | succ d ih =>
    intro t ht u v h
    have h4 : ¬ (4 : Int32) ≤ nI t := nI_ge (b := 4) (by omega) (by decide)
    obtain ⟨⟨w1, w2, w3, w4, w5, w6, w7, w8, w9, w10⟩, ⟨z1, z2, z3, z4, z5, z6, z7, z8, z9, z10, z11, z12⟩, h1, hX1, hY1⟩ := st_end h (b := t) (by omega)
    obtain ⟨⟨p1, p2, p3, p4, p5, p6, p7, p8, p9, p10⟩, ⟨q1, q2, q3, q4, q5, q6, q7, q8, q9, q10, q11, q12⟩, h2, hX2, hY2⟩ := st_move h1 (b := t) (by omega)
    obtain ⟨u', v', h', hX, hY⟩ := ih (t + 1) (by omega) _ _ h2
    obtain ⟨x1, x2, x3, x4, x5, x6, x7, x8, x9, x10⟩ := u
    obtain ⟨y1, y2, y3, y4, y5, y6, y7, y8, y9, y10, y11, y12⟩ := v
    exact ⟨u', v', h', fun post hp => br_f h4 (hX1 _ (hX2 _ (nm_r (nI_1 t) (hX post hp)))), fun post J a1 a2 a3 hp => br_f h4 (hY1 _ (hY2 _ (nm_r (nI_1 t) (hY post J a1 a2 a3 hp))))⟩

theorem st_one {u : SX} {v : SY} (h : bl_Rel u v) : ∃ u' v', bl_Rel u' v' ∧
    (∀ post : SX → Prop, post u' → wpX_workOneTick post u) ∧
    (∀ (post : Int32 → SY → Prop) J x1 x2 x3, st_Y (J (x3 + 1)) v' → ∃ n, st_Y (wY_tick_22 post J x1 x2 x3 n 0) v) := by
  obtain ⟨u', v', h', hX, hY⟩ := st_belts 4 0 (by omega) u v h
  obtain ⟨x1, x2, x3, x4, x5, x6, x7, x8, x9, x10⟩ := u
  exact ⟨u', v', h', fun post hp => ⟨_, hX post hp⟩, fun post J a1 a2 a3 hp => ⟨_, hY post J a1 a2 a3 hp⟩⟩

theorem st_ticks {n : Nat} (hn : n ≤ 200) : ∀ d t, t + d = n → ∀ (u : SX) (v : SY), bl_Rel u v → ∃ u' v', bl_Rel u' v' ∧
    (∀ (post : Int32 → SX → Prop) x2, post (u'.2.1 - x2) u' → st_X (wX_tick_17 post x2 (nI n) (d + 1) (nI t)) u) ∧
    (∀ (post : Int32 → SY → Prop) x1 x2 N, (∀ k, k < 200 → (x1 ≤ nI k ↔ n ≤ k)) → st_Y (wY_tick_7 post x1 x2 N (nI n)) v' → st_Y (wY_tick_7 post x1 x2 (N + d) (nI t)) v) := by
  intro d
  induction d with
  | zero =>
    intro t ht u v h
    have e : t = n := by omega
    subst e
    obtain ⟨x1, x2, x3, x4, x5, x6, x7, x8, x9, x10⟩ := u
    exact ⟨_, _, h, fun post z hp => br_t (nI_le (Nat.le_refl _) (by omega)) hp, fun post a1 a2 N _ hp => hp⟩
  | succ d ih =>
    intro t ht u v h
    obtain ⟨⟨w1, w2, w3, w4, w5, w6, w7, w8, w9, w10⟩, ⟨z1, z2, z3, z4, z5, z6, z7, z8, z9, z10, z11, z12⟩, h1, hX1, hY1⟩ := st_one h
    obtain ⟨u', v', h', hX, hY⟩ := ih (t + 1) (by omega) _ _ h1
    obtain ⟨x1, x2, x3, x4, x5, x6, x7, x8, x9, x10⟩ := u
    obtain ⟨y1, y2, y3, y4, y5, y6, y7, y8, y9, y10, y11, y12⟩ := v
    refine ⟨u', v', h', fun post z hp => br_f (nI_ge (by omega) (by omega)) (hX1 _ (nm_r (nI_1 t) (hX post z hp))), fun post a1 a2 N hk hp => ?_⟩
    have hlt : ¬ a1 ≤ nI t := fun z => by have := (hk t (by omega)).mp z; omega
    refine br_f (nI_ge (b := 200) (by omega) (by decide)) (br_f hlt ?_)
    refine hY1 post _ a1 a2 (nI t) ?_
    have hr := hY post a1 a2 N hk hp
    rw [← nI_1 t] at hr
    exact hr

theorem st_rest {n : Nat} {post : Int32 → SY → Prop} {x1 x2 : Int32} (hk : ∀ k, k < 200 → (x1 ≤ nI k ↔ n ≤ k)) {v : SY} (hp : post (v.2.1 - x2) v) : ∀ d k, k + d = 200 → n ≤ k →
    st_Y (wY_tick_7 post x1 x2 (d + 1) (nI k)) v := by
  obtain ⟨y1, y2, y3, y4, y5, y6, y7, y8, y9, y10, y11, y12⟩ := v
  intro d
  induction d with
  | zero =>
    intro k hk2 _
    have e : k = 200 := by omega
    subst e
    exact br_t (by decide) hp
  | succ d ih =>
    intro k hk2 hnk
    exact br_f (nI_ge (b := 200) (by omega) (by decide)) (br_t ((hk k (by omega)).mpr hnk) (nm_r (nI_1 k) (ih (k + 1) (by omega) (by omega))))

theorem st_clamp (x : Int32) : ∃ n, n ≤ 200 ∧ (∀ post : Int32 → Prop, post (nI n) → wpX_clamp post x 0 200) ∧ (∀ k, k < 200 → (x ≤ nI k ↔ n ≤ k)) := by
  rcases pk_ix x (n := 201) (by decide) with h | h | ⟨j, hj, rfl⟩
  · refine ⟨0, by omega, fun post hp => br_f (Int32.not_le.mpr h) hp, fun k hk => ⟨fun _ => Nat.zero_le _, fun _ => ?_⟩⟩
    exact Int32.le_trans (Int32.le_of_lt h) (nI_pos' (by omega))
  · have h2 := bn_gt (n := 200) (by decide) h
    refine ⟨200, by omega, fun post hp => br_t ?_ (br_f h2 hp), fun k hk => ⟨fun z => ?_, fun z => by omega⟩⟩
    · exact Int32.le_trans (show (0 : Int32) ≤ nI 201 by decide) h
    · exact absurd (Int32.le_trans z (nI_le (b := 200) (by omega) (by decide))) h2
  · exact ⟨j, by omega, fun post hp => br_t (nI_pos' (by omega)) (br_t (nI_le (b := 200) (by omega) (by decide)) hp), fun k hk => nI_leI (by omega) (by omega)⟩
