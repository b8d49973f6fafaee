/- the calls that change nothing -/
theorem mt_items {u : SX} {v : SY} (h : bl_Rel u v) (x : Int32) : ∃ r, (∀ post : Int32 → Prop, post r → wpX_items post u x) ∧ (∀ post : Int32 → Prop, post r → wpY_items post v x) := by
  obtain ⟨L, g, CE, CN, PL, KD, E, S, F, T, R, A, H, HY, rfl, rfl, hL8, hL, w, e, ar⟩ := h
  rcases bn_split 4 (by decide) x with hx | ⟨b, hb, rfl⟩
  · refine ⟨-1, fun post hp => ?_, fun post hp => ?_⟩
    · unfold wpX_items
      exact rx_noB hx (br_t rfl hp)
    · unfold wpY_items
      exact ry_badY hx (br_f (by decide) hp)
  · refine ⟨nI (CN b), fun post hp => ?_, fun post hp => ?_⟩
    · unfold wpX_items
      exact rx_isB hb (br_f (by decide) (rx_count hb hL (w b hb) hp))
    · unfold wpY_items
      refine ry_badN hb (br_t rfl ⟨bn_bin hb, ?_⟩)
      rw [bn_brd hb]
      exact hp

theorem mt_place {u : SX} {v : SY} (h : bl_Rel u v) (x y : Int32) : ∃ r, (∀ post : Int32 → Prop, post r → wpX_place post u x y) ∧ (∀ post : Int32 → Prop, post r → wpY_place post v x y) := by
  obtain ⟨L, g, CE, CN, PL, KD, E, S, F, T, R, A, H, HY, rfl, rfl, hL8, hL, w, e, ar⟩ := h
  rcases bn_split 4 (by decide) x with hx | ⟨b, hb, rfl⟩
  · refine ⟨-1, fun post hp => ?_, fun post hp => ?_⟩
    · unfold wpX_place
      exact rx_noB hx (br_t rfl hp)
    · unfold wpY_place
      exact ry_badY hx (br_f (by decide) hp)
  · have q := w b hb
    have n16 := q.1
    have ec : bl_i CN (nI b).toNatClampNeg = nI (CN b) := bn_brd hb
    rcases bn_split (CN b) (by omega) y with hy | ⟨i, hi, rfl⟩
    · refine ⟨-4, fun post hp => ?_, fun post hp => ?_⟩
      · unfold wpX_place
        refine rx_isB hb (br_f (by decide) (rx_find y hb hL q (fun m hm em => ?_) (fun _ => hp)))
        subst em
        exact absurd hy (fun z => z.elim (nI_pos (by omega)) (nI_ge hm (by omega)))
      · unfold wpY_place
        refine ry_badN hb (br_t rfl ?_)
        by_cases y0 : y < 0
        · exact br_t y0 hp
        · exact br_f y0 ⟨bn_bin hb, br_f (by rw [ec]; exact Int32.not_lt.mpr (hy.resolve_left y0)) hp⟩
    · refine ⟨nI (PL (b * 16 + i)), fun post hp => ?_, fun post hp => ?_⟩
      · unfold wpX_place
        refine rx_isB hb (br_f (by decide) (rx_find (nI i) hb hL q (fun m hm em => ?_) (fun no => absurd rfl (no i hi))))
        have eim : i = m := (nI_eq (by omega) (by omega)).mp em
        subst eim
        exact hp
      · unfold wpY_place
        refine ry_badN hb (br_t rfl (br_f (nI_pos (by omega)) ⟨bn_bin hb, br_t (by rw [ec]; exact nI_lt hi (by omega)) ⟨bn_yin hb (by omega), ?_⟩⟩))
        rw [bn_yrd hb (by omega)]
        exact hp

theorem mt_kind {u : SX} {v : SY} (h : bl_Rel u v) (x y : Int32) : ∃ r, (∀ post : Int32 → Prop, post r → wpX_kind post u x y) ∧ (∀ post : Int32 → Prop, post r → wpY_kind post v x y) := by
  obtain ⟨L, g, CE, CN, PL, KD, E, S, F, T, R, A, H, HY, rfl, rfl, hL8, hL, w, e, ar⟩ := h
  rcases bn_split 4 (by decide) x with hx | ⟨b, hb, rfl⟩
  · refine ⟨-1, fun post hp => ?_, fun post hp => ?_⟩
    · unfold wpX_kind
      exact rx_noB hx (br_t rfl hp)
    · unfold wpY_kind
      exact ry_badY hx (br_f (by decide) hp)
  · have q := w b hb
    have n16 := q.1
    have ec : bl_i CN (nI b).toNatClampNeg = nI (CN b) := bn_brd hb
    rcases bn_split (CN b) (by omega) y with hy | ⟨i, hi, rfl⟩
    · refine ⟨-4, fun post hp => ?_, fun post hp => ?_⟩
      · unfold wpX_kind
        refine rx_isB hb (br_f (by decide) (rx_find y hb hL q (fun m hm em => ?_) (fun _ => br_f (by decide) hp)))
        subst em
        exact absurd hy (fun z => z.elim (nI_pos (by omega)) (nI_ge hm (by omega)))
      · unfold wpY_kind
        refine ry_badN hb (br_t rfl ?_)
        by_cases y0 : y < 0
        · exact br_t y0 hp
        · exact br_f y0 ⟨bn_bin hb, br_f (by rw [ec]; exact Int32.not_lt.mpr (hy.resolve_left y0)) hp⟩
    · refine ⟨nI (KD (b * 16 + i)), fun post hp => ?_, fun post hp => ?_⟩
      · unfold wpX_kind
        refine rx_isB hb (br_f (by decide) (rx_find (nI i) hb hL q (fun m hm em => ?_) (fun no => absurd rfl (no i hi))))
        have eim : i = m := (nI_eq (by omega) (by omega)).mp em
        subst eim
        have pL : PL (b * 16 + i) ≤ L := q.2.1 i hi
        have ci : CE (b * 61 + PL (b * 16 + i)) = KD (b * 16 + i) + 1 := q.2.2.2.1 i hi
        refine br_t (nI_pos' (by omega)) ⟨bn_xin hb (by omega), ?_⟩
        rw [bn_xrd hb (by omega), ci, bn_pred]
        exact hp
      · unfold wpY_kind
        refine ry_badN hb (br_t rfl (br_f (nI_pos (by omega)) ⟨bn_bin hb, br_t (by rw [ec]; exact nI_lt hi (by omega)) ⟨bn_yin hb (by omega), ?_⟩⟩))
        rw [bn_yrd hb (by omega)]
        exact hp

theorem mt_out {u : SX} {v : SY} (h : bl_Rel u v) : ∃ r, (∀ post : Int32 → Prop, post r → wpX_out post u) ∧ (∀ post : Int32 → Prop, post r → wpY_out post v) := by
  obtain ⟨L, g, CE, CN, PL, KD, E, S, F, T, R, A, H, HY, rfl, rfl, c⟩ := h
  exact ⟨g, fun post hp => hp, fun post hp => hp⟩

theorem mt_held {u : SX} {v : SY} (h : bl_Rel u v) (x : Int32) : ∃ r, (∀ post : Int32 → Prop, post r → wpX_held post u x) ∧ (∀ post : Int32 → Prop, post r → wpY_held post v x) := by
  obtain ⟨L, g, CE, CN, PL, KD, E, S, F, T, R, A, H, HY, rfl, rfl, hL8, hL, w, e, ar⟩ := h
  rcases bn_split 2 (by decide) x with hx | ⟨a, ha, rfl⟩
  · refine ⟨-5, fun post hp => ?_, fun post hp => ?_⟩
    · unfold wpX_held
      exact rx_noA hx (br_t rfl hp)
    · unfold wpY_held
      by_cases x0 : x < 0
      · exact br_t x0 hp
      · exact br_f x0 (br_f (bn_gt (n := 1) (by decide) (hx.resolve_left x0)) hp)
  · obtain ⟨hF, hT, hR, hH, hY⟩ := ar a ha
    have eH : bl_i H (nI a).toNatClampNeg = nI (H a) := bn_ard ha
    refine ⟨bl_h (H a), fun post hp => ?_, fun post hp => ?_⟩
    · unfold wpX_held
      refine rx_isA ha (br_f (by decide) ⟨bn_ain ha, ?_⟩)
      by_cases z : H a = 0
      · rw [z, bl_h0] at hp
        exact br_t (by rw [eH, z]; rfl) hp
      · obtain ⟨k, hk⟩ : ∃ k, H a = k + 1 := ⟨H a - 1, by omega⟩
        rw [hk, bl_hs] at hp
        refine br_f (by rw [eH, bn_z (by omega)]; exact z) ⟨bn_ain ha, ?_⟩
        rw [eH, hk, bn_pred]
        exact hp
    · unfold wpY_held
      refine br_f (nI_pos (by omega)) (br_t (nI_le (b := 1) (by omega) (by decide)) ⟨bn_ain ha, ?_⟩)
      rw [bn_acl ha, hY]
      exact hp

theorem mt_room {u : SX} {v : SY} (h : bl_Rel u v) (x : Int32) : ∃ r, (∀ post : Int32 → Prop, post r → wpX_room post u x) ∧ (∀ post : Int32 → Prop, post r → wpY_room post v x) := by
  obtain ⟨L, g, CE, CN, PL, KD, E, S, F, T, R, A, H, HY, rfl, rfl, hL8, hL, w, e, ar⟩ := h
  rcases bn_split 4 (by decide) x with hx | ⟨b, hb, rfl⟩
  · refine ⟨0, fun post hp => ?_, fun post hp => ?_⟩
    · unfold wpX_room
      exact rx_noB hx (br_t rfl hp)
    · unfold wpY_room
      exact ry_badY hx (br_f (by decide) hp)
  · have q := w b hb
    by_cases r : bl_rm L (CN b) (fun i => PL (b * 16 + i))
    · refine ⟨1, fun post hp => ?_, fun post hp => ?_⟩
      · unfold wpX_room
        exact rx_isB hb (br_f (by decide) (rx_hasRoom hb hL8 hL q (fun _ => br_f (by decide) hp) (fun n => absurd r n)))
      · exact ry_room hb hL8 hL q.1 q.2.1 (fun _ => hp) (fun n => absurd r n)
    · refine ⟨0, fun post hp => ?_, fun post hp => ?_⟩
      · unfold wpX_room
        exact rx_isB hb (br_f (by decide) (rx_hasRoom hb hL8 hL q (fun z => absurd z r) (fun _ => br_t rfl hp)))
      · exact ry_room hb hL8 hL q.1 q.2.1 (fun z => absurd z r) (fun _ => hp)

theorem mt_moving {u : SX} {v : SY} (h : bl_Rel u v) (x : Int32) : ∃ r, (∀ post : Int32 → Prop, post r → wpX_moving post u x) ∧ (∀ post : Int32 → Prop, post r → wpY_moving post v x) := by
  obtain ⟨L, g, CE, CN, PL, KD, E, S, F, T, R, A, H, HY, rfl, rfl, hL8, hL, w, e, ar⟩ := h
  rcases bn_split 4 (by decide) x with hx | ⟨b, hb, rfl⟩
  · refine ⟨-1, fun post hp => ?_, fun post hp => ?_⟩
    · unfold wpX_moving
      exact rx_noB hx (br_t rfl hp)
    · unfold wpY_moving
      exact ry_badY hx (br_f (by decide) hp)
  · have q := w b hb
    refine ⟨nI (bl_m (fun i => PL (b * 16 + i)) (CN b)), fun post hp => ?_, fun post hp => ?_⟩
    · unfold wpX_moving
      exact rx_isB hb (br_f (by decide) ⟨L + 1 + 1, rx_moving17 hb hL q (L + 1) 0 0 (by omega) (bl_S0 _ _) (-4) bn_m4 post hp⟩)
    · unfold wpY_moving
      exact ry_badN hb (br_t rfl ⟨CN b + 1, ry_moving18 hb hL q (CN b) 0 (by omega) (-4) bn_m4 post hp⟩)
