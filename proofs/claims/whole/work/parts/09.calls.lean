/- each call, both sides -/
theorem mt_n2 (t : Nat) (h : t < 2 ^ 31) : ¬ nI t < -2 := by
  rw [Int32.lt_iff_toInt_lt, nI_toInt h, show (-2 : Int32).toInt = -2 from by decide]
  omega
theorem mt_lt2 {y : Int32} (h : y < 0) (h1 : ¬ y = -1) (h2 : ¬ y = -2) : y < -2 := by
  have a1 : y.toInt ≠ -1 := fun z => h1 (Int32.toInt_inj.mp (by rw [z]; decide))
  have a2 : y.toInt ≠ -2 := fun z => h2 (Int32.toInt_inj.mp (by rw [z]; decide))
  rw [Int32.lt_iff_toInt_lt, show (0 : Int32).toInt = 0 from by decide] at h
  rw [Int32.lt_iff_toInt_lt, show (-2 : Int32).toInt = -2 from by decide]
  omega
theorem mt_uA (A : Nat → Int32) (a : Nat) (x : Int32) : upd (fun j => A j &&& 255) a (x &&& 255) = fun j => upd A a x j &&& 255 := by
  funext j
  by_cases e : j = a
  · subst e
    rw [pk_us]
    show _ = upd A j x j &&& 255
    rw [pk_us]
  · rw [pk_un e]
    show _ = upd A a x j &&& 255
    rw [pk_un e]

theorem mt_put {u : SX} {v : SY} (h : bl_Rel u v) (x y : Int32) : ∃ r u' v', bl_Rel u' v' ∧
    (∀ post : Int32 → SX → Prop, post r u' → wpX_put post u x y) ∧ (∀ post : Int32 → SY → Prop, post r v' → wpY_put post v x y) := by
  obtain ⟨L, g, CE, CN, PL, KD, E, S, F, T, R, A, H, HY, rfl, rfl, hL8, hL, w, e, ar⟩ := h
  have rel := bl_mk (g := g) (S := S) (A := A) (⟨hL8, hL, w, e, ar⟩ : bl_C L CE CN PL KD E F T R H HY)
  rcases bn_split 4 (by decide) x with hx | ⟨b, hb, rfl⟩
  · refine ⟨-1, _, _, rel, fun post hp => ?_, fun post hp => ?_⟩
    · unfold wpX_put
      exact rx_noB hx (br_t rfl hp)
    · unfold wpY_put
      exact ry_badY hx (br_f (by decide) hp)
  · have q := w b hb
    rcases bn_split 8 (by decide) y with hy | ⟨k, hk, rfl⟩
    · refine ⟨-2, _, _, rel, fun post hp => ?_, fun post hp => ?_⟩
      · unfold wpX_put
        refine rx_isB hb (br_f (by decide) ?_)
        by_cases y0 : y < 0
        · exact br_t y0 hp
        · exact br_f y0 (br_f (Int32.not_lt.mpr (hy.resolve_left y0)) hp)
      · unfold wpY_put
        refine ry_badN hb (br_t rfl ?_)
        by_cases y0 : y < 0
        · exact br_t y0 hp
        · exact br_f y0 (br_f (bn_gt (n := 7) (by decide) (hy.resolve_left y0)) hp)
    · by_cases r : bl_rm L (CN b) (fun i => PL (b * 16 + i))
      · have t15 := bl_W_15 w hL8 hL hb r
        have ws := bl_W_start (k := k) w hL8 hL hb hk r
        refine ⟨nI (bl_u CN b (CN b + 1) b), _, _, bl_mk (g := g) (S := S) (A := A) ⟨hL8, hL, ws, e, ar⟩, fun post hp => ?_, fun post hp => ?_⟩
        · unfold wpX_put
          refine rx_isB hb (br_f (by decide) (br_f (nI_pos (by omega)) (br_t (nI_lt (b := 8) hk (by decide)) ?_)))
          refine rx_hasRoom hb hL8 hL q (fun _ => ?_) (fun n => absurd r n)
          exact br_f (by decide) ⟨bn_xin hb hL, nm_r (bl_ui (bn_xcl hb hL) (nI_1 k)) (rx_count hb hL (ws b hb) hp)⟩
        · unfold wpY_put
          refine ry_badN hb (br_t rfl (br_f (nI_pos (by omega)) (br_t (nI_le (b := 7) (by omega) (by decide)) ?_)))
          refine ry_room hb hL8 hL q.1 q.2.1 (fun _ => ?_) (fun n => absurd r n)
          refine br_f (by decide) (ry_start hb t15 ⟨bn_bin hb, ?_⟩)
          rw [bn_brd (f := bl_u CN b (CN b + 1)) hb]
          exact hp
      · refine ⟨-3, _, _, rel, fun post hp => ?_, fun post hp => ?_⟩
        · unfold wpX_put
          refine rx_isB hb (br_f (by decide) (br_f (nI_pos (by omega)) (br_t (nI_lt (b := 8) hk (by decide)) ?_)))
          exact rx_hasRoom hb hL8 hL q (fun z => absurd z r) (fun _ => br_t rfl hp)
        · unfold wpY_put
          refine ry_badN hb (br_t rfl (br_f (nI_pos (by omega)) (br_t (nI_le (b := 7) (by omega) (by decide)) ?_)))
          exact ry_room hb hL8 hL q.1 q.2.1 (fun z => absurd z r) (fun _ => br_t rfl hp)

theorem mt_take {u : SX} {v : SY} (h : bl_Rel u v) (x : Int32) : ∃ r u' v', bl_Rel u' v' ∧
    (∀ post : Int32 → SX → Prop, post r u' → wpX_take post u x) ∧ (∀ post : Int32 → SY → Prop, post r v' → wpY_take post v x) := by
  obtain ⟨L, g, CE, CN, PL, KD, E, S, F, T, R, A, H, HY, rfl, rfl, hL8, hL, w, e, ar⟩ := h
  have rel := bl_mk (g := g) (S := S) (A := A) (⟨hL8, hL, w, e, ar⟩ : bl_C L CE CN PL KD E F T R H HY)
  rcases bn_split 4 (by decide) x with hx | ⟨b, hb, rfl⟩
  · refine ⟨-1, _, _, rel, fun post hp => ?_, fun post hp => ?_⟩
    · unfold wpX_take
      exact rx_noB hx (br_t rfl hp)
    · unfold wpY_take
      exact ry_badY hx (br_f (by decide) hp)
  · have q := w b hb
    have n16 := q.1
    have ec : bl_i CN (nI b).toNatClampNeg = nI (CN b) := bn_brd hb
    by_cases z : CE (b * 61) = 0
    · refine ⟨-4, _, _, rel, fun post hp => ?_, fun post hp => ?_⟩
      · have ez : nI (CE (b * 61)) = 0 := by rw [z]; rfl
        unfold wpX_take
        exact rx_isB hb (br_f (by decide) ⟨bn_xin0 hb, nm_r (bn_xrd0 hb) (br_t ez hp)⟩)
      · unfold wpY_take
        refine ry_badN hb (br_t rfl ⟨bn_bin hb, ?_⟩)
        by_cases n0 : CN b = 0
        · exact br_t (by rw [ec, n0]; rfl) hp
        · have p0 : PL (b * 16) ≠ 0 := bl_zero_no (pl := fun i => PL (b * 16 + i)) q z (by omega)
          have p60 : PL (b * 16) ≤ L := q.2.1 0 (by omega)
          exact br_f (by rw [ec, bn_z (by omega)]; exact n0) ⟨bn_yin0 hb, br_f (by rw [bn_yrd0 hb]; exact nI_nle (by omega) (by omega)) hp⟩
    · obtain ⟨npos, p00, c00⟩ := bl_zero q z
      have p0 : PL (b * 16) = 0 := p00
      have c0' : CE (b * 61) = KD (b * 16) + 1 := c00
      have k8 : KD (b * 16) < 8 := q.2.2.1 0 npos
      obtain ⟨m, hm⟩ : ∃ m, CN b = m + 1 := ⟨CN b - 1, by omega⟩
      have wo : bl_W L (bl_u CE (b * 61) 0) (bl_u CN b m) (bl_sh PL (b * 16) (b * 16 + m)) (bl_sh KD (b * 16) (b * 16 + m)) := by
        have wo1 := bl_W_off (i := 0) w hL hb hm (Nat.zero_le _)
        rw [Nat.add_zero, p0, Nat.add_zero] at wo1
        exact wo1
      refine ⟨nI (KD (b * 16)), _, _, bl_mk (g := g) (S := S) (A := A) ⟨hL8, hL, wo, e, ar⟩, fun post hp => ?_, fun post hp => ?_⟩
      · have er : bl_i CE (nI b * 61).toNatClampNeg = nI (KD (b * 16) + 1) := by rw [bn_xrd0 hb, c0']
        have ez : ¬ nI (KD (b * 16) + 1) = 0 := by rw [bn_z (by omega)]; omega
        unfold wpX_take
        refine rx_isB hb (br_f (by decide) ⟨bn_xin0 hb, nm_r er (br_f ez ⟨bn_xin0 hb, nm_r (bl_ui (x := 0) (bn_xcl0 hb) rfl) ?_⟩)⟩)
        rw [bn_pred]
        exact hp
      · unfold wpY_take
        refine ry_badN hb (br_t rfl ⟨bn_bin hb, br_f (by rw [ec, bn_z (by omega)]; omega) ⟨bn_yin0 hb, br_t (by rw [bn_yrd0 hb, p0]; exact nI_le (a := 0) (b := 0) (Nat.le_refl _) (by decide)) ?_⟩⟩)
        exact ry_off (i := 0) hb hm (by omega) (Nat.zero_le _) hp

theorem mt_lead {u : SX} {v : SY} (h : bl_Rel u v) (x y : Int32) : ∃ r u' v', bl_Rel u' v' ∧
    (∀ post : Int32 → SX → Prop, post r u' → wpX_lead post u x y) ∧ (∀ post : Int32 → SY → Prop, post r v' → wpY_lead post v x y) := by
  obtain ⟨L, g, CE, CN, PL, KD, E, S, F, T, R, A, H, HY, rfl, rfl, hL8, hL, w, e, ar⟩ := h
  have rel := bl_mk (g := g) (S := S) (A := A) (⟨hL8, hL, w, e, ar⟩ : bl_C L CE CN PL KD E F T R H HY)
  rcases bn_split 4 (by decide) x with hx | ⟨b, hb, rfl⟩
  · refine ⟨-1, _, _, rel, fun post hp => ?_, fun post hp => ?_⟩
    · unfold wpX_lead
      exact rx_noB hx (br_t rfl hp)
    · unfold wpY_lead
      exact ry_badY hx (br_f (by decide) hp)
  · have eE : E (nI b).toNatClampNeg = E b := by rw [bn_bcl hb]
    have eU : upd E (nI b).toNatClampNeg y = upd E b y := by rw [bn_bcl hb]
    have relU : bl_E b y → bl_Rel (nI L, g, bl_i CE, upd E b y, S, bl_i F, bl_i T, bl_i R, A, bl_i H) (nI L, g, bl_i CN, bl_i PL, bl_i KD, upd E b y, S, bl_i F, bl_i T, bl_i R, (fun j => A j &&& 255), HY) := by
      intro hy
      refine bl_mk ⟨hL8, hL, w, fun c hc => ?_, ar⟩
      by_cases ecb : c = b
      · subst ecb; rw [pk_us]; exact hy
      · rw [pk_un ecb]; exact e c hc
    have setX : ¬ y = nI b → ∀ post : Int32 → SX → Prop, post (E b) (nI L, g, bl_i CE, upd E b y, S, bl_i F, bl_i T, bl_i R, A, bl_i H) →
        wX_lead_27 post (nI b) y (nI L) g (bl_i CE) E S (bl_i F) (bl_i T) (bl_i R) A (bl_i H) := by
      intro hne post hp
      unfold wX_lead_27 wX_lead_32
      exact br_f (by decide) (br_f hne ⟨bn_bin hb, nm_r eE ⟨bn_bin hb, nm_r eU hp⟩⟩)
    have setY : ¬ y < -2 → ¬ 3 < y → ¬ y = nI b → ∀ post : Int32 → SY → Prop, post (E b) (nI L, g, bl_i CN, bl_i PL, bl_i KD, upd E b y, S, bl_i F, bl_i T, bl_i R, (fun j => A j &&& 255), HY) →
        wpY_lead post (nI L, g, bl_i CN, bl_i PL, bl_i KD, E, S, bl_i F, bl_i T, bl_i R, (fun j => A j &&& 255), HY) (nI b) y := by
      intro h1 h2 hne post hp
      unfold wpY_lead
      exact ry_badN hb (br_t rfl (br_f h1 (br_f h2 (br_f hne ⟨bn_bin hb, nm_r eE ⟨bn_bin hb, nm_r eU hp⟩⟩))))
    by_cases y1 : y = -1
    · have hne : ¬ y = nI b := fun z => bn_ne1 b (by omega) (z.symm.trans y1)
      refine ⟨E b, _, _, relU (Or.inl y1), fun post hp => ?_, setY (by rw [y1]; decide) (by rw [y1]; decide) hne⟩
      unfold wpX_lead
      exact rx_isB hb (br_f (by decide) (br_t y1 (setX hne post hp)))
    · by_cases y2 : y = -2
      · have hne : ¬ y = nI b := fun z => bn_ne2 b (by omega) (z.symm.trans y2)
        refine ⟨E b, _, _, relU (Or.inr (Or.inl y2)), fun post hp => ?_, setY (by rw [y2]; decide) (by rw [y2]; decide) hne⟩
        unfold wpX_lead
        exact rx_isB hb (br_f (by decide) (br_f y1 (br_t y2 (setX hne post hp))))
      · rcases bn_split 4 (by decide) y with hy | ⟨t, ht, hy⟩
        · refine ⟨-5, _, _, rel, fun post hp => ?_, fun post hp => ?_⟩
          · unfold wpX_lead
            refine rx_isB hb (br_f (by decide) (br_f y1 (br_f y2 (rx_noB hy (br_t rfl ?_)))))
            unfold wX_lead_32
            exact br_t rfl hp
          · unfold wpY_lead
            refine ry_badN hb (br_t rfl ?_)
            by_cases y0 : y < 0
            · exact br_t (mt_lt2 y0 y1 y2) hp
            · have y4 := hy.resolve_left y0
              refine br_f (fun z => y0 (Int32.lt_trans z (by decide))) (br_t (bn_gt' (n := 3) (by decide) y4) hp)
        · by_cases tb : t = b
          · refine ⟨-5, _, _, rel, fun post hp => ?_, fun post hp => ?_⟩
            · unfold wpX_lead
              refine rx_isB hb (br_f (by decide) (br_f y1 (br_f y2 ?_)))
              rw [hy]
              refine rx_isB ht (br_f (by decide) ?_)
              unfold wX_lead_27 wX_lead_32
              exact br_f (by decide) (br_t (by rw [tb]) hp)
            · unfold wpY_lead
              refine ry_badN hb (br_t rfl ?_)
              rw [hy]
              exact br_f (mt_n2 t (by omega)) (br_f (nI_nlt (a := 3) (by omega) (by decide)) (br_t (by rw [tb]) hp))
          · have hne : ¬ y = nI b := by rw [hy, nI_eq (by omega) (by omega)]; exact tb
            refine ⟨E b, _, _, relU (Or.inr (Or.inr ⟨t, ht, tb, hy⟩)), fun post hp => ?_, setY (by rw [hy]; exact mt_n2 t (by omega)) (by rw [hy]; exact nI_nlt (a := 3) (by omega) (by decide)) hne⟩
            unfold wpX_lead
            refine rx_isB hb (br_f (by decide) (br_f y1 (br_f y2 ?_)))
            have hs := setX hne post hp
            rw [hy] at hs ⊢
            exact rx_isB ht (br_f (by decide) hs)

theorem mt_arm {u : SX} {v : SY} (h : bl_Rel u v) (x y z k : Int32) : ∃ r u' v', bl_Rel u' v' ∧
    (∀ post : Int32 → SX → Prop, post r u' → wpX_arm post u x y z k) ∧ (∀ post : Int32 → SY → Prop, post r v' → wpY_arm post v x y z k) := by
  obtain ⟨L, g, CE, CN, PL, KD, E, S, F, T, R, A, H, HY, rfl, rfl, hL8, hL, w, e, ar⟩ := h
  have rel := bl_mk (g := g) (S := S) (A := A) (⟨hL8, hL, w, e, ar⟩ : bl_C L CE CN PL KD E F T R H HY)
  rcases bn_split 2 (by decide) x with hx | ⟨a, ha, rfl⟩
  · refine ⟨-5, _, _, rel, fun post hp => ?_, fun post hp => ?_⟩
    · unfold wpX_arm
      exact rx_noA hx (br_t rfl hp)
    · unfold wpY_arm
      by_cases x0 : x < 0
      · exact br_t x0 hp
      · exact br_f x0 (br_t (bn_gt' (n := 1) (by decide) (hx.resolve_left x0)) hp)
  · have n1 : ¬ (1 : Int32) < nI a := nI_nlt (a := 1) (by omega) (by decide)
    rcases bn_split 61 (by decide) z with hz | ⟨r, hr, rfl⟩
    · refine ⟨-5, _, _, rel, fun post hp => ?_, fun post hp => ?_⟩
      · unfold wpX_arm
        refine rx_isA ha (br_f (by decide) ?_)
        by_cases z0 : z < 0
        · exact br_t z0 hp
        · exact br_f z0 (br_f (bn_gt (n := 60) (by decide) (hz.resolve_left z0)) hp)
      · unfold wpY_arm
        refine br_f (nI_pos (by omega)) (br_f n1 ?_)
        by_cases z0 : z < 0
        · exact br_t z0 hp
        · exact br_f z0 (br_f (bn_gt (n := 60) (by decide) (hz.resolve_left z0)) hp)
    · obtain ⟨f, hf, ef⟩ := pk_andE y (m := 3) 2 (by decide)
      obtain ⟨t, ht, et⟩ := pk_andE (y >>> ((2 : Int32) &&& 31)) (m := 3) 2 (by decide)
      have hcl := bn_acl ha
      have i60 : nI r ≤ 60 := nI_le (b := 60) (by omega) (by decide)
      refine ⟨0, (nI L, g, bl_i CE, E, upd S a (vp_nar .boolean 1), bl_i (bl_u F a f), bl_i (bl_u T a t), bl_i (bl_u R a r), upd A a k, bl_i H),
        (nI L, g, bl_i CN, bl_i PL, bl_i KD, E, upd S a (vp_nar .boolean 1), bl_i (bl_u F a f), bl_i (bl_u T a t), bl_i (bl_u R a r), (fun j => upd A a k j &&& 255), HY), bl_mk ⟨hL8, hL, w, e, fun c hc => ?_⟩, fun post hp => ?_, fun post hp => ?_⟩
      · obtain ⟨a1, a2, a3, a4, a5⟩ := ar c hc
        by_cases ec : c = a
        · subst ec
          exact ⟨by rw [bl_us]; omega, by rw [bl_us]; omega, by rw [bl_us]; omega, a4, a5⟩
        · exact ⟨by rw [bl_un ec]; exact a1, by rw [bl_un ec]; exact a2, by rw [bl_un ec]; exact a3, a4, a5⟩
      · unfold wpX_arm
        refine rx_isA ha (br_f (by decide) (br_f (nI_pos (by omega)) (br_t i60 ?_)))
        exact ⟨bn_ain ha, nm_r (e' := upd S a (vp_nar .boolean 1)) (by rw [hcl]) ⟨bn_ain ha, nm_r (bl_ui hcl ef) ⟨bn_ain ha, nm_r (bl_ui hcl et) ⟨bn_ain ha, nm_r (bl_ui hcl rfl) ⟨bn_ain ha, nm_r (e' := upd A a k) (by rw [hcl]) hp⟩⟩⟩⟩⟩
      · unfold wpY_arm
        refine br_f (nI_pos (by omega)) (br_f n1 (br_f (nI_pos (by omega)) (br_t i60 ?_)))
        exact ⟨bn_ain ha, nm_r (e' := upd S a (vp_nar .boolean 1)) (by rw [hcl]) ⟨bn_ain ha, nm_r (bl_ui hcl ef) ⟨bn_ain ha, nm_r (bl_ui hcl et) ⟨bn_ain ha, nm_r (bl_ui hcl rfl) ⟨bn_ain ha, nm_r (e' := fun j => upd A a k j &&& 255) (by rw [hcl]; exact mt_uA A a k) hp⟩⟩⟩⟩⟩

theorem mt_tick {u : SX} {v : SY} (h : bl_Rel u v) (x : Int32) : ∃ r u' v', bl_Rel u' v' ∧
    (∀ post : Int32 → SX → Prop, post r u' → wpX_tick post u x) ∧ (∀ post : Int32 → SY → Prop, post r v' → wpY_tick post v x) := by
  obtain ⟨n, hn, hc, hk⟩ := st_clamp x
  obtain ⟨u', v', h', hX, hY⟩ := st_ticks hn n 0 (by omega) u v h
  obtain ⟨x1, x2, x3, x4, x5, x6, x7, x8, x9, x10⟩ := u
  obtain ⟨y1, y2, y3, y4, y5, y6, y7, y8, y9, y10, y11, y12⟩ := v
  have eg : y2 = x2 := by
    obtain ⟨L, g, CE, CN, PL, KD, E, S, F, T, R, A, H, HY, eu, ev, c⟩ := h
    simp only [Prod.mk.injEq] at eu ev
    rw [eu.2.1, ev.2.1]
  have eg' : v'.2.1 = u'.2.1 := by
    obtain ⟨L, g, CE, CN, PL, KD, E, S, F, T, R, A, H, HY, rfl, rfl, c⟩ := h'
    rfl
  subst eg
  refine ⟨u'.2.1 - y2, u', v', h', fun post hp => ?_, fun post hp => ?_⟩
  · unfold wpX_tick
    exact hc _ ⟨_, hX post y2 hp⟩
  · unfold wpY_tick
    rw [← eg'] at hp
    exact ⟨_, hY post x y2 (200 - n + 1) hk (st_rest hk hp (200 - n) n (by omega) (Nat.le_refl _))⟩
