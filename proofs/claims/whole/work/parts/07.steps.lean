/- the relation, and one step of both sides at a time -/
def bl_E (b : Nat) (e : Int32) : Prop := e = -1 ∨ e = -2 ∨ ∃ t, t < 4 ∧ t ≠ b ∧ e = nI t
def bl_h (h : Nat) : Int32 := if h = 0 then -4 else nI (h - 1)
theorem bl_h0 : bl_h 0 = -4 := rfl
theorem bl_hs (k : Nat) : bl_h (k + 1) = nI k := by unfold bl_h; rw [if_neg (by omega), Nat.add_sub_cancel]
def bl_A (F T R H : Nat → Nat) (HY : Nat → Int32) (a : Nat) : Prop := F a < 4 ∧ T a < 4 ∧ R a ≤ 60 ∧ H a ≤ 8 ∧ HY a = bl_h (H a)
def bl_C (L : Nat) (CE CN PL KD : Nat → Nat) (E : Nat → Int32) (F T R H : Nat → Nat) (HY : Nat → Int32) : Prop :=
  8 ≤ L ∧ L ≤ 60 ∧ bl_W L CE CN PL KD ∧ (∀ b, b < 4 → bl_E b (E b)) ∧ (∀ a, a < 2 → bl_A F T R H HY a)
def bl_Rel (u : SX) (v : SY) : Prop := ∃ (L : Nat) (g : Int32) (CE CN PL KD : Nat → Nat) (E S : Nat → Int32) (F T R : Nat → Nat) (A : Nat → Int32) (H : Nat → Nat) (HY : Nat → Int32),
  u = (nI L, g, bl_i CE, E, S, bl_i F, bl_i T, bl_i R, A, bl_i H) ∧
  v = (nI L, g, bl_i CN, bl_i PL, bl_i KD, E, S, bl_i F, bl_i T, bl_i R, (fun j => A j &&& 255), HY) ∧
  bl_C L CE CN PL KD E F T R H HY
theorem bl_mk {L : Nat} {g : Int32} {CE CN PL KD : Nat → Nat} {E S : Nat → Int32} {F T R : Nat → Nat} {A : Nat → Int32} {H : Nat → Nat} {HY : Nat → Int32} (c : bl_C L CE CN PL KD E F T R H HY) :
    bl_Rel (nI L, g, bl_i CE, E, S, bl_i F, bl_i T, bl_i R, A, bl_i H) (nI L, g, bl_i CN, bl_i PL, bl_i KD, E, S, bl_i F, bl_i T, bl_i R, (fun j => A j &&& 255), HY) :=
  ⟨L, g, CE, CN, PL, KD, E, S, F, T, R, A, H, HY, rfl, rfl, c⟩

theorem st_move {u : SX} {v : SY} (h : bl_Rel u v) {b : Nat} (hb : b < 4) : ∃ u' v', bl_Rel u' v' ∧
    (∀ post : SX → Prop, post u' → wpX_moveItems post u (nI b)) ∧ (∀ post : SY → Prop, post v' → wpY_move post v (nI b)) := by
  obtain ⟨L, g, CE, CN, PL, KD, E, S, F, T, R, A, H, HY, rfl, rfl, hL8, hL, w, e, ar⟩ := h
  obtain ⟨CE', f, m, hX⟩ := rx_move (g := g) hb hL (w b hb)
  refine ⟨_, _, bl_mk (L := L) (g := g) (CE := CE') (CN := CN) (PL := bl_mv PL b (CN b)) (KD := KD) (E := E) (S := S) (F := F) (T := T) (R := R) (A := A) (H := H) (HY := HY) ⟨hL8, hL, bl_W_move w hL hb f m, e, ar⟩, ?_, ?_⟩
  · intro post hp
    exact hX _ _ _ _ _ _ _ post hp
  · intro post hp
    exact ry_move hb hL (w b hb) hp

theorem st_end {u : SX} {v : SY} (h : bl_Rel u v) {b : Nat} (hb : b < 4) : ∃ u' v', bl_Rel u' v' ∧
    (∀ post : SX → Prop, post u' → wpX_passOnFirst post u (nI b)) ∧ (∀ post : SY → Prop, post v' → wpY_end post v (nI b)) := by
  obtain ⟨L, g, CE, CN, PL, KD, E, S, F, T, R, A, H, HY, rfl, rfl, hL8, hL, w, e, ar⟩ := h
  have q := w b hb
  have n16 := q.1
  have ec : bl_i CN (nI b).toNatClampNeg = nI (CN b) := bn_brd hb
  have eE : E (nI b).toNatClampNeg = E b := by rw [bn_bcl hb]
  by_cases z : CE (b * 61) = 0
  · -- nothing at the end
    refine ⟨_, _, bl_mk (g := g) (S := S) (A := A) ⟨hL8, hL, w, e, ar⟩, ?_, ?_⟩
    · intro post hp
      have ez : nI (CE (b * 61)) = 0 := by rw [z]; rfl
      exact ⟨bn_xin0 hb, nm_r (bn_xrd0 hb) ⟨bn_bin hb, nm_r eE (br_t ez hp)⟩⟩
    · intro post hp
      refine ⟨bn_bin hb, ?_⟩
      by_cases n0 : CN b = 0
      · exact br_t (by rw [ec, n0]; exact nI_le (a := 0) (b := 0) (Nat.le_refl _) (by decide)) hp
      · have p0 : PL (b * 16) ≠ 0 := bl_zero_no (pl := fun i => PL (b * 16 + i)) q z (by omega)
        have p60 : PL (b * 16) ≤ L := q.2.1 0 (by omega)
        exact br_f (by rw [ec]; exact nI_nle (by omega) (by omega)) ⟨bn_yin0 hb, br_f (by rw [bn_yrd0 hb, bn_z (by omega)]; exact p0) hp⟩
  · obtain ⟨npos, p00, c00⟩ := bl_zero q z
    have p0 : PL (b * 16) = 0 := p00
    have c0' : CE (b * 61) = KD (b * 16) + 1 := c00
    have k8 : KD (b * 16) < 8 := q.2.2.1 0 npos
    obtain ⟨m, hm⟩ : ∃ m, CN b = m + 1 := ⟨CN b - 1, by omega⟩
    have ez : ¬ nI (CE (b * 61)) = 0 := by rw [bn_z (by omega)]; exact z
    have wo : bl_W L (bl_u CE (b * 61) 0) (bl_u CN b m) (bl_sh PL (b * 16) (b * 16 + m)) (bl_sh KD (b * 16) (b * 16 + m)) := by
      have wo1 := bl_W_off (i := 0) w hL hb hm (Nat.zero_le _)
      rw [Nat.add_zero, p0, Nat.add_zero] at wo1
      exact wo1
    have hy1 : ¬ bl_i CN (nI b).toNatClampNeg ≤ 0 := by rw [ec]; exact nI_nle (by omega) (by omega)
    have hy2 : bl_i PL (nI b * 16).toNatClampNeg = 0 := by rw [bn_yrd0 hb, p0]; rfl
    rcases e b hb with eb | eb | ⟨t, ht, htb, eb⟩
    · -- it leads nowhere
      refine ⟨_, _, bl_mk (g := g) (S := S) (A := A) ⟨hL8, hL, w, e, ar⟩, ?_, ?_⟩
      · intro post hp
        exact ⟨bn_xin0 hb, nm_r (bn_xrd0 hb) ⟨bn_bin hb, nm_r eE (br_f ez (br_t eb hp))⟩⟩
      · intro post hp
        exact ⟨bn_bin hb, br_f hy1 ⟨bn_yin0 hb, br_t hy2 ⟨bn_bin hb, nm_r (eE.trans eb) (br_f (by decide) (br_t (by decide) hp))⟩⟩⟩
    · -- it leads out
      refine ⟨_, _, bl_mk (g := g + 1) (S := S) (A := A) ⟨hL8, hL, wo, e, ar⟩, ?_, ?_⟩
      · intro post hp
        exact ⟨bn_xin0 hb, nm_r (bn_xrd0 hb) ⟨bn_bin hb, nm_r (eE.trans eb) (br_f ez (br_f (by decide) (br_t rfl ⟨bn_xin0 hb, nm_r (bl_ui (x := 0) (bn_xcl0 hb) rfl) (nm_e hp)⟩)))⟩⟩
      · intro post hp
        exact ⟨bn_bin hb, br_f hy1 ⟨bn_yin0 hb, br_t hy2 ⟨bn_bin hb, nm_r (eE.trans eb) (br_t rfl (ry_off (i := 0) hb hm (by omega) (Nat.zero_le _) (nm_e hp)))⟩⟩⟩
    · -- to a belt
      have qt := w t ht
      by_cases r : bl_rm L (CN t) (fun i => PL (t * 16 + i))
      · have t15 := bl_W_15 w hL8 hL ht r
        have cn1 : bl_u CN b m t = CN t := bl_un htb
        have r1 : bl_rm L (bl_u CN b m t) (fun i => bl_sh PL (b * 16) (b * 16 + m) (t * 16 + i)) := by
          rw [cn1]
          rcases r with r | r
          · exact Or.inl r
          · by_cases n0 : CN t = 0
            · exact Or.inl n0
            · refine Or.inr ?_
              have eq : bl_sh PL (b * 16) (b * 16 + m) (t * 16 + (CN t - 1)) = PL (t * 16 + (CN t - 1)) := by
                by_cases lt : t < b
                · exact bl_sh_lo (by omega)
                · exact bl_sh_hi (by omega)
              show bl_sh PL (b * 16) (b * 16 + m) (t * 16 + (CN t - 1)) + 4 ≤ L
              rw [eq]
              exact r
        have ws := bl_W_start (k := KD (b * 16)) wo hL8 hL ht k8 r1
        rw [← c0'] at ws
        refine ⟨_, _, bl_mk (g := g) (S := S) (A := A) ⟨hL8, hL, ws, e, ar⟩, ?_, ?_⟩
        · intro post hp
          refine ⟨bn_xin0 hb, nm_r (bn_xrd0 hb) ⟨bn_bin hb, nm_r (eE.trans eb) (br_f ez (br_f (bn_ne1 t (by omega)) (br_f (bn_ne2 t (by omega)) ?_)))⟩⟩
          refine rx_hasRoom ht hL8 hL qt (fun _ => ?_) (fun n => absurd r n)
          exact br_f (by decide) ⟨bn_xin0 hb, nm_r (bl_ui (x := 0) (bn_xcl0 hb) rfl) ⟨bn_xin ht hL, nm_r (bl_ui (bn_xcl ht hL) rfl) hp⟩⟩
        · intro post hp
          refine ⟨bn_bin hb, br_f hy1 ⟨bn_yin0 hb, br_t hy2 ⟨bn_bin hb, nm_r (eE.trans eb) (br_f (bn_ne2 t (by omega)) (br_f (nI_pos (by omega)) ?_))⟩⟩⟩
          refine ry_room ht hL8 hL qt.1 qt.2.1 (fun _ => ?_) (fun n => absurd r n)
          refine br_f (by decide) (ry_off (i := 0) hb hm (by omega) (Nat.zero_le _) ?_)
          exact ry_start ht (by rw [cn1]; exact t15) hp
      · refine ⟨_, _, bl_mk (g := g) (S := S) (A := A) ⟨hL8, hL, w, e, ar⟩, ?_, ?_⟩
        · intro post hp
          refine ⟨bn_xin0 hb, nm_r (bn_xrd0 hb) ⟨bn_bin hb, nm_r (eE.trans eb) (br_f ez (br_f (bn_ne1 t (by omega)) (br_f (bn_ne2 t (by omega)) ?_)))⟩⟩
          exact rx_hasRoom ht hL8 hL qt (fun y => absurd y r) (fun _ => br_t rfl hp)
        · intro post hp
          refine ⟨bn_bin hb, br_f hy1 ⟨bn_yin0 hb, br_t hy2 ⟨bn_bin hb, nm_r (eE.trans eb) (br_f (bn_ne2 t (by omega)) (br_f (nI_pos (by omega)) ?_))⟩⟩⟩
          exact ry_room ht hL8 hL qt.1 qt.2.1 (fun y => absurd y r) (fun _ => br_t rfl hp)

theorem st_work {u : SX} {v : SY} (h : bl_Rel u v) {a : Nat} (ha : a < 2) : ∃ u' v', bl_Rel u' v' ∧
    (∀ post : SX → Prop, post u' → wpX_workArm post u (nI a)) ∧ (∀ post : SY → Prop, post v' → wpY_work post v (nI a)) := by
  obtain ⟨L, g, CE, CN, PL, KD, E, S, F, T, R, A, H, HY, rfl, rfl, hL8, hL, w, e, ar⟩ := h
  obtain ⟨hF, hT, hR, hH, hY⟩ := ar a ha
  have eH : bl_i H (nI a).toNatClampNeg = nI (H a) := bn_ard ha
  have eY : HY (nI a).toNatClampNeg = HY a := by rw [bn_acl ha]
  have eF : bl_i F (nI a).toNatClampNeg = nI (F a) := bn_ard ha
  have eT : bl_i T (nI a).toNatClampNeg = nI (T a) := bn_ard ha
  have eR : bl_i R (nI a).toNatClampNeg = nI (R a) := bn_ard ha
  have arU : ∀ (h' : Nat) (hy' : Int32), h' ≤ 8 → hy' = bl_h h' → ∀ c, c < 2 → bl_A F T R (bl_u H a h') (upd HY a hy') c := by
    intro h' hy' h8 ey c hc
    by_cases ec : c = a
    · subst ec
      exact ⟨hF, hT, hR, by rw [bl_us]; exact h8, by rw [bl_us, pk_us]; exact ey⟩
    · obtain ⟨a1, a2, a3, a4, a5⟩ := ar c hc
      exact ⟨a1, a2, a3, by rw [bl_un ec]; exact a4, by rw [bl_un ec, pk_un ec]; exact a5⟩
  by_cases z : H a = 0
  · -- the arm is empty
    rw [z, bl_h0] at hY
    have ez : bl_i H (nI a).toNatClampNeg = 0 := by rw [eH, z]; rfl
    have ezY : HY (nI a).toNatClampNeg = -4 := by rw [eY]; exact hY
    have q := w (F a) hF
    have n16 := q.1
    have p60 : ∀ i, i < CN (F a) → PL (F a * 16 + i) ≤ 60 := fun i hi => Nat.le_trans (q.2.1 i hi) hL
    have c8 : ∀ j, j ≤ L → CE (F a * 61 + j) ≤ 8 := bl_Q_le q
    by_cases ex : ∃ i, i < CN (F a) ∧ R a ≤ PL (F a * 16 + i) ∧ PL (F a * 16 + i) ≤ R a + 3 ∧ bn_w (A a) (KD (F a * 16 + i))
    · obtain ⟨i, ⟨hi, w1, w2, ww⟩, least⟩ := pk_least _ ex
      obtain ⟨m, hm⟩ : ∃ m, CN (F a) = m + 1 := ⟨CN (F a) - 1, by omega⟩
      have pi : PL (F a * 16 + i) ≤ L := q.2.1 i hi
      have ki : KD (F a * 16 + i) < 8 := q.2.2.1 i hi
      have ci : CE (F a * 61 + PL (F a * 16 + i)) = KD (F a * 16 + i) + 1 := q.2.2.2.1 i hi
      have wo := bl_W_off (i := i) w hL hF hm (by omega)
      refine ⟨_, _, bl_mk (g := g) (S := S) (A := A) ⟨hL8, hL, wo, e, arU (KD (F a * 16 + i) + 1) (nI (KD (F a * 16 + i))) (by omega) (bl_hs _).symm⟩, ?_, ?_⟩
      · intro post hp
        refine ⟨bn_ain ha, br_t ez (rx_pick (b := F a) (r := R a) ha hL hR rfl rfl ?_)⟩
        refine ⟨_, rx_pick_at (k := KD (F a * 16 + i)) (p := PL (F a * 16 + i)) ha hF hL ?_ ?_ c8 ci ww (PL (F a * 16 + i) - R a) (R a) (by omega) (fun j j1 j2 j3 j4 => ?_) _ ?_⟩
        · split <;> omega
        · split <;> omega
        · obtain ⟨k, hk, ek⟩ := q.2.2.2.2.2 j (by omega) j3
          have ek2 : PL (F a * 16 + k) = j := ek
          have ck : CE (F a * 61 + PL (F a * 16 + k)) = KD (F a * 16 + k) + 1 := q.2.2.2.1 k hk
          rw [ek2] at ck
          rw [ck, Nat.add_sub_cancel] at j4
          have hki : k < i := by
            rcases Nat.lt_trichotomy k i with y | y | y
            · exact y
            · subst y; omega
            · have hl : PL (F a * 16 + i) + 4 ≤ PL (F a * 16 + k) := bl_lt (pl := fun i => PL (F a * 16 + i)) q.2.2.2.2.1 y hk
              omega
          exact least k hki ⟨hk, by omega, by omega, j4⟩
        · show post _
          have eu : upd (bl_i H) a (nI (KD (F a * 16 + i) + 1)) = bl_i (bl_u H a (KD (F a * 16 + i) + 1)) := bl_ui rfl rfl
          rw [eu]
          exact hp
      · intro post hp
        refine ⟨bn_ain ha, br_t ezY ⟨bn_ain ha, nm_r eF ⟨(m - i + 1 + 1) + i, ?_⟩⟩⟩
        refine ry_wto (Aa := A a) (r := R a) (i0 := i) ha hF n16 hi p60 q.2.2.1 hR rfl rfl (fun k hk k1 k2 k3 => least k hk ⟨by omega, k1, k2, k3⟩) ?_ i 0 (by omega)
        refine ry_wtake (n := m - i + 1) (Aa := A a) (r := R a) ha hF hm (by omega) (by omega) (by omega) ki hR rfl rfl hY w1 w2 ww ?_
        have wq := wo (F a) hF
        have wn := wq.1
        refine ry_wend (Aa := A a) (r := R a) ha hF wn (fun j hj => Nat.le_trans (wq.2.1 j hj) hL) wq.2.2.1 hR rfl rfl hp (m - i) (i + 1) (by rw [bl_us]; omega) (by omega) (fun k _ _ k3 => ?_)
        rw [pk_us] at k3
        exact absurd k3 (bn_ne4 _ (by omega))
    · refine ⟨_, _, bl_mk (g := g) (S := S) (A := A) ⟨hL8, hL, w, e, ar⟩, ?_, ?_⟩
      · intro post hp
        refine ⟨bn_ain ha, br_t ez (rx_pick (b := F a) (r := R a) ha hL hR rfl rfl ?_)⟩
        refine ⟨_, rx_pick_no ha hF hL ?_ c8 100 (R a) ?_ (by omega) (fun j j1 j2 j3 j4 => ?_) _ hp⟩
        · split <;> omega
        · split <;> omega
        · have jL : j ≤ L ∧ j ≤ R a + 3 := by split at j2 <;> omega
          obtain ⟨k, hk, ek⟩ := q.2.2.2.2.2 j jL.1 j3
          have ek2 : PL (F a * 16 + k) = j := ek
          have ck : CE (F a * 61 + PL (F a * 16 + k)) = KD (F a * 16 + k) + 1 := q.2.2.2.1 k hk
          rw [ek2] at ck
          rw [ck, Nat.add_sub_cancel] at j4
          exact ex ⟨k, hk, by omega, by omega, j4⟩
      · intro post hp
        refine ⟨bn_ain ha, br_t ezY ⟨bn_ain ha, nm_r eF ⟨16 + 1, ?_⟩⟩⟩
        exact ry_wend (Aa := A a) (r := R a) ha hF n16 p60 q.2.2.1 hR rfl rfl hp 16 0 (by omega) (by omega) (fun k k1 k2 _ k4 k5 k6 => ex ⟨k, k2, k4, k5, k6⟩)
  · -- the arm holds an item
    obtain ⟨k, hk⟩ : ∃ k, H a = k + 1 := ⟨H a - 1, by omega⟩
    rw [hk, bl_hs] at hY
    have ez : ¬ bl_i H (nI a).toNatClampNeg = 0 := by rw [eH, bn_z (by omega)]; exact z
    have ezY : ¬ HY (nI a).toNatClampNeg = -4 := by rw [eY, hY]; exact bn_ne4 k (by omega)
    have q := w (T a) hT
    by_cases r : bl_rm L (CN (T a)) (fun i => PL (T a * 16 + i))
    · have t15 := bl_W_15 w hL8 hL hT r
      have ws := bl_W_start (k := k) w hL8 hL hT (by omega) r
      refine ⟨_, _, bl_mk (g := g) (S := S) (A := A) ⟨hL8, hL, ws, e, arU 0 (-4) (by omega) rfl⟩, ?_, ?_⟩
      · intro post hp
        refine ⟨bn_ain ha, br_f ez ⟨bn_ain ha, nm_r eT (rx_hasRoom hT hL8 hL q (fun _ => ?_) (fun n => absurd r n))⟩⟩
        have v : bl_i H (nI a).toNatClampNeg = nI (k + 1) := by rw [eH, hk]
        exact br_f (by decide) ⟨bn_ain ha, bn_xin hT hL, nm_r (bl_ui (bn_xcl hT hL) v) ⟨bn_ain ha, nm_r (bl_ui (x := 0) (bn_acl ha) rfl) hp⟩⟩
      · intro post hp
        refine ⟨bn_ain ha, br_f ezY ⟨bn_ain ha, ?_⟩⟩
        rw [eT, eY, hY]
        refine ry_room hT hL8 hL q.1 q.2.1 (fun _ => ?_) (fun n => absurd r n)
        refine br_f (by decide) ⟨bn_ain ha, bn_ain ha, ry_start hT t15 ?_⟩
        exact ⟨bn_ain ha, nm_r (e' := upd HY a (-4)) (by rw [bn_acl ha]) hp⟩
    · refine ⟨_, _, bl_mk (g := g) (S := S) (A := A) ⟨hL8, hL, w, e, ar⟩, ?_, ?_⟩
      · intro post hp
        exact ⟨bn_ain ha, br_f ez ⟨bn_ain ha, nm_r eT (rx_hasRoom hT hL8 hL q (fun y => absurd y r) (fun _ => br_t rfl hp))⟩⟩
      · intro post hp
        refine ⟨bn_ain ha, br_f ezY ⟨bn_ain ha, ?_⟩⟩
        rw [eT]
        exact ry_room hT hL8 hL q.1 q.2.1 (fun y => absurd y r) (fun _ => br_t rfl hp)
