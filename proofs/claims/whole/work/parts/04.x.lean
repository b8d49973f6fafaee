/- X's own methods, each with a general post -/
theorem rx_isB {b : Nat} (hb : b < 4) {post : Int32 → Prop} (h : post 1) : wpX_isBelt post (nI b) :=
  br_f (nI_pos (by omega)) (br_f (nI_ge (b := 4) hb (by decide)) h)
theorem rx_noB {x : Int32} (hx : bn_bad 4 x) {post : Int32 → Prop} (h : post 0) : wpX_isBelt post x := by
  by_cases h0 : x < 0
  · exact br_t h0 h
  · exact br_f h0 (br_t (hx.resolve_left h0) h)
theorem rx_isA {a : Nat} (ha : a < 2) {post : Int32 → Prop} (h : post 1) : wpX_isArm post (nI a) :=
  br_f (nI_pos (by omega)) (br_f (nI_ge (b := 2) ha (by decide)) h)
theorem rx_noA {x : Int32} (hx : bn_bad 2 x) {post : Int32 → Prop} (h : post 0) : wpX_isArm post x := by
  by_cases h0 : x < 0
  · exact br_t h0 h
  · exact br_f h0 (br_t (hx.resolve_left h0) h)
theorem rx_clampN {a L : Nat} (ha : a < 2 ^ 31) (hL : L < 2 ^ 31) {post : Int32 → Prop} (h : post (nI (if a ≤ L then a else L))) : wpX_clamp post (nI a) 0 (nI L) := by
  by_cases e : a ≤ L
  · rw [if_pos e] at h
    exact br_t (nI_pos' ha) (br_t (nI_le e hL) h)
  · rw [if_neg e] at h
    exact br_t (nI_pos' ha) (br_f (nI_ge (by omega) ha) h)
theorem rx_pam {t q : Nat} (hq : q ≤ t) (ht : t < 1000) {post : Int32 → Prop} (h : post (nI (if q < t then t - 1 else t))) : wpX_placeAfterMove post (nI t) (nI q - 4) := by
  by_cases t0 : t = 0
  · subst t0
    rw [if_neg (by omega)] at h
    exact br_t (nI_le (a := 0) (b := 0) (by omega) (by decide)) h
  · refine br_f (nI_nle (by omega) (by omega)) ?_
    rw [bn_dif hq]
    by_cases e : q < t
    · rw [if_pos e] at h
      refine br_f (nI_ge (b := t - q + 4) (a := 4) (by omega) (by omega)) ?_
      have e2 : nI t - 1 = nI (t - 1) := pk_sub (b := 1) (by omega)
      rw [e2]
      exact h
    · rw [if_neg e] at h
      exact br_t (nI_le (a := t - q + 4) (b := 4) (by omega) (by decide)) h

section
variable {L b : Nat} {CE : Nat → Nat} {g : Int32} {E S F T R A H : Nat → Int32}

theorem rx_room9 (hb : b < 4) (hL : L ≤ 60) (hc : ∀ j, j ≤ L → CE (b * 61 + j) ≤ 8) : ∀ d t, t + d = L + 1 → ∀ post : Int32 → Prop,
    ((∀ j, t ≤ j → j ≤ L → CE (b * 61 + j) = 0) → post 1) → ((¬ ∀ j, t ≤ j → j ≤ L → CE (b * 61 + j) = 0) → post 0) →
    wX_hasRoom_9 post (nI b) (nI L) g (bl_i CE) E S F T R A H (d + 1) (nI t) := by
  intro d
  induction d with
  | zero =>
    intro t ht post h1 _
    exact br_t (nI_lt (by omega) (by omega)) (h1 (fun j a b => by omega))
  | succ d ih =>
    intro t ht post h1 h0
    have hn : ¬ nI L < nI t := nI_nlt (by omega) (by omega)
    have hcl := hc t (by omega)
    by_cases z : CE (b * 61 + t) = 0
    · have ez : bl_i CE (nI b * 61 + nI t).toNatClampNeg = 0 := by rw [bn_xrd hb (by omega), z]; rfl
      refine br_f hn ⟨bn_xin hb (by omega), br_t ez (nm_r (nI_1 t) (ih (t + 1) (by omega) post (fun k => h1 (fun j a b => ?_)) (fun k => h0 (fun q => k (fun j a b => q j (by omega) b)))))⟩
      by_cases e : j = t
      · subst e; exact z
      · exact k j (by omega) b
    · have ez : ¬ bl_i CE (nI b * 61 + nI t).toNatClampNeg = 0 := by rw [bn_xrd hb (by omega), bn_z (by omega)]; exact z
      exact br_f hn ⟨bn_xin hb (by omega), br_f ez (h0 (fun q => z (q t (Nat.le_refl _) (by omega))))⟩

theorem rx_hasRoom {n : Nat} {pl kd : Nat → Nat} (hb : b < 4) (hL8 : 8 ≤ L) (hL : L ≤ 60) (q : bl_Q L n pl kd (fun j => CE (b * 61 + j))) {post : Int32 → Prop}
    (h1 : bl_rm L n pl → post 1) (h0 : ¬ bl_rm L n pl → post 0) : wpX_hasRoom post (nI L, g, bl_i CE, E, S, F, T, R, A, H) (nI b) := by
  have hi := bl_rm_iff q hL8
  refine nm_r (bn_L3 hL8) ⟨4 + 1, rx_room9 hb hL (bl_Q_le q) 4 (L - 3) (by omega) post (fun k => h1 (hi.mpr (fun j a c => k j (by omega) c))) (fun k => h0 (fun r => k (fun j a c => hi.mp r j (by omega) c)))⟩

theorem rx_cnt4 {n : Nat} {pl kd : Nat → Nat} (hb : b < 4) (hL : L ≤ 60) (q : bl_Q L n pl kd (fun j => CE (b * 61 + j))) : ∀ d t i, t + d = L + 1 → bl_S n pl t i → ∀ post : Int32 → Prop,
    post (nI n) → wX_countItems_4 post (nI b) (nI L) g (bl_i CE) E S F T R A H (d + 1) (nI i) (nI t) := by
  intro d
  induction d with
  | zero =>
    intro t i ht s post hp
    have et : t = L + 1 := by omega
    subst et
    have e := bl_S_end q s
    subst e
    exact br_t (nI_lt (by omega) (by omega)) hp
  | succ d ih =>
    intro t i ht s post hp
    have hn : ¬ nI L < nI t := nI_nlt (by omega) (by omega)
    rcases bl_scan q s (by omega) with ⟨z, s'⟩ | ⟨hi, e, z, s'⟩
    · replace z : CE (b * 61 + t) = 0 := z
      have ez : bl_i CE (nI b * 61 + nI t).toNatClampNeg = 0 := by rw [bn_xrd hb (by omega), z]; rfl
      exact br_f hn ⟨bn_xin hb (by omega), br_t ez (nm_r (nI_1 t) (ih (t + 1) i (by omega) s' post hp))⟩
    · replace z : CE (b * 61 + t) = kd i + 1 := z
      have k8 := q.2.2.1 i hi
      have ez : ¬ bl_i CE (nI b * 61 + nI t).toNatClampNeg = 0 := by rw [bn_xrd hb (by omega), bn_z (by omega)]; omega
      exact br_f hn ⟨bn_xin hb (by omega), br_f ez (nm_r (nI_1 i) (nm_r (nI_1 t) (ih (t + 1) (i + 1) (by omega) s' post hp)))⟩

theorem rx_count {n : Nat} {pl kd : Nat → Nat} (hb : b < 4) (hL : L ≤ 60) (q : bl_Q L n pl kd (fun j => CE (b * 61 + j))) {post : Int32 → Prop}
    (h : post (nI n)) : wpX_countItems post (nI L, g, bl_i CE, E, S, F, T, R, A, H) (nI b) :=
  ⟨L + 1 + 1, rx_cnt4 hb hL q (L + 1) 0 0 (by omega) (bl_S0 n pl) post h⟩

theorem rx_find5 {n : Nat} {pl kd : Nat → Nat} (x : Int32) (hb : b < 4) (hL : L ≤ 60) (q : bl_Q L n pl kd (fun j => CE (b * 61 + j))) : ∀ d t i, t + d = L + 1 → bl_S n pl t i →
    (∀ m, m < i → x ≠ nI m) → ∀ post : Int32 → Prop, (∀ m, m < n → x = nI m → post (nI (pl m))) → ((∀ m, m < n → x ≠ nI m) → post (-4)) →
    wX_findItem_5 post (nI b) x (nI L) g (bl_i CE) E S F T R A H (d + 1) (nI i) (nI t) := by
  intro d
  induction d with
  | zero =>
    intro t i ht s hx post h1 h0
    have et : t = L + 1 := by omega
    subst et
    have e := bl_S_end q s
    subst e
    exact br_t (nI_lt (by omega) (by omega)) (h0 hx)
  | succ d ih =>
    intro t i ht s hx post h1 h0
    have hn : ¬ nI L < nI t := nI_nlt (by omega) (by omega)
    rcases bl_scan q s (by omega) with ⟨z, s'⟩ | ⟨hi, e, z, s'⟩
    · replace z : CE (b * 61 + t) = 0 := z
      have ez : bl_i CE (nI b * 61 + nI t).toNatClampNeg = 0 := by rw [bn_xrd hb (by omega), z]; rfl
      exact br_f hn ⟨bn_xin hb (by omega), br_t ez (nm_r (nI_1 t) (ih (t + 1) i (by omega) s' hx post h1 h0))⟩
    · replace z : CE (b * 61 + t) = kd i + 1 := z
      have k8 := q.2.2.1 i hi
      have ez : ¬ bl_i CE (nI b * 61 + nI t).toNatClampNeg = 0 := by rw [bn_xrd hb (by omega), bn_z (by omega)]; omega
      by_cases ex : nI i = x
      · have hp := h1 i hi ex.symm
        rw [e] at hp
        exact br_f hn ⟨bn_xin hb (by omega), br_f ez (br_t ex hp)⟩
      · refine br_f hn ⟨bn_xin hb (by omega), br_f ez (br_f ex (nm_r (nI_1 i) (nm_r (nI_1 t) (ih (t + 1) (i + 1) (by omega) s' (fun m hm => ?_) post h1 h0))))⟩
        by_cases em : m = i
        · subst em; exact fun k => ex k.symm
        · exact hx m (by omega)

theorem rx_find {n : Nat} {pl kd : Nat → Nat} (x : Int32) (hb : b < 4) (hL : L ≤ 60) (q : bl_Q L n pl kd (fun j => CE (b * 61 + j))) {post : Int32 → Prop}
    (h1 : ∀ m, m < n → x = nI m → post (nI (pl m))) (h0 : (∀ m, m < n → x ≠ nI m) → post (-4)) : wpX_findItem post (nI L, g, bl_i CE, E, S, F, T, R, A, H) (nI b) x :=
  ⟨L + 1 + 1, rx_find5 x hb hL q (L + 1) 0 0 (by omega) (bl_S0 n pl) (fun m hm => absurd hm (Nat.not_lt_zero m)) post h1 h0⟩

theorem rx_moving17 {n : Nat} {pl kd : Nat → Nat} (hb : b < 4) (hL : L ≤ 60) (q : bl_Q L n pl kd (fun j => CE (b * 61 + j))) : ∀ d t i, t + d = L + 1 → bl_S n pl t i →
    ∀ x3 : Int32, x3 = nI (bl_q pl i) - 4 → ∀ post : Int32 → Prop, post (nI (bl_m pl n)) →
    wX_moving_17 post (nI b) (nI L) g (bl_i CE) E S F T R A H (d + 1) (nI (bl_m pl i)) x3 (nI t) := by
  intro d
  induction d with
  | zero =>
    intro t i ht s x3 hx post hp
    have et : t = L + 1 := by omega
    subst et
    have e := bl_S_end q s
    subst e
    exact br_t (nI_lt (by omega) (by omega)) hp
  | succ d ih =>
    intro t i ht s x3 hx post hp
    have hn : ¬ nI L < nI t := nI_nlt (by omega) (by omega)
    rcases bl_scan q s (by omega) with ⟨z, s'⟩ | ⟨hi, e, z, s'⟩
    · replace z : CE (b * 61 + t) = 0 := z
      have ez : bl_i CE (nI b * 61 + nI t).toNatClampNeg = 0 := by rw [bn_xrd hb (by omega), z]; rfl
      exact br_f hn ⟨bn_xin hb (by omega), br_t ez (nm_r (nI_1 t) (ih (t + 1) i (by omega) s' x3 hx post hp))⟩
    · replace z : CE (b * 61 + t) = kd i + 1 := z
      have k8 := q.2.2.1 i hi
      have ez : ¬ bl_i CE (nI b * 61 + nI t).toNatClampNeg = 0 := by rw [bn_xrd hb (by omega), bn_z (by omega)]; omega
      have hq := bl_q_le q.2.2.2.2.1 i hi
      rw [e] at hq
      subst hx
      refine br_f hn ⟨bn_xin hb (by omega), br_f ez (rx_pam hq (by omega) ?_)⟩
      have en : (if bl_q pl i < t then t - 1 else t) = bl_n pl i := by unfold bl_n; rw [e]
      rw [en]
      by_cases mv : bl_q pl i < pl i
      · have em : bl_m pl (i + 1) = bl_m pl i + 1 := bl_m_t mv
        have hlt : bl_n pl i < t := by rw [bl_n_t mv]; omega
        have h := ih (t + 1) (i + 1) (by omega) s' (nI (bl_n pl i)) (bn_q4 _) post hp
        rw [em] at h
        exact br_f (nI_ge hlt (by omega)) (nm_r (nI_1 _) (nm_r (nI_1 t) h))
      · have em : bl_m pl (i + 1) = bl_m pl i := bl_m_f mv
        have heq : bl_n pl i = t := by rw [bl_n_f mv]; exact e
        have h := ih (t + 1) (i + 1) (by omega) s' (nI (bl_n pl i)) (bn_q4 _) post hp
        rw [em] at h
        exact br_t (nI_le (by omega) (by omega)) (nm_r (nI_1 t) h)

theorem rx_mv5 {n : Nat} {pl kd ce : Nat → Nat} (hb : b < 4) (hL : L ≤ 60) (q : bl_Q L n pl kd ce) : ∀ d t i, t + d = L + 1 → bl_S n pl t i → ∀ CE : Nat → Nat,
    bl_M L n pl kd (fun j => CE (b * 61 + j)) i → ∀ x2 : Int32, x2 = nI (bl_q pl i) - 4 →
    ∃ CE' : Nat → Nat, (∀ c j, c < 4 → c ≠ b → j ≤ L → CE' (c * 61 + j) = CE (c * 61 + j)) ∧ bl_M L n pl kd (fun j => CE' (b * 61 + j)) n ∧
      ∀ (E S F T R A H : Nat → Int32) (post : SX → Prop), post (nI L, g, bl_i CE', E, S, F, T, R, A, H) →
      wX_moveItems_5 post (nI b) (nI L) g (d + 1) x2 (nI t) (bl_i CE) E S F T R A H := by
  intro d
  induction d with
  | zero =>
    intro t i ht s CE m x2 hx
    have et : t = L + 1 := by omega
    subst et
    have e := bl_S_end q s
    subst e
    exact ⟨CE, fun _ _ _ _ _ => rfl, m, fun _ _ _ _ _ _ _ post hp => br_t (nI_lt (by omega) (by omega)) hp⟩
  | succ d ih =>
    intro t i ht s CE m x2 hx
    have hn : ¬ nI L < nI t := nI_nlt (by omega) (by omega)
    rcases bl_M_scan q m s (by omega) with ⟨z, s'⟩ | ⟨hi, e, z, s'⟩
    · replace z : CE (b * 61 + t) = 0 := z
      have ez : nI (CE (b * 61 + t)) = 0 := by rw [z]; rfl
      obtain ⟨CE', f, m', h⟩ := ih (t + 1) i (by omega) s' CE m x2 hx
      exact ⟨CE', f, m', fun E S F T R A H post hp => br_f hn ⟨bn_xin hb (by omega), nm_r (bn_xrd hb (by omega)) (br_t ez (nm_r (nI_1 t) (h E S F T R A H post hp)))⟩⟩
    · replace z : CE (b * 61 + t) = kd i + 1 := z
      have k8 := q.2.2.1 i hi
      have ez : ¬ nI (CE (b * 61 + t)) = 0 := by rw [bn_z (by omega)]; omega
      have hq := bl_q_le q.2.2.2.2.1 i hi
      rw [e] at hq
      have en : (if bl_q pl i < t then t - 1 else t) = bl_n pl i := by unfold bl_n; rw [e]
      have hle := bl_n_le pl i
      obtain ⟨CE', f, m', h⟩ := ih (t + 1) (i + 1) (by omega) s' (bl_u (bl_u CE (b * 61 + t) 0) (b * 61 + bl_n pl i) (CE (b * 61 + t)))
        (bl_M_step q m hi (fun j hj => by
          show bl_u (bl_u CE (b * 61 + t) 0) (b * 61 + bl_n pl i) (CE (b * 61 + t)) (b * 61 + j) = if j = bl_n pl i then kd i + 1 else if j = pl i then 0 else CE (b * 61 + j)
          by_cases e1 : j = bl_n pl i
          · rw [if_pos e1, bl_ue (by omega)]; exact z
          · rw [if_neg e1, bl_un (by omega)]
            by_cases e2 : j = pl i
            · rw [if_pos e2, bl_ue (by omega)]
            · rw [if_neg e2, bl_un (by omega)])) (nI (bl_n pl i)) (bn_q4 _)
      refine ⟨CE', fun c j hc hcb hj => ?_, m', fun E S F T R A H post hp => br_f hn ⟨bn_xin hb (by omega), nm_r (bn_xrd hb (by omega)) (br_f ez ?_)⟩⟩
      · rw [f c j hc hcb hj, bl_un (by omega), bl_un (by omega)]
      · subst hx
        refine rx_pam hq (by omega) ?_
        rw [en]
        exact ⟨bn_xin hb (by omega), nm_r (bl_ui (x := 0) (bn_xcl hb (by omega)) rfl) ⟨bn_xin hb (by omega), nm_r (bl_ui (bn_xcl hb (by omega)) rfl) (nm_r (nI_1 t) (h E S F T R A H post hp))⟩⟩

theorem rx_move {n : Nat} {pl kd : Nat → Nat} (hb : b < 4) (hL : L ≤ 60) (q : bl_Q L n pl kd (fun j => CE (b * 61 + j))) :
    ∃ CE' : Nat → Nat, (∀ c j, c < 4 → c ≠ b → j ≤ L → CE' (c * 61 + j) = CE (c * 61 + j)) ∧ bl_M L n pl kd (fun j => CE' (b * 61 + j)) n ∧
      ∀ (E S F T R A H : Nat → Int32) (post : SX → Prop), post (nI L, g, bl_i CE', E, S, F, T, R, A, H) →
      wpX_moveItems post (nI L, g, bl_i CE, E, S, F, T, R, A, H) (nI b) := by
  obtain ⟨CE', f, m', h⟩ := rx_mv5 (g := g) hb hL q (L + 1) 0 0 (by omega) (bl_S0 n pl) CE (bl_M0 q) (-4) bn_m4
  exact ⟨CE', f, m', fun E S F T R A H post hp => ⟨L + 1 + 1, h E S F T R A H post hp⟩⟩

theorem rx_takes {a k : Nat} (ha : a < 2) {post : Int32 → Prop} (h1 : bn_w (A a) k → post 1) (h0 : ¬ bn_w (A a) k → post 0) :
    wpX_armTakes post (nI L, g, bl_i CE, E, S, F, T, R, A, H) (nI a) (nI k) := by
  have e : A (nI a).toNatClampNeg = A a := by rw [bn_acl ha]
  unfold bn_w at h1 h0
  rw [← e] at h1 h0
  exact ⟨bn_ain ha, br_c (fun z => h0 (fun w => w z)) (fun z => h1 z)⟩

theorem rx_pick_no {a far : Nat} (ha : a < 2) (hb : b < 4) (hL : L ≤ 60) (hf : far ≤ L) (hc : ∀ j, j ≤ L → CE (b * 61 + j) ≤ 8) : ∀ d t, far + 1 ≤ t + d → t ≤ 1000 →
    (∀ j, t ≤ j → j ≤ far → CE (b * 61 + j) ≠ 0 → ¬ bn_w (A a) (CE (b * 61 + j) - 1)) → ∀ post : SX → Prop, post (nI L, g, bl_i CE, E, S, F, T, R, A, H) →
    wX_pickUp_32 post (nI a) (nI b) (nI far) (nI L) g (bl_i CE) E S F T R A H (d + 1) (nI t) := by
  intro d
  induction d with
  | zero =>
    intro t ht ht2 _ post hp
    exact br_t (nI_lt (by omega) (by omega)) hp
  | succ d ih =>
    intro t ht ht2 hw post hp
    by_cases e : t ≤ far
    · have hn : ¬ nI far < nI t := nI_nlt e (by omega)
      have c8 := hc t (by omega)
      have hr := ih (t + 1) (by omega) (by omega) (fun j a b c => hw j (by omega) b c) post hp
      by_cases z : CE (b * 61 + t) = 0
      · have ez : nI (CE (b * 61 + t)) = 0 := by rw [z]; rfl
        exact br_f hn ⟨bn_xin hb (by omega), nm_r (bn_xrd hb (by omega)) (br_t ez (nm_r (nI_1 t) hr))⟩
      · have ez : ¬ nI (CE (b * 61 + t)) = 0 := by rw [bn_z (by omega)]; exact z
        refine br_f hn ⟨bn_xin hb (by omega), nm_r (bn_xrd hb (by omega)) (br_f ez ?_)⟩
        have ep : nI (CE (b * 61 + t)) - 1 = nI (CE (b * 61 + t) - 1) := pk_sub (b := 1) (by omega)
        rw [ep]
        exact rx_takes ha (fun w => absurd w (hw t (Nat.le_refl _) e z)) (fun _ => br_t rfl (nm_r (nI_1 t) hr))
    · exact br_t (nI_lt (by omega) (by omega)) hp

theorem rx_pick_at {a far p k : Nat} (ha : a < 2) (hb : b < 4) (hL : L ≤ 60) (hf : far ≤ L) (hp : p ≤ far) (hc : ∀ j, j ≤ L → CE (b * 61 + j) ≤ 8)
    (hk : CE (b * 61 + p) = k + 1) (hw : bn_w (A a) k) : ∀ d t, t + d = p →
    (∀ j, t ≤ j → j < p → CE (b * 61 + j) ≠ 0 → ¬ bn_w (A a) (CE (b * 61 + j) - 1)) → ∀ post : SX → Prop,
    post (nI L, g, bl_i (bl_u CE (b * 61 + p) 0), E, S, F, T, R, A, upd H a (nI (k + 1))) →
    wX_pickUp_32 post (nI a) (nI b) (nI far) (nI L) g (bl_i CE) E S F T R A H (d + 1) (nI t) := by
  intro d
  induction d with
  | zero =>
    intro t ht _ post ho
    have et : t = p := by omega
    subst et
    have hn : ¬ nI far < nI t := nI_nlt hp (by omega)
    have c8 := hc t (by omega)
    have er : bl_i CE (nI b * 61 + nI t).toNatClampNeg = nI (k + 1) := by rw [bn_xrd hb (by omega), hk]
    have ez : ¬ nI (k + 1) = 0 := by rw [bn_z (by omega)]; omega
    refine br_f hn ⟨bn_xin hb (by omega), nm_r er (br_f ez ?_)⟩
    rw [bn_pred]
    refine rx_takes ha (fun _ => ?_) (fun w => absurd hw w)
    refine br_f (by decide) ⟨bn_xin hb (by omega), nm_r (bl_ui (x := 0) (bn_xcl hb (by omega)) rfl) ⟨bn_ain ha, nm_r (e' := upd H a (nI (k + 1))) (by rw [bn_acl ha]) ho⟩⟩
  | succ d ih =>
    intro t ht hq post ho
    have hn : ¬ nI far < nI t := nI_nlt (by omega) (by omega)
    have c8 := hc t (by omega)
    have hr := ih (t + 1) (by omega) (fun j a b c => hq j (by omega) b c) post ho
    by_cases z : CE (b * 61 + t) = 0
    · have ez : nI (CE (b * 61 + t)) = 0 := by rw [z]; rfl
      exact br_f hn ⟨bn_xin hb (by omega), nm_r (bn_xrd hb (by omega)) (br_t ez (nm_r (nI_1 t) hr))⟩
    · have ez : ¬ nI (CE (b * 61 + t)) = 0 := by rw [bn_z (by omega)]; exact z
      refine br_f hn ⟨bn_xin hb (by omega), nm_r (bn_xrd hb (by omega)) (br_f ez ?_)⟩
      have ep : nI (CE (b * 61 + t)) - 1 = nI (CE (b * 61 + t) - 1) := pk_sub (b := 1) (by omega)
      rw [ep]
      exact rx_takes ha (fun w => absurd w (hq t (Nat.le_refl _) (by omega) z)) (fun _ => br_t rfl (nm_r (nI_1 t) hr))

theorem rx_pick {a r : Nat} (ha : a < 2) (hL : L ≤ 60) (hr : r ≤ 60) (hF : F a = nI b) (hR : R a = nI r) {post : SX → Prop}
    (h : ∃ n, wX_pickUp_32 post (nI a) (nI b) (nI (if r + 3 ≤ L then r + 3 else L)) (nI L) g (bl_i CE) E S F T R A H n (nI r)) :
    wpX_pickUp post (nI L, g, bl_i CE, E, S, F, T, R, A, H) (nI a) := by
  have eF : F (nI a).toNatClampNeg = nI b := by rw [bn_acl ha]; exact hF
  have eR : R (nI a).toNatClampNeg = nI r := by rw [bn_acl ha]; exact hR
  have eR3 : R (nI a).toNatClampNeg + 3 = nI (r + 3) := by rw [eR]; exact nI_add r 3
  refine ⟨bn_ain ha, nm_r eF ⟨bn_ain ha, ?_⟩⟩
  rw [eR3]
  exact rx_clampN (by omega) (by omega) ⟨bn_ain ha, nm_r eR h⟩
end
