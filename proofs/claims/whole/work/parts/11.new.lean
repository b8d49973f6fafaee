/- a new object -/
def nw_e : Nat → Nat → Int32
  | 0 => fun _ => 0
  | t + 1 => upd (nw_e t) t (-1)
theorem nw_eq : ∀ t j, j < t → nw_e t j = -1 := by
  intro t
  induction t with
  | zero => intro j hj; exact absurd hj (Nat.not_lt_zero j)
  | succ t ih =>
    intro j hj
    show upd (nw_e t) t (-1) j = -1
    by_cases e : j = t
    · subst e; exact pk_us
    · rw [pk_un e]; exact ih j (by omega)
theorem nw_X {l g : Int32} {a1 a3 a4 a5 a6 a7 a8 : Nat → Int32} : ∀ d t, t + d = 4 → ∀ post : SX → Prop, post (l, g, a1, nw_e 4, a3, a4, a5, a6, a7, a8) →
    wX_init_81 post l g (d + 1) (nI t) a1 (nw_e t) a3 a4 a5 a6 a7 a8 := by
  intro d
  induction d with
  | zero =>
    intro t ht post hp
    have e : t = 4 := by omega
    subst e
    exact br_t (by decide) hp
  | succ d ih =>
    intro t ht post hp
    exact br_f (nI_ge (b := 4) (by omega) (by decide)) ⟨bn_bin (by omega), nm_r (e' := nw_e (t + 1)) (by rw [bn_bcl (by omega)]; rfl) (nm_r (nI_1 t) (ih (t + 1) (by omega) post hp))⟩
theorem nw_Y {l g : Int32} {a1 a2 a3 a5 a6 a7 a8 a9 a10 : Nat → Int32} : ∀ d t, t + d = 4 → ∀ post : SY → Prop, post (l, g, a1, a2, a3, nw_e 4, a5, a6, a7, a8, a9, upd (upd a10 0 (-4)) 1 (-4)) →
    wY_init_103 post l g (d + 1) (nI t) a1 a2 a3 (nw_e t) a5 a6 a7 a8 a9 a10 := by
  intro d
  induction d with
  | zero =>
    intro t ht post hp
    have e : t = 4 := by omega
    subst e
    exact br_t (by decide) (nm_e (nm_e hp))
  | succ d ih =>
    intro t ht post hp
    exact br_f (nI_ge (b := 4) (by omega) (by decide)) ⟨bn_bin (by omega), nm_r (e' := nw_e (t + 1)) (by rw [bn_bcl (by omega)]; rfl) (nm_r (nI_1 t) (ih (t + 1) (by omega) post hp))⟩
theorem nw_L (x : Int32) : ∃ L, 8 ≤ L ∧ L ≤ 60 ∧ (∀ post : Int32 → Prop, post (nI L) → wpX_clamp post x 8 60) ∧
    (∀ post : SY → Prop, (∃ n, wY_init_103 post (nI L) 0 n 0 (fun _ => 0) (fun _ => 0) (fun _ => 0) (fun _ => 0) (fun _ => 0) (fun _ => 0) (fun _ => 0) (fun _ => 0) (fun _ => 0) (fun _ => 0)) → wpY_init post x) := by
  by_cases h8 : (8 : Int32) ≤ x
  · by_cases h60 : x ≤ 60
    · obtain ⟨j, hj, rfl⟩ := nI_of2 (x := x) (M := 60) (n := 60) (by decide) (Int32.not_lt.mpr (Int32.le_trans (by decide) h8)) h60
      have j8 : 8 ≤ j := (nI_leI (a := 8) (by decide) (by omega)).mp h8
      exact ⟨j, j8, hj, fun post hp => br_t h8 (br_t h60 hp), fun post hp => br_t h8 (br_t h60 hp)⟩
    · exact ⟨60, by omega, by omega, fun post hp => br_t h8 (br_f h60 hp), fun post hp => br_t h8 (br_f h60 hp)⟩
  · exact ⟨8, by omega, by omega, fun post hp => br_f h8 hp, fun post hp => br_f h8 (br_t (by decide) hp)⟩
theorem nw_rel {L : Nat} (h8 : 8 ≤ L) (h60 : L ≤ 60) : bl_Rel (nI L, 0, (fun _ => 0), nw_e 4, (fun _ => 0), (fun _ => 0), (fun _ => 0), (fun _ => 0), (fun _ => 0), (fun _ => 0))
    (nI L, 0, (fun _ => 0), (fun _ => 0), (fun _ => 0), nw_e 4, (fun _ => 0), (fun _ => 0), (fun _ => 0), (fun _ => 0), (fun _ => 0), upd (upd (fun _ => 0) 0 (-4)) 1 (-4)) := by
  refine ⟨L, 0, fun _ => 0, fun _ => 0, fun _ => 0, fun _ => 0, nw_e 4, fun _ => 0, fun _ => 0, fun _ => 0, fun _ => 0, fun _ => 0, fun _ => 0, upd (upd (fun _ => 0) 0 (-4)) 1 (-4), rfl, ?_, h8, h60, ?_, ?_, ?_⟩
  · have e : (fun _ => 0 : Nat → Int32) = (fun j => (fun _ => 0 : Nat → Int32) j &&& 255) := by
      funext j
      show (0 : Int32) = 0 &&& 255
      decide
    rw [← e]
    rfl
  · intro b hb
    refine ⟨Nat.zero_le 16, fun i hi => absurd hi (Nat.not_lt_zero i), fun i hi => absurd hi (Nat.not_lt_zero i), fun i hi => absurd hi (Nat.not_lt_zero i), fun i hi => absurd hi (Nat.not_lt_zero _), fun j hj hz => absurd rfl hz⟩
  · intro b hb
    exact Or.inl (nw_eq 4 b hb)
  · intro a ha
    refine ⟨(by decide : 0 < 4), (by decide : 0 < 4), Nat.zero_le 60, Nat.zero_le 8, ?_⟩
    by_cases e : a = 1
    · subst e; rw [pk_us]; rfl
    · have e0 : a = 0 := by omega
      subst e0
      rw [pk_un (by omega), pk_us]; rfl
