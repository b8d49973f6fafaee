/- the pure mathematics of one belt. pl i, kd i: place and kind of item i; ce j: what the cell at place j holds -/
def bl_Q (L n : Nat) (pl kd ce : Nat → Nat) : Prop :=
  n ≤ 16 ∧ (∀ i, i < n → pl i ≤ L) ∧ (∀ i, i < n → kd i < 8) ∧ (∀ i, i < n → ce (pl i) = kd i + 1) ∧
  (∀ i, i + 1 < n → pl i + 4 ≤ pl (i + 1)) ∧ (∀ j, j ≤ L → ce j ≠ 0 → ∃ i, i < n ∧ pl i = j)

theorem bl_mono {n : Nat} {pl : Nat → Nat} (h : ∀ i, i + 1 < n → pl i + 4 ≤ pl (i + 1)) :
    ∀ d i, i + d < n → pl i + 4 * d ≤ pl (i + d) := by
  intro d
  induction d with
  | zero => intro i _; exact Nat.le_refl _
  | succ d ih =>
    intro i hi
    have h1 := ih i (by omega)
    have h2 := h (i + d) (by omega)
    have e : i + (d + 1) = i + d + 1 := by omega
    rw [e]
    omega

theorem bl_lt {n : Nat} {pl : Nat → Nat} (h : ∀ i, i + 1 < n → pl i + 4 ≤ pl (i + 1)) {i j : Nat} (hij : i < j) (hj : j < n) :
    pl i + 4 ≤ pl j := by
  have h1 := bl_mono h (j - i) i (by omega)
  have e : i + (j - i) = j := by omega
  rw [e] at h1
  omega

theorem bl_inj {n : Nat} {pl : Nat → Nat} (h : ∀ i, i + 1 < n → pl i + 4 ≤ pl (i + 1)) {i j : Nat} (hi : i < n) (hj : j < n) (e : pl i = pl j) : i = j := by
  rcases Nat.lt_trichotomy i j with g | g | g
  · have := bl_lt h g hj; omega
  · exact g
  · have := bl_lt h g hi; omega

theorem bl_cong {L n : Nat} {pl kd ce pl' kd' ce' : Nat → Nat} (h : bl_Q L n pl kd ce)
    (hp : ∀ i, i < n → pl' i = pl i) (hk : ∀ i, i < n → kd' i = kd i) (hc : ∀ j, j ≤ L → ce' j = ce j) : bl_Q L n pl' kd' ce' := by
  obtain ⟨h0, h1, h2, h3, h4, h5⟩ := h
  refine ⟨h0, ?_, ?_, ?_, ?_, ?_⟩
  · intro i hi; rw [hp i hi]; exact h1 i hi
  · intro i hi; rw [hk i hi]; exact h2 i hi
  · intro i hi; rw [hp i hi, hk i hi, hc _ (h1 i hi)]; exact h3 i hi
  · intro i hi; rw [hp i (by omega), hp (i + 1) hi]; exact h4 i hi
  · intro j hj hz
    rw [hc j hj] at hz
    obtain ⟨i, hi, e⟩ := h5 j hj hz
    exact ⟨i, hi, by rw [hp i hi]; exact e⟩

/-- room at the start -/
def bl_rm (L n : Nat) (pl : Nat → Nat) : Prop := n = 0 ∨ pl (n - 1) + 4 ≤ L

theorem bl_rm_iff {L n : Nat} {pl kd ce : Nat → Nat} (h : bl_Q L n pl kd ce) (hL : 8 ≤ L) :
    bl_rm L n pl ↔ ∀ j, L < j + 4 → j ≤ L → ce j = 0 := by
  obtain ⟨h0, h1, h2, h3, h4, h5⟩ := h
  constructor
  · intro r j hj hjL
    by_cases hz : ce j = 0
    · exact hz
    · obtain ⟨i, hi, e⟩ := h5 j hjL hz
      rcases r with r | r
      · omega
      · by_cases hq : i = n - 1
        · subst hq; omega
        · have := bl_lt h4 (i := i) (j := n - 1) (by omega) (by omega)
          omega
  · intro r
    by_cases hn : n = 0
    · exact Or.inl hn
    · refine Or.inr ?_
      have a := h1 (n - 1) (by omega)
      have b := h3 (n - 1) (by omega)
      by_cases hq : L < pl (n - 1) + 4
      · have := r (pl (n - 1)) hq a
        omega
      · omega

theorem bl_start {L n k : Nat} {pl kd ce pl' kd' ce' : Nat → Nat} (h : bl_Q L n pl kd ce) (r : bl_rm L n pl) (hL : 8 ≤ L) (hL2 : L ≤ 60) (hk : k < 8)
    (p1 : ∀ i, i < n → pl' i = pl i) (p2 : pl' n = L) (k1 : ∀ i, i < n → kd' i = kd i) (k2 : kd' n = k)
    (c1 : ∀ j, j < L → ce' j = ce j) (c2 : ce' L = k + 1) : bl_Q L (n + 1) pl' kd' ce' ∧ n + 1 ≤ 16 := by
  obtain ⟨h0, h1, h2, h3, h4, h5⟩ := h
  have hlow : ∀ i, i < n → pl i + 4 ≤ L := by
    intro i hi
    rcases r with r | r
    · omega
    · by_cases hq : i = n - 1
      · subst hq; exact r
      · have := bl_lt h4 (i := i) (j := n - 1) (by omega) (by omega)
        omega
  have hn : n + 1 ≤ 16 := by
    by_cases hz : n = 0
    · omega
    · have a := hlow (n - 1) (by omega)
      have b := bl_mono h4 (n - 1) 0 (by omega)
      rw [Nat.zero_add] at b
      omega
  refine ⟨⟨hn, ?_, ?_, ?_, ?_, ?_⟩, hn⟩
  · intro i hi
    by_cases e : i = n
    · subst e; omega
    · rw [p1 i (by omega)]; exact h1 i (by omega)
  · intro i hi
    by_cases e : i = n
    · subst e; omega
    · rw [k1 i (by omega)]; exact h2 i (by omega)
  · intro i hi
    by_cases e : i = n
    · subst e; rw [p2, k2]; exact c2
    · have := hlow i (by omega)
      rw [p1 i (by omega), k1 i (by omega), c1 _ (by omega)]; exact h3 i (by omega)
  · intro i hi
    by_cases e : i + 1 = n
    · rw [p1 i (by omega), e, p2]; exact hlow i (by omega)
    · rw [p1 i (by omega), p1 (i + 1) (by omega)]; exact h4 i (by omega)
  · intro j hj hz
    by_cases e : j = L
    · exact ⟨n, by omega, by rw [p2, e]⟩
    · rw [c1 j (by omega)] at hz
      obtain ⟨i, hi, e2⟩ := h5 j hj hz
      exact ⟨i, by omega, by rw [p1 i hi]; exact e2⟩

theorem bl_off {L n i : Nat} {pl kd ce pl' kd' ce' : Nat → Nat} (h : bl_Q L n pl kd ce) (hi : i < n)
    (p1 : ∀ k, k < i → pl' k = pl k) (p2 : ∀ k, i ≤ k → k + 1 < n → pl' k = pl (k + 1))
    (k1 : ∀ k, k < i → kd' k = kd k) (k2 : ∀ k, i ≤ k → k + 1 < n → kd' k = kd (k + 1))
    (c1 : ∀ j, j ≤ L → j ≠ pl i → ce' j = ce j) (c2 : ce' (pl i) = 0) : bl_Q L (n - 1) pl' kd' ce' := by
  obtain ⟨h0, h1, h2, h3, h4, h5⟩ := h
  refine ⟨by omega, ?_, ?_, ?_, ?_, ?_⟩
  · intro k hk
    by_cases e : k < i
    · rw [p1 k e]; exact h1 k (by omega)
    · rw [p2 k (by omega) (by omega)]; exact h1 (k + 1) (by omega)
  · intro k hk
    by_cases e : k < i
    · rw [k1 k e]; exact h2 k (by omega)
    · rw [k2 k (by omega) (by omega)]; exact h2 (k + 1) (by omega)
  · intro k hk
    by_cases e : k < i
    · have := bl_lt h4 e hi
      rw [p1 k e, k1 k e, c1 _ (h1 k (by omega)) (by omega)]; exact h3 k (by omega)
    · have := bl_lt h4 (i := i) (j := k + 1) (by omega) (by omega)
      rw [p2 k (by omega) (by omega), k2 k (by omega) (by omega), c1 _ (h1 (k + 1) (by omega)) (by omega)]; exact h3 (k + 1) (by omega)
  · intro k hk
    by_cases e : k + 1 < i
    · rw [p1 k (by omega), p1 (k + 1) e]; exact h4 k (by omega)
    · by_cases e2 : k < i
      · have := bl_lt h4 (i := k) (j := k + 2) (by omega) (by omega)
        rw [p1 k e2, p2 (k + 1) (by omega) (by omega)]; exact this
      · rw [p2 k (by omega) (by omega), p2 (k + 1) (by omega) (by omega)]; exact h4 (k + 1) (by omega)
  · intro j hj hz
    by_cases e : j = pl i
    · rw [e] at hz; exact absurd c2 hz
    · rw [c1 j hj e] at hz
      obtain ⟨k, hk, e2⟩ := h5 j hj hz
      by_cases g : k < i
      · exact ⟨k, by omega, by rw [p1 k g]; exact e2⟩
      · have g2 : k ≠ i := fun z => e (by rw [← e2, z])
        obtain ⟨m, rfl⟩ : ∃ m, k = m + 1 := ⟨k - 1, by omega⟩
        exact ⟨m, by omega, by rw [p2 m (by omega) hk]; exact e2⟩

/-- the next item's bound after i items have moved: 0, then the last moved item's place + 4 -/
def bl_q (pl : Nat → Nat) : Nat → Nat
  | 0 => 0
  | i + 1 => (if bl_q pl i < pl i then pl i - 1 else pl i) + 4
/-- item i's place behind its move -/
def bl_n (pl : Nat → Nat) (i : Nat) : Nat := if bl_q pl i < pl i then pl i - 1 else pl i
/-- how many of the first i items move -/
def bl_m (pl : Nat → Nat) : Nat → Nat
  | 0 => 0
  | i + 1 => if bl_q pl i < pl i then bl_m pl i + 1 else bl_m pl i

theorem bl_q_s (pl : Nat → Nat) (i : Nat) : bl_q pl (i + 1) = bl_n pl i + 4 := rfl
theorem bl_n_le (pl : Nat → Nat) (i : Nat) : bl_n pl i ≤ pl i := by unfold bl_n; split <;> omega
theorem bl_n_t {pl : Nat → Nat} {i : Nat} (h : bl_q pl i < pl i) : bl_n pl i = pl i - 1 := by unfold bl_n; rw [if_pos h]
theorem bl_n_f {pl : Nat → Nat} {i : Nat} (h : ¬ bl_q pl i < pl i) : bl_n pl i = pl i := by unfold bl_n; rw [if_neg h]
theorem bl_m_le (pl : Nat → Nat) (i : Nat) : bl_m pl i ≤ i := by
  induction i with
  | zero => exact Nat.le_refl _
  | succ i ih =>
    show (if bl_q pl i < pl i then bl_m pl i + 1 else bl_m pl i) ≤ i + 1
    split <;> omega
theorem bl_m_t {pl : Nat → Nat} {i : Nat} (h : bl_q pl i < pl i) : bl_m pl (i + 1) = bl_m pl i + 1 := by
  show (if bl_q pl i < pl i then bl_m pl i + 1 else bl_m pl i) = bl_m pl i + 1
  exact if_pos h
theorem bl_m_f {pl : Nat → Nat} {i : Nat} (h : ¬ bl_q pl i < pl i) : bl_m pl (i + 1) = bl_m pl i := by
  show (if bl_q pl i < pl i then bl_m pl i + 1 else bl_m pl i) = bl_m pl i
  exact if_neg h

theorem bl_q_le {n : Nat} {pl : Nat → Nat} (h : ∀ i, i + 1 < n → pl i + 4 ≤ pl (i + 1)) : ∀ i, i < n → bl_q pl i ≤ pl i := by
  intro i hi
  cases i with
  | zero => exact Nat.zero_le _
  | succ i =>
    rw [bl_q_s]
    have a := bl_n_le pl i
    have b := h i hi
    omega

theorem bl_n_gap {n : Nat} {pl : Nat → Nat} (h : ∀ i, i + 1 < n → pl i + 4 ≤ pl (i + 1)) : ∀ i, i + 1 < n → bl_n pl i + 4 ≤ bl_n pl (i + 1) := by
  intro i hi
  have a := bl_q_le h (i + 1) hi
  rw [bl_q_s] at a
  by_cases g : bl_q pl (i + 1) < pl (i + 1)
  · rw [bl_n_t g]; rw [bl_q_s] at g; omega
  · rw [bl_n_f g]; exact a

/-- X's scan has come to place t, i items lie before it -/
def bl_S (n : Nat) (pl : Nat → Nat) (t i : Nat) : Prop := i ≤ n ∧ (∀ k, k < i → pl k < t) ∧ (∀ k, i ≤ k → k < n → t ≤ pl k)

theorem bl_S0 (n : Nat) (pl : Nat → Nat) : bl_S n pl 0 0 := ⟨Nat.zero_le _, fun k hk => absurd hk (Nat.not_lt_zero k), fun _ _ _ => Nat.zero_le _⟩

theorem bl_S_end {L n : Nat} {pl kd ce : Nat → Nat} (h : bl_Q L n pl kd ce) {i : Nat} (s : bl_S n pl (L + 1) i) : i = n := by
  obtain ⟨s0, s1, s2⟩ := s
  by_cases e : i = n
  · exact e
  · have a := s2 i (Nat.le_refl _) (by omega)
    have b := h.2.1 i (by omega)
    omega

theorem bl_S_no {n : Nat} {pl : Nat → Nat} {t i : Nat} (s : bl_S n pl t i) (g : i < n → pl i ≠ t) (h4 : ∀ i, i + 1 < n → pl i + 4 ≤ pl (i + 1)) : bl_S n pl (t + 1) i := by
  obtain ⟨s0, s1, s2⟩ := s
  refine ⟨s0, fun k hk => Nat.lt_succ_of_lt (s1 k hk), fun k hk hn => ?_⟩
  have a := s2 k hk hn
  by_cases e : k = i
  · subst e; have := g hn; omega
  · have b := s2 i (Nat.le_refl _) (by omega)
    have c := bl_lt h4 (i := i) (j := k) (by omega) hn
    omega

theorem bl_S_yes {n : Nat} {pl : Nat → Nat} {t i : Nat} (s : bl_S n pl t i) (hi : i < n) (e : pl i = t) (h4 : ∀ i, i + 1 < n → pl i + 4 ≤ pl (i + 1)) : bl_S n pl (t + 1) (i + 1) := by
  obtain ⟨s0, s1, s2⟩ := s
  refine ⟨hi, fun k hk => ?_, fun k hk hn => ?_⟩
  · by_cases e2 : k = i
    · subst e2; omega
    · have := s1 k (by omega); omega
  · have c := bl_lt h4 (i := i) (j := k) (by omega) hn
    omega

theorem bl_scan {L n : Nat} {pl kd ce : Nat → Nat} (h : bl_Q L n pl kd ce) {t i : Nat} (s : bl_S n pl t i) (ht : t ≤ L) :
    (ce t = 0 ∧ bl_S n pl (t + 1) i) ∨ (i < n ∧ pl i = t ∧ ce t = kd i + 1 ∧ bl_S n pl (t + 1) (i + 1)) := by
  obtain ⟨h0, h1, h2, h3, h4, h5⟩ := h
  by_cases hz : ce t = 0
  · refine Or.inl ⟨hz, bl_S_no s (fun hi e => ?_) h4⟩
    have := h3 i hi
    rw [e] at this
    omega
  · obtain ⟨k, hk, e⟩ := h5 t ht hz
    have g1 : ¬ k < i := fun z => by have := s.2.1 k z; omega
    have g2 : ¬ i < k := fun z => by
      have a := s.2.2 i (Nat.le_refl _) (by omega)
      have b := bl_lt h4 z hk
      omega
    have g : k = i := by omega
    subst g
    refine Or.inr ⟨hk, e, ?_, bl_S_yes s hk e h4⟩
    have := h3 k hk
    rw [e] at this
    exact this

/-- X's cells in the midst of a move: i items have moved -/
def bl_M (L n : Nat) (pl kd ce : Nat → Nat) (i : Nat) : Prop :=
  (∀ k, k < i → ce (bl_n pl k) = kd k + 1) ∧ (∀ k, i ≤ k → k < n → ce (pl k) = kd k + 1) ∧
  (∀ j, j ≤ L → ce j ≠ 0 → (∃ k, k < i ∧ bl_n pl k = j) ∨ (∃ k, i ≤ k ∧ k < n ∧ pl k = j))

theorem bl_M0 {L n : Nat} {pl kd ce : Nat → Nat} (h : bl_Q L n pl kd ce) : bl_M L n pl kd ce 0 := by
  obtain ⟨h0, h1, h2, h3, h4, h5⟩ := h
  refine ⟨fun k hk => absurd hk (Nat.not_lt_zero k), fun k _ hk => h3 k hk, fun j hj hz => ?_⟩
  obtain ⟨i, hi, e⟩ := h5 j hj hz
  exact Or.inr ⟨i, Nat.zero_le _, hi, e⟩

theorem bl_M_end {L n : Nat} {pl kd ce ce' : Nat → Nat} (h : bl_Q L n pl kd ce) (m : bl_M L n pl kd ce' n) : bl_Q L n (bl_n pl) kd ce' := by
  obtain ⟨h0, h1, h2, h3, h4, h5⟩ := h
  obtain ⟨m1, m2, m3⟩ := m
  refine ⟨h0, fun i hi => ?_, h2, m1, bl_n_gap h4, fun j hj hz => ?_⟩
  · have := h1 i hi; have := bl_n_le pl i; omega
  · rcases m3 j hj hz with ⟨k, hk, e⟩ | ⟨k, hk, hk2, e⟩
    · exact ⟨k, hk, e⟩
    · omega

theorem bl_M_scan {L n : Nat} {pl kd ce ce' : Nat → Nat} (h : bl_Q L n pl kd ce) {t i : Nat} (m : bl_M L n pl kd ce' i) (s : bl_S n pl t i) (ht : t ≤ L) :
    (ce' t = 0 ∧ bl_S n pl (t + 1) i) ∨ (i < n ∧ pl i = t ∧ ce' t = kd i + 1 ∧ bl_S n pl (t + 1) (i + 1)) := by
  obtain ⟨h0, h1, h2, h3, h4, h5⟩ := h
  obtain ⟨m1, m2, m3⟩ := m
  by_cases hz : ce' t = 0
  · refine Or.inl ⟨hz, bl_S_no s (fun hi e => ?_) h4⟩
    have := m2 i (Nat.le_refl _) hi
    rw [e] at this
    omega
  · rcases m3 t ht hz with ⟨k, hk, e⟩ | ⟨k, hk, hk2, e⟩
    · have a := s.2.1 k hk
      have b := bl_n_le pl k
      omega
    · have g2 : ¬ i < k := fun z => by
        have a := s.2.2 i (Nat.le_refl _) (by omega)
        have b := bl_lt h4 z hk2
        omega
      have g : k = i := by omega
      subst g
      refine Or.inr ⟨hk2, e, ?_, bl_S_yes s hk2 e h4⟩
      have := m2 k (Nat.le_refl _) hk2
      rw [e] at this
      exact this

theorem bl_M_step {L n : Nat} {pl kd ce ce' ce'' : Nat → Nat} (h : bl_Q L n pl kd ce) {i : Nat} (m : bl_M L n pl kd ce' i) (hi : i < n)
    (c : ∀ j, j ≤ L → ce'' j = if j = bl_n pl i then kd i + 1 else if j = pl i then 0 else ce' j) : bl_M L n pl kd ce'' (i + 1) := by
  obtain ⟨h0, h1, h2, h3, h4, h5⟩ := h
  obtain ⟨m1, m2, m3⟩ := m
  have hle := bl_n_le pl
  refine ⟨fun k hk => ?_, fun k hk hn => ?_, fun j hj hz => ?_⟩
  · have hkL : bl_n pl k ≤ L := Nat.le_trans (hle k) (h1 k (by omega))
    rw [c _ hkL]
    by_cases e : k = i
    · subst e; rw [if_pos rfl]
    · have a := bl_lt (bl_n_gap h4) (i := k) (j := i) (by omega) hi
      have b := hle i
      rw [if_neg (by omega), if_neg (by omega)]
      exact m1 k (by omega)
  · have a := bl_lt h4 (i := i) (j := k) (by omega) hn
    have b := hle i
    rw [c _ (h1 k hn), if_neg (by omega), if_neg (by omega)]
    exact m2 k (by omega) hn
  · rw [c j hj] at hz
    by_cases e : j = bl_n pl i
    · exact Or.inl ⟨i, by omega, e.symm⟩
    · rw [if_neg e] at hz
      by_cases e2 : j = pl i
      · rw [if_pos e2] at hz; exact absurd rfl hz
      · rw [if_neg e2] at hz
        rcases m3 j hj hz with ⟨k, hk, e3⟩ | ⟨k, hk, hk2, e3⟩
        · exact Or.inl ⟨k, by omega, e3⟩
        · refine Or.inr ⟨k, ?_, hk2, e3⟩
          have : k ≠ i := fun z => e2 (by rw [← e3, z])
          omega

theorem bl_Q_le {L n : Nat} {pl kd ce : Nat → Nat} (h : bl_Q L n pl kd ce) : ∀ j, j ≤ L → ce j ≤ 8 := by
  intro j hj
  by_cases hz : ce j = 0
  · omega
  · obtain ⟨i, hi, e⟩ := h.2.2.2.2.2 j hj hz
    have a := h.2.2.2.1 i hi
    have b := h.2.2.1 i hi
    rw [e] at a
    omega

/-- an item at place 0 is the first -/
theorem bl_zero {L n : Nat} {pl kd ce : Nat → Nat} (h : bl_Q L n pl kd ce) (hz : ce 0 ≠ 0) : 0 < n ∧ pl 0 = 0 ∧ ce 0 = kd 0 + 1 := by
  obtain ⟨i, hi, e⟩ := h.2.2.2.2.2 0 (Nat.zero_le _) hz
  have a := bl_mono h.2.2.2.2.1 i 0 (by omega)
  rw [Nat.zero_add, e] at a
  have i0 : i = 0 := by omega
  subst i0
  have b := h.2.2.2.1 0 hi
  rw [e] at b
  exact ⟨hi, e, b⟩

theorem bl_zero_no {L n : Nat} {pl kd ce : Nat → Nat} (h : bl_Q L n pl kd ce) (hz : ce 0 = 0) (hn : 0 < n) : pl 0 ≠ 0 := by
  intro e
  have b := h.2.2.2.1 0 hn
  rw [e] at b
  omega

/-- functions of naturals, stored into -/
def bl_u (f : Nat → Nat) (k x : Nat) : Nat → Nat := fun j => if j = k then x else f j
theorem bl_us {f : Nat → Nat} {k x : Nat} : bl_u f k x k = x := if_pos rfl
theorem bl_un {f : Nat → Nat} {k x j : Nat} (h : j ≠ k) : bl_u f k x j = f j := if_neg h
theorem bl_ue {f : Nat → Nat} {k x j : Nat} (h : j = k) : bl_u f k x j = x := if_pos h

/-- cells lo .. hi - 1 take their right neighbours' values -/
def bl_sh (f : Nat → Nat) (lo hi : Nat) : Nat → Nat := fun j => if lo ≤ j ∧ j < hi then f (j + 1) else f j
theorem bl_sh_in {f : Nat → Nat} {lo hi j : Nat} (h : lo ≤ j) (h2 : j < hi) : bl_sh f lo hi j = f (j + 1) := if_pos ⟨h, h2⟩
theorem bl_sh_lo {f : Nat → Nat} {lo hi j : Nat} (h : j < lo) : bl_sh f lo hi j = f j := if_neg (by omega)
theorem bl_sh_hi {f : Nat → Nat} {lo hi j : Nat} (h : hi ≤ j) : bl_sh f lo hi j = f j := if_neg (by omega)
theorem bl_sh_0 (f : Nat → Nat) (lo : Nat) : bl_sh f lo lo = f := by
  funext j
  exact if_neg (by omega)
theorem bl_sh_s (f : Nat → Nat) {lo hi : Nat} (h : lo ≤ hi) : bl_u (bl_sh f lo hi) hi (f (hi + 1)) = bl_sh f lo (hi + 1) := by
  funext j
  by_cases e : j = hi
  · subst e
    rw [bl_us, bl_sh_in h (Nat.lt_succ_self _)]
  · rw [bl_un e]
    by_cases g : lo ≤ j ∧ j < hi
    · rw [bl_sh_in g.1 g.2, bl_sh_in g.1 (by omega)]
    · have g2 : ¬ (lo ≤ j ∧ j < hi + 1) := by omega
      exact (if_neg g).trans (if_neg g2).symm

/-- the four belts -/
def bl_W (L : Nat) (CE CN PL KD : Nat → Nat) : Prop :=
  ∀ b, b < 4 → bl_Q L (CN b) (fun i => PL (b * 16 + i)) (fun i => KD (b * 16 + i)) (fun j => CE (b * 61 + j))

theorem bl_W_15 {L b : Nat} {CE CN PL KD : Nat → Nat} (w : bl_W L CE CN PL KD) (hL : 8 ≤ L) (hL2 : L ≤ 60) (hb : b < 4)
    (r : bl_rm L (CN b) (fun i => PL (b * 16 + i))) : CN b < 16 :=
  (bl_start (ce' := bl_u (fun j => CE (b * 61 + j)) L (0 + 1)) (pl' := bl_u (fun i => PL (b * 16 + i)) (CN b) L) (kd' := bl_u (fun i => KD (b * 16 + i)) (CN b) 0) (w b hb) r hL hL2 (by omega) (fun i hi => bl_un (by omega)) bl_us (fun i hi => bl_un (by omega)) bl_us (fun j hj => bl_un (by omega)) bl_us).2

theorem bl_W_start {L k b : Nat} {CE CN PL KD : Nat → Nat} (w : bl_W L CE CN PL KD) (hL : 8 ≤ L) (hL2 : L ≤ 60) (hb : b < 4) (hk : k < 8)
    (r : bl_rm L (CN b) (fun i => PL (b * 16 + i))) :
    bl_W L (bl_u CE (b * 61 + L) (k + 1)) (bl_u CN b (CN b + 1)) (bl_u PL (b * 16 + CN b) L) (bl_u KD (b * 16 + CN b) k) := by
  intro c hc
  by_cases e : c = b
  · subst e
    rw [bl_us]
    refine (bl_start (w c hc) r hL hL2 hk (fun i hi => ?_) ?_ (fun i hi => ?_) ?_ (fun j hj => ?_) ?_).1
    · exact bl_un (by omega)
    · exact bl_us
    · exact bl_un (by omega)
    · exact bl_us
    · exact bl_un (by omega)
    · exact bl_us
  · rw [bl_un e]
    have a := (w c hc).1
    have d := bl_W_15 w hL hL2 hb r
    refine bl_cong (w c hc) (fun i hi => ?_) (fun i hi => ?_) (fun j hj => ?_)
    · exact bl_un (by omega)
    · exact bl_un (by omega)
    · exact bl_un (by omega)

theorem bl_W_off {L b i m : Nat} {CE CN PL KD : Nat → Nat} (w : bl_W L CE CN PL KD) (hL2 : L ≤ 60) (hb : b < 4) (hm : CN b = m + 1) (hi : i ≤ m) :
    bl_W L (bl_u CE (b * 61 + PL (b * 16 + i)) 0) (bl_u CN b m) (bl_sh PL (b * 16 + i) (b * 16 + m)) (bl_sh KD (b * 16 + i) (b * 16 + m)) := by
  intro c hc
  have d := (w b hb).1
  have hp : PL (b * 16 + i) ≤ L := (w b hb).2.1 i (by omega)
  by_cases e : c = b
  · subst e
    rw [bl_us]
    have h := w c hc
    have g := bl_off (i := i) (pl' := fun i' => bl_sh PL (c * 16 + i) (c * 16 + m) (c * 16 + i')) (kd' := fun i' => bl_sh KD (c * 16 + i) (c * 16 + m) (c * 16 + i')) (ce' := fun j => bl_u CE (c * 61 + PL (c * 16 + i)) 0 (c * 61 + j)) h (by omega)
      (fun k hk => bl_sh_lo (by omega)) (fun k hk hk2 => bl_sh_in (by omega) (by omega)) (fun k hk => bl_sh_lo (by omega)) (fun k hk hk2 => bl_sh_in (by omega) (by omega))
      (fun j hj hne => bl_un (by have hne2 : j ≠ PL (c * 16 + i) := hne; omega)) bl_us
    rw [hm, Nat.add_sub_cancel] at g
    exact g
  · rw [bl_un e]
    have a := (w c hc).1
    refine bl_cong (w c hc) (fun k hk => ?_) (fun k hk => ?_) (fun j hj => ?_)
    · by_cases z : c < b
      · exact bl_sh_lo (by omega)
      · exact bl_sh_hi (by omega)
    · by_cases z : c < b
      · exact bl_sh_lo (by omega)
      · exact bl_sh_hi (by omega)
    · exact bl_un (by omega)

/-- the reference's places of belt b, the first i items moved -/
def bl_mv (PL : Nat → Nat) (b i : Nat) : Nat → Nat := fun j => if b * 16 ≤ j ∧ j < b * 16 + i then bl_n (fun i => PL (b * 16 + i)) (j - b * 16) else PL j
theorem bl_mv_in {PL : Nat → Nat} {b i k : Nat} (h : k < i) : bl_mv PL b i (b * 16 + k) = bl_n (fun i => PL (b * 16 + i)) k := by
  have e : bl_mv PL b i (b * 16 + k) = bl_n (fun i => PL (b * 16 + i)) (b * 16 + k - b * 16) := if_pos ⟨by omega, by omega⟩
  rw [e, Nat.add_sub_cancel_left]
theorem bl_mv_hi {PL : Nat → Nat} {b i j : Nat} (h : b * 16 + i ≤ j) : bl_mv PL b i j = PL j := if_neg (by omega)
theorem bl_mv_lo {PL : Nat → Nat} {b i j : Nat} (h : j < b * 16) : bl_mv PL b i j = PL j := if_neg (by omega)
theorem bl_mv_0 (PL : Nat → Nat) (b : Nat) : bl_mv PL b 0 = PL := by
  funext j
  exact if_neg (by omega)
theorem bl_mv_s (PL : Nat → Nat) (b i : Nat) : bl_u (bl_mv PL b i) (b * 16 + i) (bl_n (fun i => PL (b * 16 + i)) i) = bl_mv PL b (i + 1) := by
  funext j
  by_cases e : j = b * 16 + i
  · subst e
    rw [bl_us, bl_mv_in (Nat.lt_succ_self _)]
  · rw [bl_un e]
    by_cases g : b * 16 ≤ j ∧ j < b * 16 + i
    · obtain ⟨k, rfl⟩ : ∃ k, j = b * 16 + k := ⟨j - b * 16, by omega⟩
      rw [bl_mv_in (by omega), bl_mv_in (by omega)]
    · have g2 : ¬ (b * 16 ≤ j ∧ j < b * 16 + (i + 1)) := by omega
      exact (if_neg g).trans (if_neg g2).symm
theorem bl_mv_f (PL : Nat → Nat) (b i : Nat) (h : bl_n (fun i => PL (b * 16 + i)) i = PL (b * 16 + i)) : bl_mv PL b i = bl_mv PL b (i + 1) := by
  rw [← bl_mv_s]
  funext j
  by_cases e : j = b * 16 + i
  · subst e
    rw [bl_us, bl_mv_hi (Nat.le_refl _), h]
  · rw [bl_un e]

theorem bl_W_move {L b : Nat} {CE CE' CN PL KD : Nat → Nat} (w : bl_W L CE CN PL KD) (hL2 : L ≤ 60) (hb : b < 4)
    (hf : ∀ c j, c < 4 → c ≠ b → j ≤ L → CE' (c * 61 + j) = CE (c * 61 + j))
    (m : bl_M L (CN b) (fun i => PL (b * 16 + i)) (fun i => KD (b * 16 + i)) (fun j => CE' (b * 61 + j)) (CN b)) :
    bl_W L CE' CN (bl_mv PL b (CN b)) KD := by
  intro c hc
  have d := (w b hb).1
  by_cases e : c = b
  · subst e
    exact bl_cong (bl_M_end (w c hc) m) (fun i hi => bl_mv_in hi) (fun i hi => rfl) (fun j hj => rfl)
  · have a := (w c hc).1
    refine bl_cong (w c hc) (fun i hi => ?_) (fun i hi => rfl) (fun j hj => hf c j hc e hj)
    by_cases z : c < b
    · exact bl_mv_lo (by omega)
    · exact bl_mv_hi (by omega)
