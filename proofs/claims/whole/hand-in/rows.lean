section
/- rows pasted from kit/rows -/
theorem pk_us {f : Nat → Int32} {k : Nat} {x : Int32} : upd f k x k = x := if_pos rfl
theorem pk_un {f : Nat → Int32} {k j : Nat} {x : Int32} (h : j ≠ k) : upd f k x j = f j := if_neg h
theorem pk_sub {a b : Nat} (h : b ≤ a) : nI a - nI b = nI (a - b) := by
  obtain ⟨c, rfl⟩ : ∃ c, a = c + b := ⟨a - b, by omega⟩
  rw [← nI_add, Int32.add_sub_cancel, Nat.add_sub_cancel]
theorem pk_mul (a b : Nat) : nI a * nI b = nI (a * b) := (Int32.ofNat_mul a b).symm
theorem pk_sub_toInt {a b : Nat} (ha : a < 2 ^ 30) (hb : b < 2 ^ 30) : (nI a - nI b).toInt = (a : Int) - b := by
  rw [Int32.toInt_sub, nI_toInt (by omega), nI_toInt (by omega)]
  exact Int.bmod_eq_of_le (by omega) (by omega)
theorem pk_sneg {a b : Nat} (hb : b < 2 ^ 30) (h : a < b) : nI a - nI b < 0 := by
  rw [Int32.lt_iff_toInt_lt, pk_sub_toInt (by omega) hb, show (0 : Int32).toInt = 0 from by decide]
  omega
theorem pk_ix (x : Int32) {n : Nat} (hn : n < 2 ^ 31) : x < 0 ∨ nI n ≤ x ∨ ∃ j : Nat, j < n ∧ x = nI j := by
  by_cases h : x < 0
  · exact Or.inl h
  · obtain ⟨j, hj, rfl⟩ := nI_of h
    by_cases h2 : j < n
    · exact Or.inr (Or.inr ⟨j, h2, rfl⟩)
    · exact Or.inr (Or.inl (nI_le (by omega) hj))
theorem pk_le {x y : Int32} {A B : Prop} (a b : Nat) (f : a ≤ b → A) (g : b < a → B) (hx : x = nI a := by rfl) (hy : y = nI b := by rfl) (ha : a < 2 ^ 31 := by omega) (hb : b < 2 ^ 31 := by omega) : (x ≤ y → A) ∧ (¬ x ≤ y → B) := by
  subst hx hy
  rw [nI_leI ha hb]
  exact ⟨f, fun z => g (by omega)⟩
theorem pk_lt {x y : Int32} {A B : Prop} (a b : Nat) (f : a < b → A) (g : b ≤ a → B) (hx : x = nI a := by rfl) (hy : y = nI b := by rfl) (ha : a < 2 ^ 31 := by omega) (hb : b < 2 ^ 31 := by omega) : (x < y → A) ∧ (¬ x < y → B) := by
  subst hx hy
  rw [nI_ltI ha hb]
  exact ⟨f, fun z => g (by omega)⟩
theorem pk_eq {x y : Int32} {A B : Prop} (a b : Nat) (f : a = b → A) (g : a ≠ b → B) (hx : x = nI a := by rfl) (hy : y = nI b := by rfl) (ha : a < 2 ^ 31 := by omega) (hb : b < 2 ^ 31 := by omega) : (x = y → A) ∧ (¬ x = y → B) := by
  subst hx hy
  rw [nI_eq ha hb]
  exact ⟨f, g⟩
theorem pk_in {x : Int32} (n N : Nat) (h : n < N) (hx : x = nI n := by rfl) (hN : N < 2 ^ 31 := by omega) : vp_in x N := by
  subst hx
  exact vp_in_nI h hN
theorem pk_cl {x : Int32} (n : Nat) (hx : x = nI n := by rfl) (h : n < 2 ^ 31 := by omega) : x.toNatClampNeg = n := by
  subst hx
  exact nI_clamp h
theorem pk_and (x : Int32) {m : Int32} (k : Nat) (hm : m.toBitVec.toNat = 2 ^ k - 1) : x &&& m = nI (x.toBitVec.toNat % 2 ^ k) := by
  apply Int32.toBitVec_inj.mp
  apply BitVec.eq_of_toNat_eq
  rw [Int32.toBitVec_and, BitVec.toNat_and, hm, Nat.and_two_pow_sub_one_eq_mod]
  show _ = (BitVec.ofNat 32 _).toNat
  rw [BitVec.toNat_ofNat]
  exact (Nat.mod_eq_of_lt (Nat.lt_of_le_of_lt (Nat.mod_le _ _) x.toBitVec.isLt)).symm
theorem pk_andE (x : Int32) {m : Int32} (k : Nat) (hm : m.toBitVec.toNat = 2 ^ k - 1) : ∃ j : Nat, j < 2 ^ k ∧ x &&& m = nI j := ⟨_, Nat.mod_lt _ (Nat.two_pow_pos k), pk_and x k hm⟩
theorem pk_least (P : Nat → Prop) (h : ∃ k, P k) : ∃ k, P k ∧ ∀ j, j < k → ¬ P j := by
  obtain ⟨k, hk⟩ := h
  induction k using Nat.strongRecOn with
  | ind k ih =>
    by_cases e : ∃ j, j < k ∧ P j
    · obtain ⟨j, hj, pj⟩ := e
      exact ih j hj pj
    · exact ⟨k, hk, fun j hj pj => e ⟨j, hj, pj⟩⟩
def bt (x : Int32) (i : Nat) : Bool := x.toBitVec.getLsbD i
theorem b_ext {x y : Int32} (h : ∀ i, i < 32 → bt x i = bt y i) : x = y := Int32.toBitVec_inj.mp (BitVec.eq_of_getLsbD_eq (fun i hi => h i hi))
theorem b_and (x y : Int32) (i : Nat) : bt (x &&& y) i = (bt x i && bt y i) := by unfold bt; rw [Int32.toBitVec_and, BitVec.getLsbD_and]
theorem b_big {x : Int32} {i : Nat} (h : 32 ≤ i) : bt x i = false := BitVec.getLsbD_of_ge _ _ h
theorem b_255 (i : Nat) : bt 255 i = decide (i < 8) := by
  rcases Nat.lt_or_ge i 32 with h | h
  · exact (by decide +kernel : ∀ i, i < 32 → bt 255 i = decide (i < 8)) i h
  · rw [b_big h, decide_eq_false (by omega)]
theorem s_l : ∀ n, n < 32 → ((nI n &&& 31).toBitVec.smod 32).toNat = n := by decide +kernel
theorem b_sshr (n : Nat) (hn : n < 32) (x : Int32) {i : Nat} (hi : i < 32) : bt (x >>> (nI n &&& 31)) i = if n + i < 32 then bt x (n + i) else bt x 31 := by
  unfold bt
  rw [Int32.toBitVec_shiftRight]
  show (x.toBitVec.sshiftRight ((nI n &&& 31).toBitVec.smod 32).toNat).getLsbD i = _
  rw [s_l n hn, BitVec.getLsbD_sshiftRight, BitVec.msb_eq_getLsbD_last]
  simp [hi]
end
section
/- the pure mathematics of one belt. pl i, kd i: place and kind of item i; ce j: what the cell at place j holds -/
def bl_Q (L n : Nat) (pl kd ce : Nat → Nat) : Prop :=
  n ≤ 16 ∧ (∀ i, i < n → pl i ≤ L) ∧ (∀ i, i < n → kd i < 8) ∧ (∀ i, i < n → ce (pl i) = kd i + 1) ∧
  (∀ i, i + 1 < n → pl i + 4 ≤ pl (i + 1)) ∧ (∀ j, j ≤ L → ce j ≠ 0 → ∃ i, i < n ∧ pl i = j)

theorem bl_mono {n : Nat} {pl : Nat → Nat} (h : ∀ i, i + 1 < n → pl i + 4 ≤ pl (i + 1)) :
    ∀ d i, i + d < n → pl i + 4 * d ≤ pl (i + d) := by
  intro d
  induction d with
  | zero => intro i _; exact Nat.le_refl _
  | succ d ih =>
    intro i hi
    have h1 := ih i (by omega)
    have h2 := h (i + d) (by omega)
    have e : i + (d + 1) = i + d + 1 := by omega
    rw [e]
    omega

theorem bl_lt {n : Nat} {pl : Nat → Nat} (h : ∀ i, i + 1 < n → pl i + 4 ≤ pl (i + 1)) {i j : Nat} (hij : i < j) (hj : j < n) :
    pl i + 4 ≤ pl j := by
  have h1 := bl_mono h (j - i) i (by omega)
  have e : i + (j - i) = j := by omega
  rw [e] at h1
  omega

theorem bl_inj {n : Nat} {pl : Nat → Nat} (h : ∀ i, i + 1 < n → pl i + 4 ≤ pl (i + 1)) {i j : Nat} (hi : i < n) (hj : j < n) (e : pl i = pl j) : i = j := by
  rcases Nat.lt_trichotomy i j with g | g | g
  · have := bl_lt h g hj; omega
  · exact g
  · have := bl_lt h g hi; omega

theorem bl_cong {L n : Nat} {pl kd ce pl' kd' ce' : Nat → Nat} (h : bl_Q L n pl kd ce)
    (hp : ∀ i, i < n → pl' i = pl i) (hk : ∀ i, i < n → kd' i = kd i) (hc : ∀ j, j ≤ L → ce' j = ce j) : bl_Q L n pl' kd' ce' := by
  obtain ⟨h0, h1, h2, h3, h4, h5⟩ := h
  refine ⟨h0, ?_, ?_, ?_, ?_, ?_⟩
  · intro i hi; rw [hp i hi]; exact h1 i hi
  · intro i hi; rw [hk i hi]; exact h2 i hi
  · intro i hi; rw [hp i hi, hk i hi, hc _ (h1 i hi)]; exact h3 i hi
  · intro i hi; rw [hp i (by omega), hp (i + 1) hi]; exact h4 i hi
  · intro j hj hz
    rw [hc j hj] at hz
    obtain ⟨i, hi, e⟩ := h5 j hj hz
    exact ⟨i, hi, by rw [hp i hi]; exact e⟩

/-- room at the start -/
def bl_rm (L n : Nat) (pl : Nat → Nat) : Prop := n = 0 ∨ pl (n - 1) + 4 ≤ L

theorem bl_rm_iff {L n : Nat} {pl kd ce : Nat → Nat} (h : bl_Q L n pl kd ce) (hL : 8 ≤ L) :
    bl_rm L n pl ↔ ∀ j, L < j + 4 → j ≤ L → ce j = 0 := by
  obtain ⟨h0, h1, h2, h3, h4, h5⟩ := h
  constructor
  · intro r j hj hjL
    by_cases hz : ce j = 0
    · exact hz
    · obtain ⟨i, hi, e⟩ := h5 j hjL hz
      rcases r with r | r
      · omega
      · by_cases hq : i = n - 1
        · subst hq; omega
        · have := bl_lt h4 (i := i) (j := n - 1) (by omega) (by omega)
          omega
  · intro r
    by_cases hn : n = 0
    · exact Or.inl hn
    · refine Or.inr ?_
      have a := h1 (n - 1) (by omega)
      have b := h3 (n - 1) (by omega)
      by_cases hq : L < pl (n - 1) + 4
      · have := r (pl (n - 1)) hq a
        omega
      · omega

theorem bl_start {L n k : Nat} {pl kd ce pl' kd' ce' : Nat → Nat} (h : bl_Q L n pl kd ce) (r : bl_rm L n pl) (hL : 8 ≤ L) (hL2 : L ≤ 60) (hk : k < 8)
    (p1 : ∀ i, i < n → pl' i = pl i) (p2 : pl' n = L) (k1 : ∀ i, i < n → kd' i = kd i) (k2 : kd' n = k)
    (c1 : ∀ j, j < L → ce' j = ce j) (c2 : ce' L = k + 1) : bl_Q L (n + 1) pl' kd' ce' ∧ n + 1 ≤ 16 := by
  obtain ⟨h0, h1, h2, h3, h4, h5⟩ := h
  have hlow : ∀ i, i < n → pl i + 4 ≤ L := by
    intro i hi
    rcases r with r | r
    · omega
    · by_cases hq : i = n - 1
      · subst hq; exact r
      · have := bl_lt h4 (i := i) (j := n - 1) (by omega) (by omega)
        omega
  have hn : n + 1 ≤ 16 := by
    by_cases hz : n = 0
    · omega
    · have a := hlow (n - 1) (by omega)
      have b := bl_mono h4 (n - 1) 0 (by omega)
      rw [Nat.zero_add] at b
      omega
  refine ⟨⟨hn, ?_, ?_, ?_, ?_, ?_⟩, hn⟩
  · intro i hi
    by_cases e : i = n
    · subst e; omega
    · rw [p1 i (by omega)]; exact h1 i (by omega)
  · intro i hi
    by_cases e : i = n
    · subst e; omega
    · rw [k1 i (by omega)]; exact h2 i (by omega)
  · intro i hi
    by_cases e : i = n
    · subst e; rw [p2, k2]; exact c2
    · have := hlow i (by omega)
      rw [p1 i (by omega), k1 i (by omega), c1 _ (by omega)]; exact h3 i (by omega)
  · intro i hi
    by_cases e : i + 1 = n
    · rw [p1 i (by omega), e, p2]; exact hlow i (by omega)
    · rw [p1 i (by omega), p1 (i + 1) (by omega)]; exact h4 i (by omega)
  · intro j hj hz
    by_cases e : j = L
    · exact ⟨n, by omega, by rw [p2, e]⟩
    · rw [c1 j (by omega)] at hz
      obtain ⟨i, hi, e2⟩ := h5 j hj hz
      exact ⟨i, by omega, by rw [p1 i hi]; exact e2⟩

theorem bl_off {L n i : Nat} {pl kd ce pl' kd' ce' : Nat → Nat} (h : bl_Q L n pl kd ce) (hi : i < n)
    (p1 : ∀ k, k < i → pl' k = pl k) (p2 : ∀ k, i ≤ k → k + 1 < n → pl' k = pl (k + 1))
    (k1 : ∀ k, k < i → kd' k = kd k) (k2 : ∀ k, i ≤ k → k + 1 < n → kd' k = kd (k + 1))
    (c1 : ∀ j, j ≤ L → j ≠ pl i → ce' j = ce j) (c2 : ce' (pl i) = 0) : bl_Q L (n - 1) pl' kd' ce' := by
  obtain ⟨h0, h1, h2, h3, h4, h5⟩ := h
  refine ⟨by omega, ?_, ?_, ?_, ?_, ?_⟩
  · intro k hk
    by_cases e : k < i
    · rw [p1 k e]; exact h1 k (by omega)
    · rw [p2 k (by omega) (by omega)]; exact h1 (k + 1) (by omega)
  · intro k hk
    by_cases e : k < i
    · rw [k1 k e]; exact h2 k (by omega)
    · rw [k2 k (by omega) (by omega)]; exact h2 (k + 1) (by omega)
  · intro k hk
    by_cases e : k < i
    · have := bl_lt h4 e hi
      rw [p1 k e, k1 k e, c1 _ (h1 k (by omega)) (by omega)]; exact h3 k (by omega)
    · have := bl_lt h4 (i := i) (j := k + 1) (by omega) (by omega)
      rw [p2 k (by omega) (by omega), k2 k (by omega) (by omega), c1 _ (h1 (k + 1) (by omega)) (by omega)]; exact h3 (k + 1) (by omega)
  · intro k hk
    by_cases e : k + 1 < i
    · rw [p1 k (by omega), p1 (k + 1) e]; exact h4 k (by omega)
    · by_cases e2 : k < i
      · have := bl_lt h4 (i := k) (j := k + 2) (by omega) (by omega)
        rw [p1 k e2, p2 (k + 1) (by omega) (by omega)]; exact this
      · rw [p2 k (by omega) (by omega), p2 (k + 1) (by omega) (by omega)]; exact h4 (k + 1) (by omega)
  · intro j hj hz
    by_cases e : j = pl i
    · rw [e] at hz; exact absurd c2 hz
    · rw [c1 j hj e] at hz
      obtain ⟨k, hk, e2⟩ := h5 j hj hz
      by_cases g : k < i
      · exact ⟨k, by omega, by rw [p1 k g]; exact e2⟩
      · have g2 : k ≠ i := fun z => e (by rw [← e2, z])
        obtain ⟨m, rfl⟩ : ∃ m, k = m + 1 := ⟨k - 1, by omega⟩
        exact ⟨m, by omega, by rw [p2 m (by omega) hk]; exact e2⟩

/-- the next item's bound after i items have moved: 0, then the last moved item's place + 4 -/
def bl_q (pl : Nat → Nat) : Nat → Nat
  | 0 => 0
  | i + 1 => (if bl_q pl i < pl i then pl i - 1 else pl i) + 4
/-- item i's place behind its move -/
def bl_n (pl : Nat → Nat) (i : Nat) : Nat := if bl_q pl i < pl i then pl i - 1 else pl i
/-- how many of the first i items move -/
def bl_m (pl : Nat → Nat) : Nat → Nat
  | 0 => 0
  | i + 1 => if bl_q pl i < pl i then bl_m pl i + 1 else bl_m pl i

theorem bl_q_s (pl : Nat → Nat) (i : Nat) : bl_q pl (i + 1) = bl_n pl i + 4 := rfl
theorem bl_n_le (pl : Nat → Nat) (i : Nat) : bl_n pl i ≤ pl i := by unfold bl_n; split <;> omega
theorem bl_n_t {pl : Nat → Nat} {i : Nat} (h : bl_q pl i < pl i) : bl_n pl i = pl i - 1 := by unfold bl_n; rw [if_pos h]
theorem bl_n_f {pl : Nat → Nat} {i : Nat} (h : ¬ bl_q pl i < pl i) : bl_n pl i = pl i := by unfold bl_n; rw [if_neg h]
theorem bl_m_le (pl : Nat → Nat) (i : Nat) : bl_m pl i ≤ i := by
  induction i with
  | zero => exact Nat.le_refl _
  | succ i ih =>
    show (if bl_q pl i < pl i then bl_m pl i + 1 else bl_m pl i) ≤ i + 1
    split <;> omega
theorem bl_m_t {pl : Nat → Nat} {i : Nat} (h : bl_q pl i < pl i) : bl_m pl (i + 1) = bl_m pl i + 1 := by
  show (if bl_q pl i < pl i then bl_m pl i + 1 else bl_m pl i) = bl_m pl i + 1
  exact if_pos h
theorem bl_m_f {pl : Nat → Nat} {i : Nat} (h : ¬ bl_q pl i < pl i) : bl_m pl (i + 1) = bl_m pl i := by
  show (if bl_q pl i < pl i then bl_m pl i + 1 else bl_m pl i) = bl_m pl i
  exact if_neg h

theorem bl_q_le {n : Nat} {pl : Nat → Nat} (h : ∀ i, i + 1 < n → pl i + 4 ≤ pl (i + 1)) : ∀ i, i < n → bl_q pl i ≤ pl i := by
  intro i hi
  cases i with
  | zero => exact Nat.zero_le _
  | succ i =>
    rw [bl_q_s]
    have a := bl_n_le pl i
    have b := h i hi
    omega

theorem bl_n_gap {n : Nat} {pl : Nat → Nat} (h : ∀ i, i + 1 < n → pl i + 4 ≤ pl (i + 1)) : ∀ i, i + 1 < n → bl_n pl i + 4 ≤ bl_n pl (i + 1) := by
  intro i hi
  have a := bl_q_le h (i + 1) hi
  rw [bl_q_s] at a
  by_cases g : bl_q pl (i + 1) < pl (i + 1)
  · rw [bl_n_t g]; rw [bl_q_s] at g; omega
  · rw [bl_n_f g]; exact a

/-- X's scan has come to place t, i items lie before it -/
def bl_S (n : Nat) (pl : Nat → Nat) (t i : Nat) : Prop := i ≤ n ∧ (∀ k, k < i → pl k < t) ∧ (∀ k, i ≤ k → k < n → t ≤ pl k)

theorem bl_S0 (n : Nat) (pl : Nat → Nat) : bl_S n pl 0 0 := ⟨Nat.zero_le _, fun k hk => absurd hk (Nat.not_lt_zero k), fun _ _ _ => Nat.zero_le _⟩

theorem bl_S_end {L n : Nat} {pl kd ce : Nat → Nat} (h : bl_Q L n pl kd ce) {i : Nat} (s : bl_S n pl (L + 1) i) : i = n := by
  obtain ⟨s0, s1, s2⟩ := s
  by_cases e : i = n
  · exact e
  · have a := s2 i (Nat.le_refl _) (by omega)
    have b := h.2.1 i (by omega)
    omega

theorem bl_S_no {n : Nat} {pl : Nat → Nat} {t i : Nat} (s : bl_S n pl t i) (g : i < n → pl i ≠ t) (h4 : ∀ i, i + 1 < n → pl i + 4 ≤ pl (i + 1)) : bl_S n pl (t + 1) i := by
  obtain ⟨s0, s1, s2⟩ := s
  refine ⟨s0, fun k hk => Nat.lt_succ_of_lt (s1 k hk), fun k hk hn => ?_⟩
  have a := s2 k hk hn
  by_cases e : k = i
  · subst e; have := g hn; omega
  · have b := s2 i (Nat.le_refl _) (by omega)
    have c := bl_lt h4 (i := i) (j := k) (by omega) hn
    omega

theorem bl_S_yes {n : Nat} {pl : Nat → Nat} {t i : Nat} (s : bl_S n pl t i) (hi : i < n) (e : pl i = t) (h4 : ∀ i, i + 1 < n → pl i + 4 ≤ pl (i + 1)) : bl_S n pl (t + 1) (i + 1) := by
  obtain ⟨s0, s1, s2⟩ := s
  refine ⟨hi, fun k hk => ?_, fun k hk hn => ?_⟩
  · by_cases e2 : k = i
    · subst e2; omega
    · have := s1 k (by omega); omega
  · have c := bl_lt h4 (i := i) (j := k) (by omega) hn
    omega

theorem bl_scan {L n : Nat} {pl kd ce : Nat → Nat} (h : bl_Q L n pl kd ce) {t i : Nat} (s : bl_S n pl t i) (ht : t ≤ L) :
    (ce t = 0 ∧ bl_S n pl (t + 1) i) ∨ (i < n ∧ pl i = t ∧ ce t = kd i + 1 ∧ bl_S n pl (t + 1) (i + 1)) := by
  obtain ⟨h0, h1, h2, h3, h4, h5⟩ := h
  by_cases hz : ce t = 0
  · refine Or.inl ⟨hz, bl_S_no s (fun hi e => ?_) h4⟩
    have := h3 i hi
    rw [e] at this
    omega
  · obtain ⟨k, hk, e⟩ := h5 t ht hz
    have g1 : ¬ k < i := fun z => by have := s.2.1 k z; omega
    have g2 : ¬ i < k := fun z => by
      have a := s.2.2 i (Nat.le_refl _) (by omega)
      have b := bl_lt h4 z hk
      omega
    have g : k = i := by omega
    subst g
    refine Or.inr ⟨hk, e, ?_, bl_S_yes s hk e h4⟩
    have := h3 k hk
    rw [e] at this
    exact this

/-- X's cells in the midst of a move: i items have moved -/
def bl_M (L n : Nat) (pl kd ce : Nat → Nat) (i : Nat) : Prop :=
  (∀ k, k < i → ce (bl_n pl k) = kd k + 1) ∧ (∀ k, i ≤ k → k < n → ce (pl k) = kd k + 1) ∧
  (∀ j, j ≤ L → ce j ≠ 0 → (∃ k, k < i ∧ bl_n pl k = j) ∨ (∃ k, i ≤ k ∧ k < n ∧ pl k = j))

theorem bl_M0 {L n : Nat} {pl kd ce : Nat → Nat} (h : bl_Q L n pl kd ce) : bl_M L n pl kd ce 0 := by
  obtain ⟨h0, h1, h2, h3, h4, h5⟩ := h
  refine ⟨fun k hk => absurd hk (Nat.not_lt_zero k), fun k _ hk => h3 k hk, fun j hj hz => ?_⟩
  obtain ⟨i, hi, e⟩ := h5 j hj hz
  exact Or.inr ⟨i, Nat.zero_le _, hi, e⟩

theorem bl_M_end {L n : Nat} {pl kd ce ce' : Nat → Nat} (h : bl_Q L n pl kd ce) (m : bl_M L n pl kd ce' n) : bl_Q L n (bl_n pl) kd ce' := by
  obtain ⟨h0, h1, h2, h3, h4, h5⟩ := h
  obtain ⟨m1, m2, m3⟩ := m
  refine ⟨h0, fun i hi => ?_, h2, m1, bl_n_gap h4, fun j hj hz => ?_⟩
  · have := h1 i hi; have := bl_n_le pl i; omega
  · rcases m3 j hj hz with ⟨k, hk, e⟩ | ⟨k, hk, hk2, e⟩
    · exact ⟨k, hk, e⟩
    · omega

theorem bl_M_scan {L n : Nat} {pl kd ce ce' : Nat → Nat} (h : bl_Q L n pl kd ce) {t i : Nat} (m : bl_M L n pl kd ce' i) (s : bl_S n pl t i) (ht : t ≤ L) :
    (ce' t = 0 ∧ bl_S n pl (t + 1) i) ∨ (i < n ∧ pl i = t ∧ ce' t = kd i + 1 ∧ bl_S n pl (t + 1) (i + 1)) := by
  obtain ⟨h0, h1, h2, h3, h4, h5⟩ := h
  obtain ⟨m1, m2, m3⟩ := m
  by_cases hz : ce' t = 0
  · refine Or.inl ⟨hz, bl_S_no s (fun hi e => ?_) h4⟩
    have := m2 i (Nat.le_refl _) hi
    rw [e] at this
    omega
  · rcases m3 t ht hz with ⟨k, hk, e⟩ | ⟨k, hk, hk2, e⟩
    · have a := s.2.1 k hk
      have b := bl_n_le pl k
      omega
    · have g2 : ¬ i < k := fun z => by
        have a := s.2.2 i (Nat.le_refl _) (by omega)
        have b := bl_lt h4 z hk2
        omega
      have g : k = i := by omega
      subst g
      refine Or.inr ⟨hk2, e, ?_, bl_S_yes s hk2 e h4⟩
      have := m2 k (Nat.le_refl _) hk2
      rw [e] at this
      exact this

theorem bl_M_step {L n : Nat} {pl kd ce ce' ce'' : Nat → Nat} (h : bl_Q L n pl kd ce) {i : Nat} (m : bl_M L n pl kd ce' i) (hi : i < n)
    (c : ∀ j, j ≤ L → ce'' j = if j = bl_n pl i then kd i + 1 else if j = pl i then 0 else ce' j) : bl_M L n pl kd ce'' (i + 1) := by
  obtain ⟨h0, h1, h2, h3, h4, h5⟩ := h
  obtain ⟨m1, m2, m3⟩ := m
  have hle := bl_n_le pl
  refine ⟨fun k hk => ?_, fun k hk hn => ?_, fun j hj hz => ?_⟩
  · have hkL : bl_n pl k ≤ L := Nat.le_trans (hle k) (h1 k (by omega))
    rw [c _ hkL]
    by_cases e : k = i
    · subst e; rw [if_pos rfl]
    · have a := bl_lt (bl_n_gap h4) (i := k) (j := i) (by omega) hi
      have b := hle i
      rw [if_neg (by omega), if_neg (by omega)]
      exact m1 k (by omega)
  · have a := bl_lt h4 (i := i) (j := k) (by omega) hn
    have b := hle i
    rw [c _ (h1 k hn), if_neg (by omega), if_neg (by omega)]
    exact m2 k (by omega) hn
  · rw [c j hj] at hz
    by_cases e : j = bl_n pl i
    · exact Or.inl ⟨i, by omega, e.symm⟩
    · rw [if_neg e] at hz
      by_cases e2 : j = pl i
      · rw [if_pos e2] at hz; exact absurd rfl hz
      · rw [if_neg e2] at hz
        rcases m3 j hj hz with ⟨k, hk, e3⟩ | ⟨k, hk, hk2, e3⟩
        · exact Or.inl ⟨k, by omega, e3⟩
        · refine Or.inr ⟨k, ?_, hk2, e3⟩
          have : k ≠ i := fun z => e2 (by rw [← e3, z])
          omega

theorem bl_Q_le {L n : Nat} {pl kd ce : Nat → Nat} (h : bl_Q L n pl kd ce) : ∀ j, j ≤ L → ce j ≤ 8 := by
  intro j hj
  by_cases hz : ce j = 0
  · omega
  · obtain ⟨i, hi, e⟩ := h.2.2.2.2.2 j hj hz
    have a := h.2.2.2.1 i hi
    have b := h.2.2.1 i hi
    rw [e] at a
    omega

/-- an item at place 0 is the first -/
theorem bl_zero {L n : Nat} {pl kd ce : Nat → Nat} (h : bl_Q L n pl kd ce) (hz : ce 0 ≠ 0) : 0 < n ∧ pl 0 = 0 ∧ ce 0 = kd 0 + 1 := by
  obtain ⟨i, hi, e⟩ := h.2.2.2.2.2 0 (Nat.zero_le _) hz
  have a := bl_mono h.2.2.2.2.1 i 0 (by omega)
  rw [Nat.zero_add, e] at a
  have i0 : i = 0 := by omega
  subst i0
  have b := h.2.2.2.1 0 hi
  rw [e] at b
  exact ⟨hi, e, b⟩

theorem bl_zero_no {L n : Nat} {pl kd ce : Nat → Nat} (h : bl_Q L n pl kd ce) (hz : ce 0 = 0) (hn : 0 < n) : pl 0 ≠ 0 := by
  intro e
  have b := h.2.2.2.1 0 hn
  rw [e] at b
  omega

/-- functions of naturals, stored into -/
def bl_u (f : Nat → Nat) (k x : Nat) : Nat → Nat := fun j => if j = k then x else f j
theorem bl_us {f : Nat → Nat} {k x : Nat} : bl_u f k x k = x := if_pos rfl
theorem bl_un {f : Nat → Nat} {k x j : Nat} (h : j ≠ k) : bl_u f k x j = f j := if_neg h
theorem bl_ue {f : Nat → Nat} {k x j : Nat} (h : j = k) : bl_u f k x j = x := if_pos h

/-- cells lo .. hi - 1 take their right neighbours' values -/
def bl_sh (f : Nat → Nat) (lo hi : Nat) : Nat → Nat := fun j => if lo ≤ j ∧ j < hi then f (j + 1) else f j
theorem bl_sh_in {f : Nat → Nat} {lo hi j : Nat} (h : lo ≤ j) (h2 : j < hi) : bl_sh f lo hi j = f (j + 1) := if_pos ⟨h, h2⟩
theorem bl_sh_lo {f : Nat → Nat} {lo hi j : Nat} (h : j < lo) : bl_sh f lo hi j = f j := if_neg (by omega)
theorem bl_sh_hi {f : Nat → Nat} {lo hi j : Nat} (h : hi ≤ j) : bl_sh f lo hi j = f j := if_neg (by omega)
theorem bl_sh_0 (f : Nat → Nat) (lo : Nat) : bl_sh f lo lo = f := by
  funext j
  exact if_neg (by omega)
theorem bl_sh_s (f : Nat → Nat) {lo hi : Nat} (h : lo ≤ hi) : bl_u (bl_sh f lo hi) hi (f (hi + 1)) = bl_sh f lo (hi + 1) := by
  funext j
  by_cases e : j = hi
  · subst e
    rw [bl_us, bl_sh_in h (Nat.lt_succ_self _)]
  · rw [bl_un e]
    by_cases g : lo ≤ j ∧ j < hi
    · rw [bl_sh_in g.1 g.2, bl_sh_in g.1 (by omega)]
    · have g2 : ¬ (lo ≤ j ∧ j < hi + 1) := by omega
      exact (if_neg g).trans (if_neg g2).symm

/-- the four belts -/
def bl_W (L : Nat) (CE CN PL KD : Nat → Nat) : Prop :=
  ∀ b, b < 4 → bl_Q L (CN b) (fun i => PL (b * 16 + i)) (fun i => KD (b * 16 + i)) (fun j => CE (b * 61 + j))

theorem bl_W_15 {L b : Nat} {CE CN PL KD : Nat → Nat} (w : bl_W L CE CN PL KD) (hL : 8 ≤ L) (hL2 : L ≤ 60) (hb : b < 4)
    (r : bl_rm L (CN b) (fun i => PL (b * 16 + i))) : CN b < 16 :=
  (bl_start (ce' := bl_u (fun j => CE (b * 61 + j)) L (0 + 1)) (pl' := bl_u (fun i => PL (b * 16 + i)) (CN b) L) (kd' := bl_u (fun i => KD (b * 16 + i)) (CN b) 0) (w b hb) r hL hL2 (by omega) (fun i hi => bl_un (by omega)) bl_us (fun i hi => bl_un (by omega)) bl_us (fun j hj => bl_un (by omega)) bl_us).2

theorem bl_W_start {L k b : Nat} {CE CN PL KD : Nat → Nat} (w : bl_W L CE CN PL KD) (hL : 8 ≤ L) (hL2 : L ≤ 60) (hb : b < 4) (hk : k < 8)
    (r : bl_rm L (CN b) (fun i => PL (b * 16 + i))) :
    bl_W L (bl_u CE (b * 61 + L) (k + 1)) (bl_u CN b (CN b + 1)) (bl_u PL (b * 16 + CN b) L) (bl_u KD (b * 16 + CN b) k) := by
  intro c hc
  by_cases e : c = b
  · subst e
    rw [bl_us]
    refine (bl_start (w c hc) r hL hL2 hk (fun i hi => ?_) ?_ (fun i hi => ?_) ?_ (fun j hj => ?_) ?_).1
    · exact bl_un (by omega)
    · exact bl_us
    · exact bl_un (by omega)
    · exact bl_us
    · exact bl_un (by omega)
    · exact bl_us
  · rw [bl_un e]
    have a := (w c hc).1
    have d := bl_W_15 w hL hL2 hb r
    refine bl_cong (w c hc) (fun i hi => ?_) (fun i hi => ?_) (fun j hj => ?_)
    · exact bl_un (by omega)
    · exact bl_un (by omega)
    · exact bl_un (by omega)

theorem bl_W_off {L b i m : Nat} {CE CN PL KD : Nat → Nat} (w : bl_W L CE CN PL KD) (hL2 : L ≤ 60) (hb : b < 4) (hm : CN b = m + 1) (hi : i ≤ m) :
    bl_W L (bl_u CE (b * 61 + PL (b * 16 + i)) 0) (bl_u CN b m) (bl_sh PL (b * 16 + i) (b * 16 + m)) (bl_sh KD (b * 16 + i) (b * 16 + m)) := by
  intro c hc
  have d := (w b hb).1
  have hp : PL (b * 16 + i) ≤ L := (w b hb).2.1 i (by omega)
  by_cases e : c = b
  · subst e
    rw [bl_us]
    have h := w c hc
    have g := bl_off (i := i) (pl' := fun i' => bl_sh PL (c * 16 + i) (c * 16 + m) (c * 16 + i')) (kd' := fun i' => bl_sh KD (c * 16 + i) (c * 16 + m) (c * 16 + i')) (ce' := fun j => bl_u CE (c * 61 + PL (c * 16 + i)) 0 (c * 61 + j)) h (by omega)
      (fun k hk => bl_sh_lo (by omega)) (fun k hk hk2 => bl_sh_in (by omega) (by omega)) (fun k hk => bl_sh_lo (by omega)) (fun k hk hk2 => bl_sh_in (by omega) (by omega))
      (fun j hj hne => bl_un (by have hne2 : j ≠ PL (c * 16 + i) := hne; omega)) bl_us
    rw [hm, Nat.add_sub_cancel] at g
    exact g
  · rw [bl_un e]
    have a := (w c hc).1
    refine bl_cong (w c hc) (fun k hk => ?_) (fun k hk => ?_) (fun j hj => ?_)
    · by_cases z : c < b
      · exact bl_sh_lo (by omega)
      · exact bl_sh_hi (by omega)
    · by_cases z : c < b
      · exact bl_sh_lo (by omega)
      · exact bl_sh_hi (by omega)
    · exact bl_un (by omega)

/-- the reference's places of belt b, the first i items moved -/
def bl_mv (PL : Nat → Nat) (b i : Nat) : Nat → Nat := fun j => if b * 16 ≤ j ∧ j < b * 16 + i then bl_n (fun i => PL (b * 16 + i)) (j - b * 16) else PL j
theorem bl_mv_in {PL : Nat → Nat} {b i k : Nat} (h : k < i) : bl_mv PL b i (b * 16 + k) = bl_n (fun i => PL (b * 16 + i)) k := by
  have e : bl_mv PL b i (b * 16 + k) = bl_n (fun i => PL (b * 16 + i)) (b * 16 + k - b * 16) := if_pos ⟨by omega, by omega⟩
  rw [e, Nat.add_sub_cancel_left]
theorem bl_mv_hi {PL : Nat → Nat} {b i j : Nat} (h : b * 16 + i ≤ j) : bl_mv PL b i j = PL j := if_neg (by omega)
theorem bl_mv_lo {PL : Nat → Nat} {b i j : Nat} (h : j < b * 16) : bl_mv PL b i j = PL j := if_neg (by omega)
theorem bl_mv_0 (PL : Nat → Nat) (b : Nat) : bl_mv PL b 0 = PL := by
  funext j
  exact if_neg (by omega)
theorem bl_mv_s (PL : Nat → Nat) (b i : Nat) : bl_u (bl_mv PL b i) (b * 16 + i) (bl_n (fun i => PL (b * 16 + i)) i) = bl_mv PL b (i + 1) := by
  funext j
  by_cases e : j = b * 16 + i
  · subst e
    rw [bl_us, bl_mv_in (Nat.lt_succ_self _)]
  · rw [bl_un e]
    by_cases g : b * 16 ≤ j ∧ j < b * 16 + i
    · obtain ⟨k, rfl⟩ : ∃ k, j = b * 16 + k := ⟨j - b * 16, by omega⟩
      rw [bl_mv_in (by omega), bl_mv_in (by omega)]
    · have g2 : ¬ (b * 16 ≤ j ∧ j < b * 16 + (i + 1)) := by omega
      exact (if_neg g).trans (if_neg g2).symm
theorem bl_mv_f (PL : Nat → Nat) (b i : Nat) (h : bl_n (fun i => PL (b * 16 + i)) i = PL (b * 16 + i)) : bl_mv PL b i = bl_mv PL b (i + 1) := by
  rw [← bl_mv_s]
  funext j
  by_cases e : j = b * 16 + i
  · subst e
    rw [bl_us, bl_mv_hi (Nat.le_refl _), h]
  · rw [bl_un e]

theorem bl_W_move {L b : Nat} {CE CE' CN PL KD : Nat → Nat} (w : bl_W L CE CN PL KD) (hL2 : L ≤ 60) (hb : b < 4)
    (hf : ∀ c j, c < 4 → c ≠ b → j ≤ L → CE' (c * 61 + j) = CE (c * 61 + j))
    (m : bl_M L (CN b) (fun i => PL (b * 16 + i)) (fun i => KD (b * 16 + i)) (fun j => CE' (b * 61 + j)) (CN b)) :
    bl_W L CE' CN (bl_mv PL b (CN b)) KD := by
  intro c hc
  have d := (w b hb).1
  by_cases e : c = b
  · subst e
    exact bl_cong (bl_M_end (w c hc) m) (fun i hi => bl_mv_in hi) (fun i hi => rfl) (fun j hj => rfl)
  · have a := (w c hc).1
    refine bl_cong (w c hc) (fun i hi => ?_) (fun i hi => rfl) (fun j hj => hf c j hc e hj)
    by_cases z : c < b
    · exact bl_mv_lo (by omega)
    · exact bl_mv_hi (by omega)
end
section
/- numbers and indices -/
abbrev bl_i (f : Nat → Nat) : Nat → Int32 := fun j => nI (f j)
theorem bl_ui {f : Nat → Nat} {k' k : Nat} {x : Nat} {y : Int32} (hk : k' = k) (hy : y = nI x) : upd (bl_i f) k' y = bl_i (bl_u f k x) := by
  subst hk hy
  funext j
  by_cases e : j = k'
  · subst e
    rw [pk_us]
    show _ = nI (bl_u f j x j)
    rw [bl_us]
  · rw [pk_un e]
    show _ = nI (bl_u f k' x j)
    rw [bl_un e]
theorem bl_z0 : (fun _ => 0 : Nat → Int32) = bl_i (fun _ => 0) := rfl

theorem bn_z {c : Nat} (hc : c < 2 ^ 31) : nI c = 0 ↔ c = 0 := by
  have h := nI_eq (a := c) (b := 0) hc (by omega)
  exact h
theorem bn_x (b t : Nat) : nI b * 61 + nI t = nI (b * 61 + t) := by
  rw [show (61 : Int32) = nI 61 from rfl, pk_mul, nI_add]
theorem bn_x0 (b : Nat) : nI b * 61 = nI (b * 61) := by
  rw [show (61 : Int32) = nI 61 from rfl, pk_mul]
theorem bn_y (b t : Nat) : nI b * 16 + nI t = nI (b * 16 + t) := by
  rw [show (16 : Int32) = nI 16 from rfl, pk_mul, nI_add]
theorem bn_y0 (b : Nat) : nI b * 16 = nI (b * 16) := by
  rw [show (16 : Int32) = nI 16 from rfl, pk_mul]
theorem bn_xin {b t : Nat} (hb : b < 4) (ht : t ≤ 60) : vp_in (nI b * 61 + nI t) 244 := by
  rw [bn_x]; exact vp_in_nI (by omega) (by omega)
theorem bn_xcl {b t : Nat} (hb : b < 4) (ht : t ≤ 60) : (nI b * 61 + nI t).toNatClampNeg = b * 61 + t := by
  rw [bn_x]; exact nI_clamp (by omega)
theorem bn_xin0 {b : Nat} (hb : b < 4) : vp_in (nI b * 61) 244 := by
  rw [bn_x0]; exact vp_in_nI (by omega) (by omega)
theorem bn_xcl0 {b : Nat} (hb : b < 4) : (nI b * 61).toNatClampNeg = b * 61 := by
  rw [bn_x0]; exact nI_clamp (by omega)
theorem bn_yin {b t : Nat} (hb : b < 4) (ht : t < 16) : vp_in (nI b * 16 + nI t) 64 := by
  rw [bn_y]; exact vp_in_nI (by omega) (by omega)
theorem bn_ycl {b t : Nat} (hb : b < 4) (ht : t < 16) : (nI b * 16 + nI t).toNatClampNeg = b * 16 + t := by
  rw [bn_y]; exact nI_clamp (by omega)
theorem bn_yin0 {b : Nat} (hb : b < 4) : vp_in (nI b * 16) 64 := by
  rw [bn_y0]; exact vp_in_nI (by omega) (by omega)
theorem bn_ycl0 {b : Nat} (hb : b < 4) : (nI b * 16).toNatClampNeg = b * 16 := by
  rw [bn_y0]; exact nI_clamp (by omega)
theorem bn_bin {b : Nat} (hb : b < 4) : vp_in (nI b) 4 := vp_in_nI hb (by omega)
theorem bn_bcl {b : Nat} (hb : b < 4) : (nI b).toNatClampNeg = b := nI_clamp (by omega)
theorem bn_ain {a : Nat} (ha : a < 2) : vp_in (nI a) 2 := vp_in_nI ha (by omega)
theorem bn_acl {a : Nat} (ha : a < 2) : (nI a).toNatClampNeg = a := nI_clamp (by omega)
theorem bn_xrd {f : Nat → Nat} {b t : Nat} (hb : b < 4) (ht : t ≤ 60) : bl_i f (nI b * 61 + nI t).toNatClampNeg = nI (f (b * 61 + t)) := by
  rw [bn_xcl hb ht]
theorem bn_xrd0 {f : Nat → Nat} {b : Nat} (hb : b < 4) : bl_i f (nI b * 61).toNatClampNeg = nI (f (b * 61)) := by
  rw [bn_xcl0 hb]
theorem bn_yrd {f : Nat → Nat} {b t : Nat} (hb : b < 4) (ht : t < 16) : bl_i f (nI b * 16 + nI t).toNatClampNeg = nI (f (b * 16 + t)) := by
  rw [bn_ycl hb ht]
theorem bn_yrd0 {f : Nat → Nat} {b : Nat} (hb : b < 4) : bl_i f (nI b * 16).toNatClampNeg = nI (f (b * 16)) := by
  rw [bn_ycl0 hb]
theorem bn_brd {f : Nat → Nat} {b : Nat} (hb : b < 4) : bl_i f (nI b).toNatClampNeg = nI (f b) := by
  rw [bn_bcl hb]
theorem bn_ard {f : Nat → Nat} {a : Nat} (ha : a < 2) : bl_i f (nI a).toNatClampNeg = nI (f a) := by
  rw [bn_acl ha]

theorem bn_pred (m : Nat) : nI (m + 1) - 1 = nI m := nI_pred m
theorem bn_L4 {L : Nat} (h : 8 ≤ L) : nI L - 4 = nI (L - 4) := pk_sub (b := 4) (by omega)
theorem bn_L3 {L : Nat} (h : 8 ≤ L) : nI L - 4 + 1 = nI (L - 3) := by
  rw [bn_L4 h, nI_1]
  exact congrArg nI (by omega)
theorem bn_m4 : (-4 : Int32) = nI 0 - 4 := by decide
theorem bn_q4 (a : Nat) : nI a = nI (a + 4) - 4 := by
  have h := pk_sub (a := a + 4) (b := 4) (by omega)
  rw [Nat.add_sub_cancel] at h
  exact h.symm
theorem bn_dif {t q : Nat} (h : q ≤ t) : nI t - (nI q - 4) = nI (t - q + 4) := by
  have e : nI t - (nI q - 4) = nI t - nI q + 4 := by grind
  rw [e, pk_sub h]
  exact nI_add _ 4
theorem bn_ne4 (n : Nat) (h : n < 2 ^ 31) : ¬ nI n = -4 := by
  intro e
  have a := nI_toInt h
  rw [e] at a
  have b : (-4 : Int32).toInt = -4 := by decide
  omega
theorem bn_ne1 (n : Nat) (h : n < 2 ^ 31) : ¬ nI n = -1 := by
  intro e
  have a := nI_toInt h
  rw [e] at a
  have b : (-1 : Int32).toInt = -1 := by decide
  omega
theorem bn_ne2 (n : Nat) (h : n < 2 ^ 31) : ¬ nI n = -2 := by
  intro e
  have a := nI_toInt h
  rw [e] at a
  have b : (-2 : Int32).toInt = -2 := by decide
  omega
/-- not an index below n -/
def bn_bad (n : Nat) (x : Int32) : Prop := x < 0 ∨ nI n ≤ x
theorem bn_split (n : Nat) (hn : n < 2 ^ 31) (x : Int32) : bn_bad n x ∨ ∃ j, j < n ∧ x = nI j := by
  rcases pk_ix x hn with h | h | h
  · exact Or.inl (Or.inl h)
  · exact Or.inl (Or.inr h)
  · exact Or.inr h
theorem bn_gt {n : Nat} (hn : n + 1 < 2 ^ 31) {x : Int32} (h : nI (n + 1) ≤ x) : ¬ x ≤ nI n := by
  rw [Int32.le_iff_toInt_le, nI_toInt hn] at h
  rw [Int32.le_iff_toInt_le, nI_toInt (by omega)]
  omega
theorem bn_gt' {n : Nat} (hn : n + 1 < 2 ^ 31) {x : Int32} (h : nI (n + 1) ≤ x) : nI n < x := by
  rw [Int32.le_iff_toInt_le, nI_toInt hn] at h
  rw [Int32.lt_iff_toInt_lt, nI_toInt (by omega)]
  omega

/-- whether the arm's set A holds kind k -/
def bn_w (A : Int32) (k : Nat) : Prop := ¬ ((A >>> (nI k &&& 31)) &&& 1) = 0
theorem bn_bt1 : ∀ i, i < 32 → bt 1 i = decide (i = 0) := by decide +kernel
theorem bn_mask (A : Int32) {k : Nat} (hk : k < 8) : (((A &&& 255) >>> (nI k &&& 31)) &&& 1) = ((A >>> (nI k &&& 31)) &&& 1) := by
  apply b_ext
  intro i hi
  rw [b_and, b_and, bn_bt1 i hi]
  by_cases e : i = 0
  · subst e
    rw [b_sshr k (by omega) _ hi, b_sshr k (by omega) _ hi, if_pos (by omega), if_pos (by omega), b_and, b_255, Nat.add_zero, decide_eq_true hk, Bool.and_true]
  · rw [decide_eq_false e, Bool.and_false, Bool.and_false]
theorem bn_and1 (x : Int32) : ¬ (x &&& 1) = 0 ↔ (x &&& 1) = 1 := by
  obtain ⟨j, hj, e⟩ := pk_andE x (m := 1) 1 (by decide)
  rw [e]
  have : j = 0 ∨ j = 1 := by omega
  rcases this with rfl | rfl
  · exact ⟨fun h => absurd rfl h, fun h => absurd h (by decide)⟩
  · exact ⟨fun _ => rfl, fun _ => by decide⟩
theorem bn_w1 (A : Int32) {k : Nat} (hk : k < 8) : (((A &&& 255) >>> (nI k &&& 31)) &&& 1) = 1 ↔ bn_w A k := by
  rw [bn_mask A hk]
  exact (bn_and1 _).symm
end
section
/- X's own methods, each with a general post -/
theorem rx_isB {b : Nat} (hb : b < 4) {post : Int32 → Prop} (h : post 1) : wpX_isBelt post (nI b) :=
  br_f (nI_pos (by omega)) (br_f (nI_ge (b := 4) hb (by decide)) h)
theorem rx_noB {x : Int32} (hx : bn_bad 4 x) {post : Int32 → Prop} (h : post 0) : wpX_isBelt post x := by
  by_cases h0 : x < 0
  · exact br_t h0 h
  · exact br_f h0 (br_t (hx.resolve_left h0) h)
theorem rx_isA {a : Nat} (ha : a < 2) {post : Int32 → Prop} (h : post 1) : wpX_isArm post (nI a) :=
  br_f (nI_pos (by omega)) (br_f (nI_ge (b := 2) ha (by decide)) h)
theorem rx_noA {x : Int32} (hx : bn_bad 2 x) {post : Int32 → Prop} (h : post 0) : wpX_isArm post x := by
  by_cases h0 : x < 0
  · exact br_t h0 h
  · exact br_f h0 (br_t (hx.resolve_left h0) h)
theorem rx_clampN {a L : Nat} (ha : a < 2 ^ 31) (hL : L < 2 ^ 31) {post : Int32 → Prop} (h : post (nI (if a ≤ L then a else L))) : wpX_clamp post (nI a) 0 (nI L) := by
  by_cases e : a ≤ L
  · rw [if_pos e] at h
    exact br_t (nI_pos' ha) (br_t (nI_le e hL) h)
  · rw [if_neg e] at h
    exact br_t (nI_pos' ha) (br_f (nI_ge (by omega) ha) h)
theorem rx_pam {t q : Nat} (hq : q ≤ t) (ht : t < 1000) {post : Int32 → Prop} (h : post (nI (if q < t then t - 1 else t))) : wpX_placeAfterMove post (nI t) (nI q - 4) := by
  by_cases t0 : t = 0
  · subst t0
    rw [if_neg (by omega)] at h
    exact br_t (nI_le (a := 0) (b := 0) (by omega) (by decide)) h
  · refine br_f (nI_nle (by omega) (by omega)) ?_
    rw [bn_dif hq]
    by_cases e : q < t
    · rw [if_pos e] at h
      refine br_f (nI_ge (b := t - q + 4) (a := 4) (by omega) (by omega)) ?_
      have e2 : nI t - 1 = nI (t - 1) := pk_sub (b := 1) (by omega)
      rw [e2]
      exact h
    · rw [if_neg e] at h
      exact br_t (nI_le (a := t - q + 4) (b := 4) (by omega) (by decide)) h

section
variable {L b : Nat} {CE : Nat → Nat} {g : Int32} {E S F T R A H : Nat → Int32}

theorem rx_room9 (hb : b < 4) (hL : L ≤ 60) (hc : ∀ j, j ≤ L → CE (b * 61 + j) ≤ 8) : ∀ d t, t + d = L + 1 → ∀ post : Int32 → Prop,
    ((∀ j, t ≤ j → j ≤ L → CE (b * 61 + j) = 0) → post 1) → ((¬ ∀ j, t ≤ j → j ≤ L → CE (b * 61 + j) = 0) → post 0) →
    wX_hasRoom_9 post (nI b) (nI L) g (bl_i CE) E S F T R A H (d + 1) (nI t) := by
  intro d
  induction d with
  | zero =>
    intro t ht post h1 _
    exact br_t (nI_lt (by omega) (by omega)) (h1 (fun j a b => by omega))
  | succ d ih =>
    intro t ht post h1 h0
    have hn : ¬ nI L < nI t := nI_nlt (by omega) (by omega)
    have hcl := hc t (by omega)
    by_cases z : CE (b * 61 + t) = 0
    · have ez : bl_i CE (nI b * 61 + nI t).toNatClampNeg = 0 := by rw [bn_xrd hb (by omega), z]; rfl
      refine br_f hn ⟨bn_xin hb (by omega), br_t ez (nm_r (nI_1 t) (ih (t + 1) (by omega) post (fun k => h1 (fun j a b => ?_)) (fun k => h0 (fun q => k (fun j a b => q j (by omega) b)))))⟩
      by_cases e : j = t
      · subst e; exact z
      · exact k j (by omega) b
    · have ez : ¬ bl_i CE (nI b * 61 + nI t).toNatClampNeg = 0 := by rw [bn_xrd hb (by omega), bn_z (by omega)]; exact z
      exact br_f hn ⟨bn_xin hb (by omega), br_f ez (h0 (fun q => z (q t (Nat.le_refl _) (by omega))))⟩

theorem rx_hasRoom {n : Nat} {pl kd : Nat → Nat} (hb : b < 4) (hL8 : 8 ≤ L) (hL : L ≤ 60) (q : bl_Q L n pl kd (fun j => CE (b * 61 + j))) {post : Int32 → Prop}
    (h1 : bl_rm L n pl → post 1) (h0 : ¬ bl_rm L n pl → post 0) : wpX_hasRoom post (nI L, g, bl_i CE, E, S, F, T, R, A, H) (nI b) := by
  have hi := bl_rm_iff q hL8
  refine nm_r (bn_L3 hL8) ⟨4 + 1, rx_room9 hb hL (bl_Q_le q) 4 (L - 3) (by omega) post (fun k => h1 (hi.mpr (fun j a c => k j (by omega) c))) (fun k => h0 (fun r => k (fun j a c => hi.mp r j (by omega) c)))⟩

theorem rx_cnt4 {n : Nat} {pl kd : Nat → Nat} (hb : b < 4) (hL : L ≤ 60) (q : bl_Q L n pl kd (fun j => CE (b * 61 + j))) : ∀ d t i, t + d = L + 1 → bl_S n pl t i → ∀ post : Int32 → Prop,
    post (nI n) → wX_countItems_4 post (nI b) (nI L) g (bl_i CE) E S F T R A H (d + 1) (nI i) (nI t) := by
  intro d
  induction d with
  | zero =>
    intro t i ht s post hp
    have et : t = L + 1 := by omega
    subst et
    have e := bl_S_end q s
    subst e
    exact br_t (nI_lt (by omega) (by omega)) hp
  | succ d ih =>
    intro t i ht s post hp
    have hn : ¬ nI L < nI t := nI_nlt (by omega) (by omega)
    rcases bl_scan q s (by omega) with ⟨z, s'⟩ | ⟨hi, e, z, s'⟩
    · replace z : CE (b * 61 + t) = 0 := z
      have ez : bl_i CE (nI b * 61 + nI t).toNatClampNeg = 0 := by rw [bn_xrd hb (by omega), z]; rfl
      exact br_f hn ⟨bn_xin hb (by omega), br_t ez (nm_r (nI_1 t) (ih (t + 1) i (by omega) s' post hp))⟩
    · replace z : CE (b * 61 + t) = kd i + 1 := z
      have k8 := q.2.2.1 i hi
      have ez : ¬ bl_i CE (nI b * 61 + nI t).toNatClampNeg = 0 := by rw [bn_xrd hb (by omega), bn_z (by omega)]; omega
      exact br_f hn ⟨bn_xin hb (by omega), br_f ez (nm_r (nI_1 i) (nm_r (nI_1 t) (ih (t + 1) (i + 1) (by omega) s' post hp)))⟩

theorem rx_count {n : Nat} {pl kd : Nat → Nat} (hb : b < 4) (hL : L ≤ 60) (q : bl_Q L n pl kd (fun j => CE (b * 61 + j))) {post : Int32 → Prop}
    (h : post (nI n)) : wpX_countItems post (nI L, g, bl_i CE, E, S, F, T, R, A, H) (nI b) :=
  ⟨L + 1 + 1, rx_cnt4 hb hL q (L + 1) 0 0 (by omega) (bl_S0 n pl) post h⟩

theorem rx_find5 {n : Nat} {pl kd : Nat → Nat} (x : Int32) (hb : b < 4) (hL : L ≤ 60) (q : bl_Q L n pl kd (fun j => CE (b * 61 + j))) : ∀ d t i, t + d = L + 1 → bl_S n pl t i →
    (∀ m, m < i → x ≠ nI m) → ∀ post : Int32 → Prop, (∀ m, m < n → x = nI m → post (nI (pl m))) → ((∀ m, m < n → x ≠ nI m) → post (-4)) →
    wX_findItem_5 post (nI b) x (nI L) g (bl_i CE) E S F T R A H (d + 1) (nI i) (nI t) := by
  intro d
  induction d with
  | zero =>
    intro t i ht s hx post h1 h0
    have et : t = L + 1 := by omega
    subst et
    have e := bl_S_end q s
    subst e
    exact br_t (nI_lt (by omega) (by omega)) (h0 hx)
  | succ d ih =>
    intro t i ht s hx post h1 h0
    have hn : ¬ nI L < nI t := nI_nlt (by omega) (by omega)
    rcases bl_scan q s (by omega) with ⟨z, s'⟩ | ⟨hi, e, z, s'⟩
    · replace z : CE (b * 61 + t) = 0 := z
      have ez : bl_i CE (nI b * 61 + nI t).toNatClampNeg = 0 := by rw [bn_xrd hb (by omega), z]; rfl
      exact br_f hn ⟨bn_xin hb (by omega), br_t ez (nm_r (nI_1 t) (ih (t + 1) i (by omega) s' hx post h1 h0))⟩
    · replace z : CE (b * 61 + t) = kd i + 1 := z
      have k8 := q.2.2.1 i hi
      have ez : ¬ bl_i CE (nI b * 61 + nI t).toNatClampNeg = 0 := by rw [bn_xrd hb (by omega), bn_z (by omega)]; omega
      by_cases ex : nI i = x
      · have hp := h1 i hi ex.symm
        rw [e] at hp
        exact br_f hn ⟨bn_xin hb (by omega), br_f ez (br_t ex hp)⟩
      · refine br_f hn ⟨bn_xin hb (by omega), br_f ez (br_f ex (nm_r (nI_1 i) (nm_r (nI_1 t) (ih (t + 1) (i + 1) (by omega) s' (fun m hm => ?_) post h1 h0))))⟩
        by_cases em : m = i
        · subst em; exact fun k => ex k.symm
        · exact hx m (by omega)

theorem rx_find {n : Nat} {pl kd : Nat → Nat} (x : Int32) (hb : b < 4) (hL : L ≤ 60) (q : bl_Q L n pl kd (fun j => CE (b * 61 + j))) {post : Int32 → Prop}
    (h1 : ∀ m, m < n → x = nI m → post (nI (pl m))) (h0 : (∀ m, m < n → x ≠ nI m) → post (-4)) : wpX_findItem post (nI L, g, bl_i CE, E, S, F, T, R, A, H) (nI b) x :=
  ⟨L + 1 + 1, rx_find5 x hb hL q (L + 1) 0 0 (by omega) (bl_S0 n pl) (fun m hm => absurd hm (Nat.not_lt_zero m)) post h1 h0⟩

theorem rx_moving17 {n : Nat} {pl kd : Nat → Nat} (hb : b < 4) (hL : L ≤ 60) (q : bl_Q L n pl kd (fun j => CE (b * 61 + j))) : ∀ d t i, t + d = L + 1 → bl_S n pl t i →
    ∀ x3 : Int32, x3 = nI (bl_q pl i) - 4 → ∀ post : Int32 → Prop, post (nI (bl_m pl n)) →
    wX_moving_17 post (nI b) (nI L) g (bl_i CE) E S F T R A H (d + 1) (nI (bl_m pl i)) x3 (nI t) := by
  intro d
  induction d with
  | zero =>
    intro t i ht s x3 hx post hp
    have et : t = L + 1 := by omega
    subst et
    have e := bl_S_end q s
    subst e
    exact br_t (nI_lt (by omega) (by omega)) hp
  | succ d ih =>
    intro t i ht s x3 hx post hp
    have hn : ¬ nI L < nI t := nI_nlt (by omega) (by omega)
    rcases bl_scan q s (by omega) with ⟨z, s'⟩ | ⟨hi, e, z, s'⟩
    · replace z : CE (b * 61 + t) = 0 := z
      have ez : bl_i CE (nI b * 61 + nI t).toNatClampNeg = 0 := by rw [bn_xrd hb (by omega), z]; rfl
      exact br_f hn ⟨bn_xin hb (by omega), br_t ez (nm_r (nI_1 t) (ih (t + 1) i (by omega) s' x3 hx post hp))⟩
    · replace z : CE (b * 61 + t) = kd i + 1 := z
      have k8 := q.2.2.1 i hi
      have ez : ¬ bl_i CE (nI b * 61 + nI t).toNatClampNeg = 0 := by rw [bn_xrd hb (by omega), bn_z (by omega)]; omega
      have hq := bl_q_le q.2.2.2.2.1 i hi
      rw [e] at hq
      subst hx
      refine br_f hn ⟨bn_xin hb (by omega), br_f ez (rx_pam hq (by omega) ?_)⟩
      have en : (if bl_q pl i < t then t - 1 else t) = bl_n pl i := by unfold bl_n; rw [e]
      rw [en]
      by_cases mv : bl_q pl i < pl i
      · have em : bl_m pl (i + 1) = bl_m pl i + 1 := bl_m_t mv
        have hlt : bl_n pl i < t := by rw [bl_n_t mv]; omega
        have h := ih (t + 1) (i + 1) (by omega) s' (nI (bl_n pl i)) (bn_q4 _) post hp
        rw [em] at h
        exact br_f (nI_ge hlt (by omega)) (nm_r (nI_1 _) (nm_r (nI_1 t) h))
      · have em : bl_m pl (i + 1) = bl_m pl i := bl_m_f mv
        have heq : bl_n pl i = t := by rw [bl_n_f mv]; exact e
        have h := ih (t + 1) (i + 1) (by omega) s' (nI (bl_n pl i)) (bn_q4 _) post hp
        rw [em] at h
        exact br_t (nI_le (by omega) (by omega)) (nm_r (nI_1 t) h)

theorem rx_mv5 {n : Nat} {pl kd ce : Nat → Nat} (hb : b < 4) (hL : L ≤ 60) (q : bl_Q L n pl kd ce) : ∀ d t i, t + d = L + 1 → bl_S n pl t i → ∀ CE : Nat → Nat,
    bl_M L n pl kd (fun j => CE (b * 61 + j)) i → ∀ x2 : Int32, x2 = nI (bl_q pl i) - 4 →
    ∃ CE' : Nat → Nat, (∀ c j, c < 4 → c ≠ b → j ≤ L → CE' (c * 61 + j) = CE (c * 61 + j)) ∧ bl_M L n pl kd (fun j => CE' (b * 61 + j)) n ∧
      ∀ (E S F T R A H : Nat → Int32) (post : SX → Prop), post (nI L, g, bl_i CE', E, S, F, T, R, A, H) →
      wX_moveItems_5 post (nI b) (nI L) g (d + 1) x2 (nI t) (bl_i CE) E S F T R A H := by
  intro d
  induction d with
  | zero =>
    intro t i ht s CE m x2 hx
    have et : t = L + 1 := by omega
    subst et
    have e := bl_S_end q s
    subst e
    exact ⟨CE, fun _ _ _ _ _ => rfl, m, fun _ _ _ _ _ _ _ post hp => br_t (nI_lt (by omega) (by omega)) hp⟩
  | succ d ih =>
    intro t i ht s CE m x2 hx
    have hn : ¬ nI L < nI t := nI_nlt (by omega) (by omega)
    rcases bl_M_scan q m s (by omega) with ⟨z, s'⟩ | ⟨hi, e, z, s'⟩
    · replace z : CE (b * 61 + t) = 0 := z
      have ez : nI (CE (b * 61 + t)) = 0 := by rw [z]; rfl
      obtain ⟨CE', f, m', h⟩ := ih (t + 1) i (by omega) s' CE m x2 hx
      exact ⟨CE', f, m', fun E S F T R A H post hp => br_f hn ⟨bn_xin hb (by omega), nm_r (bn_xrd hb (by omega)) (br_t ez (nm_r (nI_1 t) (h E S F T R A H post hp)))⟩⟩
    · replace z : CE (b * 61 + t) = kd i + 1 := z
      have k8 := q.2.2.1 i hi
      have ez : ¬ nI (CE (b * 61 + t)) = 0 := by rw [bn_z (by omega)]; omega
      have hq := bl_q_le q.2.2.2.2.1 i hi
      rw [e] at hq
      have en : (if bl_q pl i < t then t - 1 else t) = bl_n pl i := by unfold bl_n; rw [e]
      have hle := bl_n_le pl i
      obtain ⟨CE', f, m', h⟩ := ih (t + 1) (i + 1) (by omega) s' (bl_u (bl_u CE (b * 61 + t) 0) (b * 61 + bl_n pl i) (CE (b * 61 + t)))
        (bl_M_step q m hi (fun j hj => by
          show bl_u (bl_u CE (b * 61 + t) 0) (b * 61 + bl_n pl i) (CE (b * 61 + t)) (b * 61 + j) = if j = bl_n pl i then kd i + 1 else if j = pl i then 0 else CE (b * 61 + j)
          by_cases e1 : j = bl_n pl i
          · rw [if_pos e1, bl_ue (by omega)]; exact z
          · rw [if_neg e1, bl_un (by omega)]
            by_cases e2 : j = pl i
            · rw [if_pos e2, bl_ue (by omega)]
            · rw [if_neg e2, bl_un (by omega)])) (nI (bl_n pl i)) (bn_q4 _)
      refine ⟨CE', fun c j hc hcb hj => ?_, m', fun E S F T R A H post hp => br_f hn ⟨bn_xin hb (by omega), nm_r (bn_xrd hb (by omega)) (br_f ez ?_)⟩⟩
      · rw [f c j hc hcb hj, bl_un (by omega), bl_un (by omega)]
      · subst hx
        refine rx_pam hq (by omega) ?_
        rw [en]
        exact ⟨bn_xin hb (by omega), nm_r (bl_ui (x := 0) (bn_xcl hb (by omega)) rfl) ⟨bn_xin hb (by omega), nm_r (bl_ui (bn_xcl hb (by omega)) rfl) (nm_r (nI_1 t) (h E S F T R A H post hp))⟩⟩

theorem rx_move {n : Nat} {pl kd : Nat → Nat} (hb : b < 4) (hL : L ≤ 60) (q : bl_Q L n pl kd (fun j => CE (b * 61 + j))) :
    ∃ CE' : Nat → Nat, (∀ c j, c < 4 → c ≠ b → j ≤ L → CE' (c * 61 + j) = CE (c * 61 + j)) ∧ bl_M L n pl kd (fun j => CE' (b * 61 + j)) n ∧
      ∀ (E S F T R A H : Nat → Int32) (post : SX → Prop), post (nI L, g, bl_i CE', E, S, F, T, R, A, H) →
      wpX_moveItems post (nI L, g, bl_i CE, E, S, F, T, R, A, H) (nI b) := by
  obtain ⟨CE', f, m', h⟩ := rx_mv5 (g := g) hb hL q (L + 1) 0 0 (by omega) (bl_S0 n pl) CE (bl_M0 q) (-4) bn_m4
  exact ⟨CE', f, m', fun E S F T R A H post hp => ⟨L + 1 + 1, h E S F T R A H post hp⟩⟩

theorem rx_takes {a k : Nat} (ha : a < 2) {post : Int32 → Prop} (h1 : bn_w (A a) k → post 1) (h0 : ¬ bn_w (A a) k → post 0) :
    wpX_armTakes post (nI L, g, bl_i CE, E, S, F, T, R, A, H) (nI a) (nI k) := by
  have e : A (nI a).toNatClampNeg = A a := by rw [bn_acl ha]
  unfold bn_w at h1 h0
  rw [← e] at h1 h0
  exact ⟨bn_ain ha, br_c (fun z => h0 (fun w => w z)) (fun z => h1 z)⟩

theorem rx_pick_no {a far : Nat} (ha : a < 2) (hb : b < 4) (hL : L ≤ 60) (hf : far ≤ L) (hc : ∀ j, j ≤ L → CE (b * 61 + j) ≤ 8) : ∀ d t, far + 1 ≤ t + d → t ≤ 1000 →
    (∀ j, t ≤ j → j ≤ far → CE (b * 61 + j) ≠ 0 → ¬ bn_w (A a) (CE (b * 61 + j) - 1)) → ∀ post : SX → Prop, post (nI L, g, bl_i CE, E, S, F, T, R, A, H) →
    wX_pickUp_32 post (nI a) (nI b) (nI far) (nI L) g (bl_i CE) E S F T R A H (d + 1) (nI t) := by
  intro d
  induction d with
  | zero =>
    intro t ht ht2 _ post hp
    exact br_t (nI_lt (by omega) (by omega)) hp
  | succ d ih =>
    intro t ht ht2 hw post hp
    by_cases e : t ≤ far
    · have hn : ¬ nI far < nI t := nI_nlt e (by omega)
      have c8 := hc t (by omega)
      have hr := ih (t + 1) (by omega) (by omega) (fun j a b c => hw j (by omega) b c) post hp
      by_cases z : CE (b * 61 + t) = 0
      · have ez : nI (CE (b * 61 + t)) = 0 := by rw [z]; rfl
        exact br_f hn ⟨bn_xin hb (by omega), nm_r (bn_xrd hb (by omega)) (br_t ez (nm_r (nI_1 t) hr))⟩
      · have ez : ¬ nI (CE (b * 61 + t)) = 0 := by rw [bn_z (by omega)]; exact z
        refine br_f hn ⟨bn_xin hb (by omega), nm_r (bn_xrd hb (by omega)) (br_f ez ?_)⟩
        have ep : nI (CE (b * 61 + t)) - 1 = nI (CE (b * 61 + t) - 1) := pk_sub (b := 1) (by omega)
        rw [ep]
        exact rx_takes ha (fun w => absurd w (hw t (Nat.le_refl _) e z)) (fun _ => br_t rfl (nm_r (nI_1 t) hr))
    · exact br_t (nI_lt (by omega) (by omega)) hp

theorem rx_pick_at {a far p k : Nat} (ha : a < 2) (hb : b < 4) (hL : L ≤ 60) (hf : far ≤ L) (hp : p ≤ far) (hc : ∀ j, j ≤ L → CE (b * 61 + j) ≤ 8)
    (hk : CE (b * 61 + p) = k + 1) (hw : bn_w (A a) k) : ∀ d t, t + d = p →
    (∀ j, t ≤ j → j < p → CE (b * 61 + j) ≠ 0 → ¬ bn_w (A a) (CE (b * 61 + j) - 1)) → ∀ post : SX → Prop,
    post (nI L, g, bl_i (bl_u CE (b * 61 + p) 0), E, S, F, T, R, A, upd H a (nI (k + 1))) →
    wX_pickUp_32 post (nI a) (nI b) (nI far) (nI L) g (bl_i CE) E S F T R A H (d + 1) (nI t) := by
  intro d
  induction d with
  | zero =>
    intro t ht _ post ho
    have et : t = p := by omega
    subst et
    have hn : ¬ nI far < nI t := nI_nlt hp (by omega)
    have c8 := hc t (by omega)
    have er : bl_i CE (nI b * 61 + nI t).toNatClampNeg = nI (k + 1) := by rw [bn_xrd hb (by omega), hk]
    have ez : ¬ nI (k + 1) = 0 := by rw [bn_z (by omega)]; omega
    refine br_f hn ⟨bn_xin hb (by omega), nm_r er (br_f ez ?_)⟩
    rw [bn_pred]
    refine rx_takes ha (fun _ => ?_) (fun w => absurd hw w)
    refine br_f (by decide) ⟨bn_xin hb (by omega), nm_r (bl_ui (x := 0) (bn_xcl hb (by omega)) rfl) ⟨bn_ain ha, nm_r (e' := upd H a (nI (k + 1))) (by rw [bn_acl ha]) ho⟩⟩
  | succ d ih =>
    intro t ht hq post ho
    have hn : ¬ nI far < nI t := nI_nlt (by omega) (by omega)
    have c8 := hc t (by omega)
    have hr := ih (t + 1) (by omega) (fun j a b c => hq j (by omega) b c) post ho
    by_cases z : CE (b * 61 + t) = 0
    · have ez : nI (CE (b * 61 + t)) = 0 := by rw [z]; rfl
      exact br_f hn ⟨bn_xin hb (by omega), nm_r (bn_xrd hb (by omega)) (br_t ez (nm_r (nI_1 t) hr))⟩
    · have ez : ¬ nI (CE (b * 61 + t)) = 0 := by rw [bn_z (by omega)]; exact z
      refine br_f hn ⟨bn_xin hb (by omega), nm_r (bn_xrd hb (by omega)) (br_f ez ?_)⟩
      have ep : nI (CE (b * 61 + t)) - 1 = nI (CE (b * 61 + t) - 1) := pk_sub (b := 1) (by omega)
      rw [ep]
      exact rx_takes ha (fun w => absurd w (hq t (Nat.le_refl _) (by omega) z)) (fun _ => br_t rfl (nm_r (nI_1 t) hr))

theorem rx_pick {a r : Nat} (ha : a < 2) (hL : L ≤ 60) (hr : r ≤ 60) (hF : F a = nI b) (hR : R a = nI r) {post : SX → Prop}
    (h : ∃ n, wX_pickUp_32 post (nI a) (nI b) (nI (if r + 3 ≤ L then r + 3 else L)) (nI L) g (bl_i CE) E S F T R A H n (nI r)) :
    wpX_pickUp post (nI L, g, bl_i CE, E, S, F, T, R, A, H) (nI a) := by
  have eF : F (nI a).toNatClampNeg = nI b := by rw [bn_acl ha]; exact hF
  have eR : R (nI a).toNatClampNeg = nI r := by rw [bn_acl ha]; exact hR
  have eR3 : R (nI a).toNatClampNeg + 3 = nI (r + 3) := by rw [eR]; exact nI_add r 3
  refine ⟨bn_ain ha, nm_r eF ⟨bn_ain ha, ?_⟩⟩
  rw [eR3]
  exact rx_clampN (by omega) (by omega) ⟨bn_ain ha, nm_r eR h⟩
end
end
section
/- the reference's methods, each with a general post -/
theorem ry_badN {b : Nat} (hb : b < 4) {u : SY} {post : Int32 → Prop} (h : post 0) : wpY_bad post u (nI b) := by
  obtain ⟨_, _, _, _, _, _, _, _, _, _, _, _⟩ := u
  exact br_f (nI_pos (by omega)) (br_t (nI_le (b := 3) (by omega) (by decide)) h)
theorem ry_badY {x : Int32} (hx : bn_bad 4 x) {u : SY} {post : Int32 → Prop} (h : post 1) : wpY_bad post u x := by
  obtain ⟨_, _, _, _, _, _, _, _, _, _, _, _⟩ := u
  by_cases h0 : x < 0
  · exact br_t h0 h
  · exact br_f h0 (br_f (bn_gt (n := 3) (by decide) (hx.resolve_left h0)) h)

section
variable {L b : Nat} {CN PL KD : Nat → Nat} {g : Int32} {E S F T R K H : Nat → Int32}

theorem ry_start {k : Nat} (hb : b < 4) (hn : CN b < 16) {post : SY → Prop}
    (h : post (nI L, g, bl_i (bl_u CN b (CN b + 1)), bl_i (bl_u PL (b * 16 + CN b) L), bl_i (bl_u KD (b * 16 + CN b) k), E, S, F, T, R, K, H)) :
    wpY_start post (nI L, g, bl_i CN, bl_i PL, bl_i KD, E, S, F, T, R, K, H) (nI b) (nI k) := by
  have e1 : nI b * 16 + bl_i CN (nI b).toNatClampNeg = nI (b * 16 + CN b) := by rw [bn_brd hb, bn_y]
  have e2 : bl_i CN (nI b).toNatClampNeg + 1 = nI (CN b + 1) := by rw [bn_brd hb, nI_1]
  have hi : vp_in (nI (b * 16 + CN b)) 64 := vp_in_nI (by omega) (by omega)
  have hc : (nI (b * 16 + CN b)).toNatClampNeg = b * 16 + CN b := nI_clamp (by omega)
  exact ⟨bn_bin hb, nm_r e1 ⟨hi, nm_r (bl_ui hc rfl) ⟨hi, nm_r (bl_ui hc rfl) ⟨bn_bin hb, bn_bin hb, nm_r (bl_ui (bn_bcl hb) e2) h⟩⟩⟩⟩

theorem ry_off15 {i m : Nat} {x3 : Int32} (hb : b < 4) (hm : CN b = m + 1) (hm2 : m < 16) : ∀ d k, k + d = m → i ≤ k → ∀ post : Int32 → SY → Prop,
    post x3 (nI L, g, bl_i (bl_u CN b m), bl_i (bl_sh PL (b * 16 + i) (b * 16 + m)), bl_i (bl_sh KD (b * 16 + i) (b * 16 + m)), E, S, F, T, R, K, H) →
    wY_off_15 post (nI b) x3 (nI L) g (d + 1) (nI k) (bl_i CN) (bl_i (bl_sh PL (b * 16 + i) (b * 16 + k))) (bl_i (bl_sh KD (b * 16 + i) (b * 16 + k))) E S F T R K H := by
  have ec : bl_i CN (nI b).toNatClampNeg - 1 = nI m := by rw [bn_brd hb, hm, bn_pred]
  intro d
  induction d with
  | zero =>
    intro k hk hik post hp
    have ek : k = m := by omega
    subst ek
    have h1 : bl_i CN (nI b).toNatClampNeg - 1 ≤ nI k := by rw [ec]; exact nI_le (Nat.le_refl _) (by omega)
    exact ⟨bn_bin hb, br_t h1 ⟨bn_bin hb, bn_bin hb, nm_r (bl_ui (bn_bcl hb) ec) hp⟩⟩
  | succ d ih =>
    intro k hk hik post hp
    have h1 : ¬ bl_i CN (nI b).toNatClampNeg - 1 ≤ nI k := by rw [ec]; exact nI_ge (by omega) (by omega)
    have e1 : nI b * 16 + nI k + 1 = nI (b * 16 + k + 1) := by rw [bn_y, nI_1]
    have hi1 : vp_in (nI b * 16 + nI k + 1) 64 := by rw [e1]; exact vp_in_nI (by omega) (by omega)
    have hc1 : (nI b * 16 + nI k + 1).toNatClampNeg = b * 16 + k + 1 := by rw [e1]; exact nI_clamp (by omega)
    have v1 : bl_i (bl_sh PL (b * 16 + i) (b * 16 + k)) (nI b * 16 + nI k + 1).toNatClampNeg = nI (PL (b * 16 + k + 1)) := by
      rw [hc1]; exact congrArg nI (bl_sh_hi (by omega))
    have v2 : bl_i (bl_sh KD (b * 16 + i) (b * 16 + k)) (nI b * 16 + nI k + 1).toNatClampNeg = nI (KD (b * 16 + k + 1)) := by
      rw [hc1]; exact congrArg nI (bl_sh_hi (by omega))
    have u1 : upd (bl_i (bl_sh PL (b * 16 + i) (b * 16 + k))) (nI b * 16 + nI k).toNatClampNeg (bl_i (bl_sh PL (b * 16 + i) (b * 16 + k)) (nI b * 16 + nI k + 1).toNatClampNeg) = bl_i (bl_sh PL (b * 16 + i) (b * 16 + (k + 1))) :=
      (bl_ui (bn_ycl hb (by omega)) v1).trans (congrArg bl_i (bl_sh_s PL (by omega)))
    have u2 : upd (bl_i (bl_sh KD (b * 16 + i) (b * 16 + k))) (nI b * 16 + nI k).toNatClampNeg (bl_i (bl_sh KD (b * 16 + i) (b * 16 + k)) (nI b * 16 + nI k + 1).toNatClampNeg) = bl_i (bl_sh KD (b * 16 + i) (b * 16 + (k + 1))) :=
      (bl_ui (bn_ycl hb (by omega)) v2).trans (congrArg bl_i (bl_sh_s KD (by omega)))
    have hr := ih (k + 1) (by omega) (by omega) post hp
    exact ⟨bn_bin hb, br_f h1 ⟨hi1, bn_yin hb (by omega), nm_r u1 ⟨hi1, bn_yin hb (by omega), nm_r u2 (nm_r (nI_1 k) hr)⟩⟩⟩

theorem ry_off {i m : Nat} (hb : b < 4) (hm : CN b = m + 1) (hm2 : m < 16) (hi : i ≤ m) {post : Int32 → SY → Prop}
    (h : post (nI (KD (b * 16 + i))) (nI L, g, bl_i (bl_u CN b m), bl_i (bl_sh PL (b * 16 + i) (b * 16 + m)), bl_i (bl_sh KD (b * 16 + i) (b * 16 + m)), E, S, F, T, R, K, H)) :
    wpY_off post (nI L, g, bl_i CN, bl_i PL, bl_i KD, E, S, F, T, R, K, H) (nI b) (nI i) := by
  have hr := ry_off15 (i := i) (x3 := nI (KD (b * 16 + i))) hb hm hm2 (m - i) i (by omega) (Nat.le_refl _) post h
  rw [bl_sh_0, bl_sh_0] at hr
  exact ⟨bn_yin hb (by omega), nm_r (bn_yrd hb (by omega)) ⟨_, hr⟩⟩

theorem ry_room (hb : b < 4) (hL8 : 8 ≤ L) (hL : L ≤ 60) (hn : CN b ≤ 16) (hp : ∀ i, i < CN b → PL (b * 16 + i) ≤ L) {post : Int32 → Prop}
    (h1 : bl_rm L (CN b) (fun i => PL (b * 16 + i)) → post 1) (h0 : ¬ bl_rm L (CN b) (fun i => PL (b * 16 + i)) → post 0) :
    wpY_room post (nI L, g, bl_i CN, bl_i PL, bl_i KD, E, S, F, T, R, K, H) (nI b) := by
  unfold wpY_room
  refine ry_badN hb ?_
  refine br_t rfl ⟨bn_bin hb, ?_⟩
  by_cases n0 : CN b = 0
  · have e0 : bl_i CN (nI b).toNatClampNeg = 0 := by rw [bn_brd hb, n0]; rfl
    exact br_t e0 (h1 (Or.inl n0))
  · have e0 : ¬ bl_i CN (nI b).toNatClampNeg = 0 := by rw [bn_brd hb, bn_z (by omega)]; exact n0
    obtain ⟨m, hm⟩ : ∃ m, CN b = m + 1 := ⟨CN b - 1, by omega⟩
    have e1 : nI b * 16 + bl_i CN (nI b).toNatClampNeg - 1 = nI (b * 16 + m) := by rw [bn_brd hb, bn_y, hm]; exact nI_pred (b * 16 + m)
    have hi : vp_in (nI b * 16 + bl_i CN (nI b).toNatClampNeg - 1) 64 := by rw [e1]; exact vp_in_nI (by omega) (by omega)
    have v : bl_i PL (nI b * 16 + bl_i CN (nI b).toNatClampNeg - 1).toNatClampNeg = nI (PL (b * 16 + m)) := by rw [e1, nI_clamp (by omega)]
    have pm := hp m (by omega)
    have hrm : bl_rm L (CN b) (fun i => PL (b * 16 + i)) ↔ PL (b * 16 + m) + 4 ≤ L := by
      unfold bl_rm
      rw [hm, Nat.add_sub_cancel]
      exact ⟨fun z => z.resolve_left (by omega), Or.inr⟩
    refine br_f e0 ⟨bn_bin hb, hi, ?_⟩
    rw [v, bn_L4 hL8]
    by_cases c : PL (b * 16 + m) + 4 ≤ L
    · exact br_f (nI_nlt (by omega) (by omega)) (h1 (hrm.mpr c))
    · exact br_t (nI_lt (by omega) (by omega)) (h0 (fun z => c (hrm.mp z)))

theorem ry_moves {n i : Nat} {kd ce : Nat → Nat} (hb : b < 4) (hL : L ≤ 60) (q : bl_Q L n (fun i => PL (b * 16 + i)) kd ce) (hi : i < n) {post : Int32 → Prop}
    (h1 : bl_q (fun i => PL (b * 16 + i)) i < PL (b * 16 + i) → post 1) (h0 : ¬ bl_q (fun i => PL (b * 16 + i)) i < PL (b * 16 + i) → post 0) :
    wpY_moves post (nI L, g, bl_i CN, bl_i (bl_mv PL b i), bl_i KD, E, S, F, T, R, K, H) (nI b) (nI i) := by
  have n16 := q.1
  have pi : PL (b * 16 + i) ≤ L := q.2.1 i hi
  have hin : vp_in (nI (b * 16 + i)) 64 := vp_in_nI (by omega) (by omega)
  have v : bl_i (bl_mv PL b i) (nI (b * 16 + i)).toNatClampNeg = nI (PL (b * 16 + i)) := by
    rw [nI_clamp (by omega)]; exact congrArg nI (bl_mv_hi (Nat.le_refl _))
  have hq : bl_q (fun i => PL (b * 16 + i)) i ≤ PL (b * 16 + i) := bl_q_le q.2.2.2.2.1 i hi
  refine nm_r (bn_y b i) ⟨hin, ?_⟩
  by_cases z : PL (b * 16 + i) = 0
  · exact br_t (by rw [v, z]; rfl) (h0 (by omega))
  · refine br_f (by rw [v, bn_z (by omega)]; exact z) ?_
    cases i with
    | zero => exact br_t rfl (h1 (by show 0 < _; omega))
    | succ j =>
      refine br_f (nI_ne0 (by omega) (by omega)) ?_
      have pj : PL (b * 16 + j) ≤ L := q.2.1 j (by omega)
      have lj : bl_n (fun i => PL (b * 16 + i)) j ≤ PL (b * 16 + j) := bl_n_le (fun i => PL (b * 16 + i)) j
      have ep : nI (b * 16 + (j + 1)) - 1 = nI (b * 16 + j) := nI_pred (b * 16 + j)
      have v2 : bl_i (bl_mv PL b (j + 1)) (nI (b * 16 + (j + 1)) - 1).toNatClampNeg = nI (bl_n (fun i => PL (b * 16 + i)) j) := by
        rw [ep, nI_clamp (by omega)]; exact congrArg nI (bl_mv_in (Nat.lt_succ_self _))
      have hi2 : vp_in (nI (b * 16 + (j + 1)) - 1) 64 := by rw [ep]; exact vp_in_nI (by omega) (by omega)
      refine ⟨hin, hi2, ?_⟩
      rw [bl_q_s] at hq h1 h0
      have e4 : bl_i (bl_mv PL b (j + 1)) (nI (b * 16 + (j + 1))).toNatClampNeg - bl_i (bl_mv PL b (j + 1)) (nI (b * 16 + (j + 1)) - 1).toNatClampNeg = nI (PL (b * 16 + (j + 1)) - bl_n (fun i => PL (b * 16 + i)) j) := by
        rw [v, v2]; exact pk_sub (by omega)
      by_cases c : bl_n (fun i => PL (b * 16 + i)) j + 4 < PL (b * 16 + (j + 1))
      · exact br_f (by rw [e4]; exact nI_ge (a := 4) (by omega) (by omega)) (h1 c)
      · exact br_t (by rw [e4]; exact nI_le (b := 4) (by omega) (by decide)) (h0 c)

theorem ry_move2 {kd ce : Nat → Nat} (hb : b < 4) (hL : L ≤ 60) (q : bl_Q L (CN b) (fun i => PL (b * 16 + i)) kd ce) : ∀ d i, i + d = CN b → ∀ post : SY → Prop,
    post (nI L, g, bl_i CN, bl_i (bl_mv PL b (CN b)), bl_i KD, E, S, F, T, R, K, H) →
    wY_move_2 post (nI b) (nI L) g (d + 1) (nI i) (bl_i CN) (bl_i (bl_mv PL b i)) (bl_i KD) E S F T R K H := by
  have n16 := q.1
  have ec : bl_i CN (nI b).toNatClampNeg = nI (CN b) := bn_brd hb
  intro d
  induction d with
  | zero =>
    intro i hi post hp
    have e : i = CN b := by omega
    subst e
    exact ⟨bn_bin hb, br_t (by rw [ec]; exact nI_le (Nat.le_refl _) (by omega)) hp⟩
  | succ d ih =>
    intro i hi post hp
    have h1 : ¬ bl_i CN (nI b).toNatClampNeg ≤ nI i := by rw [ec]; exact nI_ge (by omega) (by omega)
    have hr := ih (i + 1) (by omega) post hp
    have pi : PL (b * 16 + i) ≤ L := q.2.1 i (by omega)
    refine ⟨bn_bin hb, br_f h1 (ry_moves hb hL q (by omega) (fun c => ?_) (fun c => ?_))⟩
    · have v : bl_i (bl_mv PL b i) (nI b * 16 + nI i).toNatClampNeg - 1 = nI (bl_n (fun i => PL (b * 16 + i)) i) := by
        rw [bn_yrd hb (by omega), bl_mv_hi (Nat.le_refl _), bl_n_t c]; exact pk_sub (b := 1) (by omega)
      have u1 : upd (bl_i (bl_mv PL b i)) (nI b * 16 + nI i).toNatClampNeg (bl_i (bl_mv PL b i) (nI b * 16 + nI i).toNatClampNeg - 1) = bl_i (bl_mv PL b (i + 1)) :=
        (bl_ui (bn_ycl hb (by omega)) v).trans (congrArg bl_i (bl_mv_s PL b i))
      exact br_f (by decide) ⟨bn_yin hb (by omega), bn_yin hb (by omega), nm_r u1 (nm_r (nI_1 i) hr)⟩
    · rw [← bl_mv_f PL b i (bl_n_f c)] at hr
      exact br_t rfl (nm_r (nI_1 i) hr)

theorem ry_move {kd ce : Nat → Nat} (hb : b < 4) (hL : L ≤ 60) (q : bl_Q L (CN b) (fun i => PL (b * 16 + i)) kd ce) {post : SY → Prop}
    (h : post (nI L, g, bl_i CN, bl_i (bl_mv PL b (CN b)), bl_i KD, E, S, F, T, R, K, H)) :
    wpY_move post (nI L, g, bl_i CN, bl_i PL, bl_i KD, E, S, F, T, R, K, H) (nI b) := by
  have hr := ry_move2 (g := g) (KD := KD) (E := E) (S := S) (F := F) (T := T) (R := R) (K := K) (H := H) hb hL q (CN b) 0 (by omega) post h
  rw [bl_mv_0] at hr
  exact ⟨_, hr⟩

theorem ry_moving18 {kd ce : Nat → Nat} (hb : b < 4) (hL : L ≤ 60) (q : bl_Q L (CN b) (fun i => PL (b * 16 + i)) kd ce) : ∀ d i, i + d = CN b →
    ∀ x3 : Int32, x3 = nI (bl_q (fun i => PL (b * 16 + i)) i) - 4 → ∀ post : Int32 → Prop, post (nI (bl_m (fun i => PL (b * 16 + i)) (CN b))) →
    wY_moving_18 post (nI b) (nI L) g (bl_i CN) (bl_i PL) (bl_i KD) E S F T R K H (d + 1) (nI (bl_m (fun i => PL (b * 16 + i)) i)) x3 (nI i) := by
  have n16 := q.1
  have ec : bl_i CN (nI b).toNatClampNeg = nI (CN b) := bn_brd hb
  intro d
  induction d with
  | zero =>
    intro i hi x3 hx post hp
    have e : i = CN b := by omega
    subst e
    exact ⟨bn_bin hb, br_t (by rw [ec]; exact nI_le (Nat.le_refl _) (by omega)) hp⟩
  | succ d ih =>
    intro i hi x3 hx post hp
    have h1 : ¬ bl_i CN (nI b).toNatClampNeg ≤ nI i := by rw [ec]; exact nI_ge (by omega) (by omega)
    have pi : PL (b * 16 + i) ≤ L := q.2.1 i (by omega)
    have hq : bl_q (fun i => PL (b * 16 + i)) i ≤ PL (b * 16 + i) := bl_q_le q.2.2.2.2.1 i (by omega)
    have hr := ih (i + 1) (by omega) (nI (bl_n (fun i => PL (b * 16 + i)) i)) (bn_q4 _) post hp
    subst hx
    refine ⟨bn_bin hb, br_f h1 ⟨bn_yin hb (by omega), nm_r (bn_yrd hb (by omega)) ?_⟩⟩
    by_cases mv : bl_q (fun i => PL (b * 16 + i)) i < PL (b * 16 + i)
    · have em : bl_m (fun i => PL (b * 16 + i)) (i + 1) = bl_m (fun i => PL (b * 16 + i)) i + 1 := bl_m_t mv
      have en : nI (PL (b * 16 + i)) - 1 = nI (bl_n (fun i => PL (b * 16 + i)) i) := by rw [bl_n_t mv]; exact pk_sub (b := 1) (by omega)
      rw [em] at hr
      refine br_f (nI_nle (by omega) (by omega)) ?_
      refine br_f (by rw [bn_dif hq]; exact nI_ge (a := 4) (by omega) (by omega)) ?_
      exact nm_r en (nm_r (nI_1 _) (nm_r (nI_1 i) hr))
    · have em : bl_m (fun i => PL (b * 16 + i)) (i + 1) = bl_m (fun i => PL (b * 16 + i)) i := bl_m_f mv
      rw [em, bl_n_f mv] at hr
      by_cases z : PL (b * 16 + i) = 0
      · exact br_t (nI_le (b := 0) (by omega) (by decide)) (nm_r (nI_1 i) hr)
      · refine br_f (nI_nle (by omega) (by omega)) ?_
        exact br_t (by rw [bn_dif hq]; exact nI_le (b := 4) (by omega) (by decide)) (nm_r (nI_1 i) hr)
end
end
section
/- the reference's arm at work -/
section
variable {L a b r : Nat} {CN PL KD : Nat → Nat} {g : Int32} {E S F T R K H : Nat → Int32} {Aa : Int32}

theorem ry_117_pass {i p : Nat} {z : Int32} {post : SY → Prop} {J : Int32 → Int32 → Int32 → (Nat → Int32) → (Nat → Int32) → (Nat → Int32) → (Nat → Int32) → (Nat → Int32) → (Nat → Int32) → (Nat → Int32) → (Nat → Int32) → (Nat → Int32) → (Nat → Int32) → Prop}
    (ha : a < 2) (hp : p ≤ 60) (hr : r ≤ 60) (no : H a = -4 → r ≤ p → p ≤ r + 3 → z = 0)
    (h : J (nI (i + 1)) (nI L) g (bl_i CN) (bl_i PL) (bl_i KD) E S F T R K H) :
    wY_work_117 post J (nI a) (nI b) (nI i) (nI p - nI r) z (nI L) g (bl_i CN) (bl_i PL) (bl_i KD) E S F T R K H := by
  have eH : H (nI a).toNatClampNeg = H a := by rw [bn_acl ha]
  refine ⟨bn_ain ha, ?_⟩
  rw [eH]
  by_cases hH : H a = -4
  · refine br_t hH ?_
    by_cases c : p < r
    · exact br_t (pk_sneg (by omega) c) (nm_r (nI_1 i) h)
    · rw [pk_sub (a := p) (b := r) (by omega)]
      refine br_f (nI_pos (by omega)) ?_
      by_cases c2 : p ≤ r + 3
      · exact br_f (nI_nlt (b := p - r) (a := 3) (by omega) (by decide)) (br_t (no hH (by omega) c2) (nm_r (nI_1 i) h))
      · exact br_t (nI_lt (a := 3) (by omega) (by omega)) (nm_r (nI_1 i) h)
  · exact br_f hH (nm_r (nI_1 i) h)

theorem ry_wpass {i n : Nat} {post : SY → Prop} (ha : a < 2) (hb : b < 4) (hn : CN b ≤ 16) (hi : i < CN b) (hp : PL (b * 16 + i) ≤ 60) (hk : KD (b * 16 + i) < 8) (hr : r ≤ 60)
    (hR : R a = nI r) (hK : K a = Aa &&& 255)
    (no : H a = -4 → r ≤ PL (b * 16 + i) → PL (b * 16 + i) ≤ r + 3 → ¬ bn_w Aa (KD (b * 16 + i)))
    (h : wY_work_58 post (nI a) (nI b) n (nI (i + 1)) (nI L) g (bl_i CN) (bl_i PL) (bl_i KD) E S F T R K H) :
    wY_work_58 post (nI a) (nI b) (n + 1) (nI i) (nI L) g (bl_i CN) (bl_i PL) (bl_i KD) E S F T R K H := by
  have ec : bl_i CN (nI b).toNatClampNeg = nI (CN b) := bn_brd hb
  have h1 : ¬ bl_i CN (nI b).toNatClampNeg ≤ nI i := by rw [ec]; exact nI_ge (by omega) (by omega)
  have e4 : bl_i PL (nI b * 16 + nI i).toNatClampNeg - R (nI a).toNatClampNeg = nI (PL (b * 16 + i)) - nI r := by rw [bn_yrd hb (by omega), bn_acl ha, hR]
  have ew : ((K (nI a).toNatClampNeg >>> (bl_i KD (nI b * 16 + nI i).toNatClampNeg &&& 31)) &&& 1) = (((Aa &&& 255) >>> (nI (KD (b * 16 + i)) &&& 31)) &&& 1) := by
    rw [bn_yrd hb (by omega), bn_acl ha, hK]
  refine ⟨bn_bin hb, br_f h1 ⟨bn_yin hb (by omega), bn_ain ha, nm_r e4 ⟨bn_ain ha, bn_yin hb (by omega), ?_⟩⟩⟩
  by_cases w : bn_w Aa (KD (b * 16 + i))
  · exact br_t (ew.trans ((bn_w1 Aa hk).mpr w)) (ry_117_pass ha hp hr (fun x y z => absurd w (no x y z)) h)
  · exact br_f (fun z => w ((bn_w1 Aa hk).mp (ew.symm.trans z))) (ry_117_pass ha hp hr (fun _ _ _ => rfl) h)

theorem ry_wtake {i m n : Nat} {post : SY → Prop} (ha : a < 2) (hb : b < 4) (hm : CN b = m + 1) (hm2 : m < 16) (hi : i ≤ m) (hp : PL (b * 16 + i) ≤ 60) (hk : KD (b * 16 + i) < 8) (hr : r ≤ 60)
    (hR : R a = nI r) (hK : K a = Aa &&& 255) (hH : H a = -4) (w1 : r ≤ PL (b * 16 + i)) (w2 : PL (b * 16 + i) ≤ r + 3) (w : bn_w Aa (KD (b * 16 + i)))
    (h : wY_work_58 post (nI a) (nI b) n (nI (i + 1)) (nI L) g (bl_i (bl_u CN b m)) (bl_i (bl_sh PL (b * 16 + i) (b * 16 + m))) (bl_i (bl_sh KD (b * 16 + i) (b * 16 + m))) E S F T R K (upd H a (nI (KD (b * 16 + i))))) :
    wY_work_58 post (nI a) (nI b) (n + 1) (nI i) (nI L) g (bl_i CN) (bl_i PL) (bl_i KD) E S F T R K H := by
  have ec : bl_i CN (nI b).toNatClampNeg = nI (CN b) := bn_brd hb
  have h1 : ¬ bl_i CN (nI b).toNatClampNeg ≤ nI i := by rw [ec]; exact nI_ge (by omega) (by omega)
  have e4 : bl_i PL (nI b * 16 + nI i).toNatClampNeg - R (nI a).toNatClampNeg = nI (PL (b * 16 + i) - r) := by rw [bn_yrd hb (by omega), bn_acl ha, hR]; exact pk_sub w1
  have ew : ((K (nI a).toNatClampNeg >>> (bl_i KD (nI b * 16 + nI i).toNatClampNeg &&& 31)) &&& 1) = (((Aa &&& 255) >>> (nI (KD (b * 16 + i)) &&& 31)) &&& 1) := by
    rw [bn_yrd hb (by omega), bn_acl ha, hK]
  have eH : H (nI a).toNatClampNeg = -4 := by rw [bn_acl ha]; exact hH
  refine ⟨bn_bin hb, br_f h1 ⟨bn_yin hb (by omega), bn_ain ha, nm_r e4 ⟨bn_ain ha, bn_yin hb (by omega), br_t (ew.trans ((bn_w1 Aa hk).mpr w)) ?_⟩⟩⟩
  refine ⟨bn_ain ha, br_t eH (br_f (nI_pos (by omega)) (br_f (nI_nlt (b := PL (b * 16 + i) - r) (a := 3) (by omega) (by decide)) (br_f (by decide) ?_)))⟩
  refine ry_off hb hm hm2 hi ?_
  exact ⟨bn_ain ha, nm_r (e' := upd H a (nI (KD (b * 16 + i)))) (by rw [bn_acl ha]) (nm_r (nI_1 i) h)⟩

theorem ry_wend {post : SY → Prop} (ha : a < 2) (hb : b < 4) (hn : CN b ≤ 16) (hp : ∀ i, i < CN b → PL (b * 16 + i) ≤ 60) (hk : ∀ i, i < CN b → KD (b * 16 + i) < 8) (hr : r ≤ 60)
    (hR : R a = nI r) (hK : K a = Aa &&& 255) (h : post (nI L, g, bl_i CN, bl_i PL, bl_i KD, E, S, F, T, R, K, H)) : ∀ d i, CN b ≤ i + d → i ≤ 100 →
    (∀ k, i ≤ k → k < CN b → H a = -4 → r ≤ PL (b * 16 + k) → PL (b * 16 + k) ≤ r + 3 → ¬ bn_w Aa (KD (b * 16 + k))) →
    wY_work_58 post (nI a) (nI b) (d + 1) (nI i) (nI L) g (bl_i CN) (bl_i PL) (bl_i KD) E S F T R K H := by
  have ec : bl_i CN (nI b).toNatClampNeg = nI (CN b) := bn_brd hb
  intro d
  induction d with
  | zero =>
    intro i hi hi2 _
    exact ⟨bn_bin hb, br_t (by rw [ec]; exact nI_le (by omega) (by omega)) h⟩
  | succ d ih =>
    intro i hi hi2 no
    by_cases c : i < CN b
    · exact ry_wpass ha hb hn c (hp i c) (hk i c) hr hR hK (no i (Nat.le_refl _) c) (ih (i + 1) (by omega) (by omega) (fun k hk1 hk2 => no k (by omega) hk2))
    · exact ⟨bn_bin hb, br_t (by rw [ec]; exact nI_le (by omega) (by omega)) h⟩

theorem ry_wto {i0 N : Nat} {post : SY → Prop} (ha : a < 2) (hb : b < 4) (hn : CN b ≤ 16) (h0 : i0 < CN b) (hp : ∀ i, i < CN b → PL (b * 16 + i) ≤ 60) (hk : ∀ i, i < CN b → KD (b * 16 + i) < 8) (hr : r ≤ 60)
    (hR : R a = nI r) (hK : K a = Aa &&& 255)
    (no : ∀ k, k < i0 → r ≤ PL (b * 16 + k) → PL (b * 16 + k) ≤ r + 3 → ¬ bn_w Aa (KD (b * 16 + k)))
    (h : wY_work_58 post (nI a) (nI b) N (nI i0) (nI L) g (bl_i CN) (bl_i PL) (bl_i KD) E S F T R K H) : ∀ d i, i + d = i0 →
    wY_work_58 post (nI a) (nI b) (N + d) (nI i) (nI L) g (bl_i CN) (bl_i PL) (bl_i KD) E S F T R K H := by
  intro d
  induction d with
  | zero =>
    intro i hi
    have e : i = i0 := by omega
    subst e
    exact h
  | succ d ih =>
    intro i hi
    exact ry_wpass (n := N + d) ha hb hn (by omega) (hp i (by omega)) (hk i (by omega)) hr hR hK (fun _ => no i (by omega)) (ih (i + 1) (by omega))
end
end
section
/- the relation, and one step of both sides at a time -/
def bl_E (b : Nat) (e : Int32) : Prop := e = -1 ∨ e = -2 ∨ ∃ t, t < 4 ∧ t ≠ b ∧ e = nI t
def bl_h (h : Nat) : Int32 := if h = 0 then -4 else nI (h - 1)
theorem bl_h0 : bl_h 0 = -4 := rfl
theorem bl_hs (k : Nat) : bl_h (k + 1) = nI k := by unfold bl_h; rw [if_neg (by omega), Nat.add_sub_cancel]
def bl_A (F T R H : Nat → Nat) (HY : Nat → Int32) (a : Nat) : Prop := F a < 4 ∧ T a < 4 ∧ R a ≤ 60 ∧ H a ≤ 8 ∧ HY a = bl_h (H a)
def bl_C (L : Nat) (CE CN PL KD : Nat → Nat) (E : Nat → Int32) (F T R H : Nat → Nat) (HY : Nat → Int32) : Prop :=
  8 ≤ L ∧ L ≤ 60 ∧ bl_W L CE CN PL KD ∧ (∀ b, b < 4 → bl_E b (E b)) ∧ (∀ a, a < 2 → bl_A F T R H HY a)
def bl_Rel (u : SX) (v : SY) : Prop := ∃ (L : Nat) (g : Int32) (CE CN PL KD : Nat → Nat) (E S : Nat → Int32) (F T R : Nat → Nat) (A : Nat → Int32) (H : Nat → Nat) (HY : Nat → Int32),
  u = (nI L, g, bl_i CE, E, S, bl_i F, bl_i T, bl_i R, A, bl_i H) ∧
  v = (nI L, g, bl_i CN, bl_i PL, bl_i KD, E, S, bl_i F, bl_i T, bl_i R, (fun j => A j &&& 255), HY) ∧
  bl_C L CE CN PL KD E F T R H HY
theorem bl_mk {L : Nat} {g : Int32} {CE CN PL KD : Nat → Nat} {E S : Nat → Int32} {F T R : Nat → Nat} {A : Nat → Int32} {H : Nat → Nat} {HY : Nat → Int32} (c : bl_C L CE CN PL KD E F T R H HY) :
    bl_Rel (nI L, g, bl_i CE, E, S, bl_i F, bl_i T, bl_i R, A, bl_i H) (nI L, g, bl_i CN, bl_i PL, bl_i KD, E, S, bl_i F, bl_i T, bl_i R, (fun j => A j &&& 255), HY) :=
  ⟨L, g, CE, CN, PL, KD, E, S, F, T, R, A, H, HY, rfl, rfl, c⟩

theorem st_move {u : SX} {v : SY} (h : bl_Rel u v) {b : Nat} (hb : b < 4) : ∃ u' v', bl_Rel u' v' ∧
    (∀ post : SX → Prop, post u' → wpX_moveItems post u (nI b)) ∧ (∀ post : SY → Prop, post v' → wpY_move post v (nI b)) := by
  obtain ⟨L, g, CE, CN, PL, KD, E, S, F, T, R, A, H, HY, rfl, rfl, hL8, hL, w, e, ar⟩ := h
  obtain ⟨CE', f, m, hX⟩ := rx_move (g := g) hb hL (w b hb)
  refine ⟨_, _, bl_mk (L := L) (g := g) (CE := CE') (CN := CN) (PL := bl_mv PL b (CN b)) (KD := KD) (E := E) (S := S) (F := F) (T := T) (R := R) (A := A) (H := H) (HY := HY) ⟨hL8, hL, bl_W_move w hL hb f m, e, ar⟩, ?_, ?_⟩
  · intro post hp
    exact hX _ _ _ _ _ _ _ post hp
  · intro post hp
    exact ry_move hb hL (w b hb) hp

theorem st_end {u : SX} {v : SY} (h : bl_Rel u v) {b : Nat} (hb : b < 4) : ∃ u' v', bl_Rel u' v' ∧
    (∀ post : SX → Prop, post u' → wpX_passOnFirst post u (nI b)) ∧ (∀ post : SY → Prop, post v' → wpY_end post v (nI b)) := by
  obtain ⟨L, g, CE, CN, PL, KD, E, S, F, T, R, A, H, HY, rfl, rfl, hL8, hL, w, e, ar⟩ := h
  have q := w b hb
  have n16 := q.1
  have ec : bl_i CN (nI b).toNatClampNeg = nI (CN b) := bn_brd hb
  have eE : E (nI b).toNatClampNeg = E b := by rw [bn_bcl hb]
  by_cases z : CE (b * 61) = 0
  · -- nothing at the end
    refine ⟨_, _, bl_mk (g := g) (S := S) (A := A) ⟨hL8, hL, w, e, ar⟩, ?_, ?_⟩
    · intro post hp
      have ez : nI (CE (b * 61)) = 0 := by rw [z]; rfl
      exact ⟨bn_xin0 hb, nm_r (bn_xrd0 hb) ⟨bn_bin hb, nm_r eE (br_t ez hp)⟩⟩
    · intro post hp
      refine ⟨bn_bin hb, ?_⟩
      by_cases n0 : CN b = 0
      · exact br_t (by rw [ec, n0]; exact nI_le (a := 0) (b := 0) (Nat.le_refl _) (by decide)) hp
      · have p0 : PL (b * 16) ≠ 0 := bl_zero_no (pl := fun i => PL (b * 16 + i)) q z (by omega)
        have p60 : PL (b * 16) ≤ L := q.2.1 0 (by omega)
        exact br_f (by rw [ec]; exact nI_nle (by omega) (by omega)) ⟨bn_yin0 hb, br_f (by rw [bn_yrd0 hb, bn_z (by omega)]; exact p0) hp⟩
  · obtain ⟨npos, p00, c00⟩ := bl_zero q z
    have p0 : PL (b * 16) = 0 := p00
    have c0' : CE (b * 61) = KD (b * 16) + 1 := c00
    have k8 : KD (b * 16) < 8 := q.2.2.1 0 npos
    obtain ⟨m, hm⟩ : ∃ m, CN b = m + 1 := ⟨CN b - 1, by omega⟩
    have ez : ¬ nI (CE (b * 61)) = 0 := by rw [bn_z (by omega)]; exact z
    have wo : bl_W L (bl_u CE (b * 61) 0) (bl_u CN b m) (bl_sh PL (b * 16) (b * 16 + m)) (bl_sh KD (b * 16) (b * 16 + m)) := by
      have wo1 := bl_W_off (i := 0) w hL hb hm (Nat.zero_le _)
      rw [Nat.add_zero, p0, Nat.add_zero] at wo1
      exact wo1
    have hy1 : ¬ bl_i CN (nI b).toNatClampNeg ≤ 0 := by rw [ec]; exact nI_nle (by omega) (by omega)
    have hy2 : bl_i PL (nI b * 16).toNatClampNeg = 0 := by rw [bn_yrd0 hb, p0]; rfl
    rcases e b hb with eb | eb | ⟨t, ht, htb, eb⟩
    · -- it leads nowhere
      refine ⟨_, _, bl_mk (g := g) (S := S) (A := A) ⟨hL8, hL, w, e, ar⟩, ?_, ?_⟩
      · intro post hp
        exact ⟨bn_xin0 hb, nm_r (bn_xrd0 hb) ⟨bn_bin hb, nm_r eE (br_f ez (br_t eb hp))⟩⟩
      · intro post hp
        exact ⟨bn_bin hb, br_f hy1 ⟨bn_yin0 hb, br_t hy2 ⟨bn_bin hb, nm_r (eE.trans eb) (br_f (by decide) (br_t (by decide) hp))⟩⟩⟩
    · -- it leads out
      refine ⟨_, _, bl_mk (g := g + 1) (S := S) (A := A) ⟨hL8, hL, wo, e, ar⟩, ?_, ?_⟩
      · intro post hp
        exact ⟨bn_xin0 hb, nm_r (bn_xrd0 hb) ⟨bn_bin hb, nm_r (eE.trans eb) (br_f ez (br_f (by decide) (br_t rfl ⟨bn_xin0 hb, nm_r (bl_ui (x := 0) (bn_xcl0 hb) rfl) (nm_e hp)⟩)))⟩⟩
      · intro post hp
        exact ⟨bn_bin hb, br_f hy1 ⟨bn_yin0 hb, br_t hy2 ⟨bn_bin hb, nm_r (eE.trans eb) (br_t rfl (ry_off (i := 0) hb hm (by omega) (Nat.zero_le _) (nm_e hp)))⟩⟩⟩
    · -- to a belt
      have qt := w t ht
      by_cases r : bl_rm L (CN t) (fun i => PL (t * 16 + i))
      · have t15 := bl_W_15 w hL8 hL ht r
        have cn1 : bl_u CN b m t = CN t := bl_un htb
        have r1 : bl_rm L (bl_u CN b m t) (fun i => bl_sh PL (b * 16) (b * 16 + m) (t * 16 + i)) := by
          rw [cn1]
          rcases r with r | r
          · exact Or.inl r
          · by_cases n0 : CN t = 0
            · exact Or.inl n0
            · refine Or.inr ?_
              have eq : bl_sh PL (b * 16) (b * 16 + m) (t * 16 + (CN t - 1)) = PL (t * 16 + (CN t - 1)) := by
                by_cases lt : t < b
                · exact bl_sh_lo (by omega)
                · exact bl_sh_hi (by omega)
              show bl_sh PL (b * 16) (b * 16 + m) (t * 16 + (CN t - 1)) + 4 ≤ L
              rw [eq]
              exact r
        have ws := bl_W_start (k := KD (b * 16)) wo hL8 hL ht k8 r1
        rw [← c0'] at ws
        refine ⟨_, _, bl_mk (g := g) (S := S) (A := A) ⟨hL8, hL, ws, e, ar⟩, ?_, ?_⟩
        · intro post hp
          refine ⟨bn_xin0 hb, nm_r (bn_xrd0 hb) ⟨bn_bin hb, nm_r (eE.trans eb) (br_f ez (br_f (bn_ne1 t (by omega)) (br_f (bn_ne2 t (by omega)) ?_)))⟩⟩
          refine rx_hasRoom ht hL8 hL qt (fun _ => ?_) (fun n => absurd r n)
          exact br_f (by decide) ⟨bn_xin0 hb, nm_r (bl_ui (x := 0) (bn_xcl0 hb) rfl) ⟨bn_xin ht hL, nm_r (bl_ui (bn_xcl ht hL) rfl) hp⟩⟩
        · intro post hp
          refine ⟨bn_bin hb, br_f hy1 ⟨bn_yin0 hb, br_t hy2 ⟨bn_bin hb, nm_r (eE.trans eb) (br_f (bn_ne2 t (by omega)) (br_f (nI_pos (by omega)) ?_))⟩⟩⟩
          refine ry_room ht hL8 hL qt.1 qt.2.1 (fun _ => ?_) (fun n => absurd r n)
          refine br_f (by decide) (ry_off (i := 0) hb hm (by omega) (Nat.zero_le _) ?_)
          exact ry_start ht (by rw [cn1]; exact t15) hp
      · refine ⟨_, _, bl_mk (g := g) (S := S) (A := A) ⟨hL8, hL, w, e, ar⟩, ?_, ?_⟩
        · intro post hp
          refine ⟨bn_xin0 hb, nm_r (bn_xrd0 hb) ⟨bn_bin hb, nm_r (eE.trans eb) (br_f ez (br_f (bn_ne1 t (by omega)) (br_f (bn_ne2 t (by omega)) ?_)))⟩⟩
          exact rx_hasRoom ht hL8 hL qt (fun y => absurd y r) (fun _ => br_t rfl hp)
        · intro post hp
          refine ⟨bn_bin hb, br_f hy1 ⟨bn_yin0 hb, br_t hy2 ⟨bn_bin hb, nm_r (eE.trans eb) (br_f (bn_ne2 t (by omega)) (br_f (nI_pos (by omega)) ?_))⟩⟩⟩
          exact ry_room ht hL8 hL qt.1 qt.2.1 (fun y => absurd y r) (fun _ => br_t rfl hp)

theorem st_work {u : SX} {v : SY} (h : bl_Rel u v) {a : Nat} (ha : a < 2) : ∃ u' v', bl_Rel u' v' ∧
    (∀ post : SX → Prop, post u' → wpX_workArm post u (nI a)) ∧ (∀ post : SY → Prop, post v' → wpY_work post v (nI a)) := by
  obtain ⟨L, g, CE, CN, PL, KD, E, S, F, T, R, A, H, HY, rfl, rfl, hL8, hL, w, e, ar⟩ := h
  obtain ⟨hF, hT, hR, hH, hY⟩ := ar a ha
  have eH : bl_i H (nI a).toNatClampNeg = nI (H a) := bn_ard ha
  have eY : HY (nI a).toNatClampNeg = HY a := by rw [bn_acl ha]
  have eF : bl_i F (nI a).toNatClampNeg = nI (F a) := bn_ard ha
  have eT : bl_i T (nI a).toNatClampNeg = nI (T a) := bn_ard ha
  have eR : bl_i R (nI a).toNatClampNeg = nI (R a) := bn_ard ha
  have arU : ∀ (h' : Nat) (hy' : Int32), h' ≤ 8 → hy' = bl_h h' → ∀ c, c < 2 → bl_A F T R (bl_u H a h') (upd HY a hy') c := by
    intro h' hy' h8 ey c hc
    by_cases ec : c = a
    · subst ec
      exact ⟨hF, hT, hR, by rw [bl_us]; exact h8, by rw [bl_us, pk_us]; exact ey⟩
    · obtain ⟨a1, a2, a3, a4, a5⟩ := ar c hc
      exact ⟨a1, a2, a3, by rw [bl_un ec]; exact a4, by rw [bl_un ec, pk_un ec]; exact a5⟩
  by_cases z : H a = 0
  · -- the arm is empty
    rw [z, bl_h0] at hY
    have ez : bl_i H (nI a).toNatClampNeg = 0 := by rw [eH, z]; rfl
    have ezY : HY (nI a).toNatClampNeg = -4 := by rw [eY]; exact hY
    have q := w (F a) hF
    have n16 := q.1
    have p60 : ∀ i, i < CN (F a) → PL (F a * 16 + i) ≤ 60 := fun i hi => Nat.le_trans (q.2.1 i hi) hL
    have c8 : ∀ j, j ≤ L → CE (F a * 61 + j) ≤ 8 := bl_Q_le q
    by_cases ex : ∃ i, i < CN (F a) ∧ R a ≤ PL (F a * 16 + i) ∧ PL (F a * 16 + i) ≤ R a + 3 ∧ bn_w (A a) (KD (F a * 16 + i))
    · obtain ⟨i, ⟨hi, w1, w2, ww⟩, least⟩ := pk_least _ ex
      obtain ⟨m, hm⟩ : ∃ m, CN (F a) = m + 1 := ⟨CN (F a) - 1, by omega⟩
      have pi : PL (F a * 16 + i) ≤ L := q.2.1 i hi
      have ki : KD (F a * 16 + i) < 8 := q.2.2.1 i hi
      have ci : CE (F a * 61 + PL (F a * 16 + i)) = KD (F a * 16 + i) + 1 := q.2.2.2.1 i hi
      have wo := bl_W_off (i := i) w hL hF hm (by omega)
      refine ⟨_, _, bl_mk (g := g) (S := S) (A := A) ⟨hL8, hL, wo, e, arU (KD (F a * 16 + i) + 1) (nI (KD (F a * 16 + i))) (by omega) (bl_hs _).symm⟩, ?_, ?_⟩
      · intro post hp
        refine ⟨bn_ain ha, br_t ez (rx_pick (b := F a) (r := R a) ha hL hR rfl rfl ?_)⟩
        refine ⟨_, rx_pick_at (k := KD (F a * 16 + i)) (p := PL (F a * 16 + i)) ha hF hL ?_ ?_ c8 ci ww (PL (F a * 16 + i) - R a) (R a) (by omega) (fun j j1 j2 j3 j4 => ?_) _ ?_⟩
        · split <;> omega
        · split <;> omega
        · obtain ⟨k, hk, ek⟩ := q.2.2.2.2.2 j (by omega) j3
          have ek2 : PL (F a * 16 + k) = j := ek
          have ck : CE (F a * 61 + PL (F a * 16 + k)) = KD (F a * 16 + k) + 1 := q.2.2.2.1 k hk
          rw [ek2] at ck
          rw [ck, Nat.add_sub_cancel] at j4
          have hki : k < i := by
            rcases Nat.lt_trichotomy k i with y | y | y
            · exact y
            · subst y; omega
            · have hl : PL (F a * 16 + i) + 4 ≤ PL (F a * 16 + k) := bl_lt (pl := fun i => PL (F a * 16 + i)) q.2.2.2.2.1 y hk
              omega
          exact least k hki ⟨hk, by omega, by omega, j4⟩
        · show post _
          have eu : upd (bl_i H) a (nI (KD (F a * 16 + i) + 1)) = bl_i (bl_u H a (KD (F a * 16 + i) + 1)) := bl_ui rfl rfl
          rw [eu]
          exact hp
      · intro post hp
        refine ⟨bn_ain ha, br_t ezY ⟨bn_ain ha, nm_r eF ⟨(m - i + 1 + 1) + i, ?_⟩⟩⟩
        refine ry_wto (Aa := A a) (r := R a) (i0 := i) ha hF n16 hi p60 q.2.2.1 hR rfl rfl (fun k hk k1 k2 k3 => least k hk ⟨by omega, k1, k2, k3⟩) ?_ i 0 (by omega)
        refine ry_wtake (n := m - i + 1) (Aa := A a) (r := R a) ha hF hm (by omega) (by omega) (by omega) ki hR rfl rfl hY w1 w2 ww ?_
        have wq := wo (F a) hF
        have wn := wq.1
        refine ry_wend (Aa := A a) (r := R a) ha hF wn (fun j hj => Nat.le_trans (wq.2.1 j hj) hL) wq.2.2.1 hR rfl rfl hp (m - i) (i + 1) (by rw [bl_us]; omega) (by omega) (fun k _ _ k3 => ?_)
        rw [pk_us] at k3
        exact absurd k3 (bn_ne4 _ (by omega))
    · refine ⟨_, _, bl_mk (g := g) (S := S) (A := A) ⟨hL8, hL, w, e, ar⟩, ?_, ?_⟩
      · intro post hp
        refine ⟨bn_ain ha, br_t ez (rx_pick (b := F a) (r := R a) ha hL hR rfl rfl ?_)⟩
        refine ⟨_, rx_pick_no ha hF hL ?_ c8 100 (R a) ?_ (by omega) (fun j j1 j2 j3 j4 => ?_) _ hp⟩
        · split <;> omega
        · split <;> omega
        · have jL : j ≤ L ∧ j ≤ R a + 3 := by split at j2 <;> omega
          obtain ⟨k, hk, ek⟩ := q.2.2.2.2.2 j jL.1 j3
          have ek2 : PL (F a * 16 + k) = j := ek
          have ck : CE (F a * 61 + PL (F a * 16 + k)) = KD (F a * 16 + k) + 1 := q.2.2.2.1 k hk
          rw [ek2] at ck
          rw [ck, Nat.add_sub_cancel] at j4
          exact ex ⟨k, hk, by omega, by omega, j4⟩
      · intro post hp
        refine ⟨bn_ain ha, br_t ezY ⟨bn_ain ha, nm_r eF ⟨16 + 1, ?_⟩⟩⟩
        exact ry_wend (Aa := A a) (r := R a) ha hF n16 p60 q.2.2.1 hR rfl rfl hp 16 0 (by omega) (by omega) (fun k k1 k2 _ k4 k5 k6 => ex ⟨k, k2, k4, k5, k6⟩)
  · -- the arm holds an item
    obtain ⟨k, hk⟩ : ∃ k, H a = k + 1 := ⟨H a - 1, by omega⟩
    rw [hk, bl_hs] at hY
    have ez : ¬ bl_i H (nI a).toNatClampNeg = 0 := by rw [eH, bn_z (by omega)]; exact z
    have ezY : ¬ HY (nI a).toNatClampNeg = -4 := by rw [eY, hY]; exact bn_ne4 k (by omega)
    have q := w (T a) hT
    by_cases r : bl_rm L (CN (T a)) (fun i => PL (T a * 16 + i))
    · have t15 := bl_W_15 w hL8 hL hT r
      have ws := bl_W_start (k := k) w hL8 hL hT (by omega) r
      refine ⟨_, _, bl_mk (g := g) (S := S) (A := A) ⟨hL8, hL, ws, e, arU 0 (-4) (by omega) rfl⟩, ?_, ?_⟩
      · intro post hp
        refine ⟨bn_ain ha, br_f ez ⟨bn_ain ha, nm_r eT (rx_hasRoom hT hL8 hL q (fun _ => ?_) (fun n => absurd r n))⟩⟩
        have v : bl_i H (nI a).toNatClampNeg = nI (k + 1) := by rw [eH, hk]
        exact br_f (by decide) ⟨bn_ain ha, bn_xin hT hL, nm_r (bl_ui (bn_xcl hT hL) v) ⟨bn_ain ha, nm_r (bl_ui (x := 0) (bn_acl ha) rfl) hp⟩⟩
      · intro post hp
        refine ⟨bn_ain ha, br_f ezY ⟨bn_ain ha, ?_⟩⟩
        rw [eT, eY, hY]
        refine ry_room hT hL8 hL q.1 q.2.1 (fun _ => ?_) (fun n => absurd r n)
        refine br_f (by decide) ⟨bn_ain ha, bn_ain ha, ry_start hT t15 ?_⟩
        exact ⟨bn_ain ha, nm_r (e' := upd HY a (-4)) (by rw [bn_acl ha]) hp⟩
    · refine ⟨_, _, bl_mk (g := g) (S := S) (A := A) ⟨hL8, hL, w, e, ar⟩, ?_, ?_⟩
      · intro post hp
        exact ⟨bn_ain ha, br_f ez ⟨bn_ain ha, nm_r eT (rx_hasRoom hT hL8 hL q (fun y => absurd y r) (fun _ => br_t rfl hp))⟩⟩
      · intro post hp
        refine ⟨bn_ain ha, br_f ezY ⟨bn_ain ha, ?_⟩⟩
        rw [eT]
        exact ry_room hT hL8 hL q.1 q.2.1 (fun y => absurd y r) (fun _ => br_t rfl hp)
end
section
/- a tick, then n of them -/
abbrev st_X (P : Int32 → Int32 → (Nat → Int32) → (Nat → Int32) → (Nat → Int32) → (Nat → Int32) → (Nat → Int32) → (Nat → Int32) → (Nat → Int32) → (Nat → Int32) → Prop) (u : SX) : Prop :=
  P u.1 u.2.1 u.2.2.1 u.2.2.2.1 u.2.2.2.2.1 u.2.2.2.2.2.1 u.2.2.2.2.2.2.1 u.2.2.2.2.2.2.2.1 u.2.2.2.2.2.2.2.2.1 u.2.2.2.2.2.2.2.2.2
abbrev st_Y (P : Int32 → Int32 → (Nat → Int32) → (Nat → Int32) → (Nat → Int32) → (Nat → Int32) → (Nat → Int32) → (Nat → Int32) → (Nat → Int32) → (Nat → Int32) → (Nat → Int32) → (Nat → Int32) → Prop) (v : SY) : Prop :=
  P v.1 v.2.1 v.2.2.1 v.2.2.2.1 v.2.2.2.2.1 v.2.2.2.2.2.1 v.2.2.2.2.2.2.1 v.2.2.2.2.2.2.2.1 v.2.2.2.2.2.2.2.2.1 v.2.2.2.2.2.2.2.2.2.1 v.2.2.2.2.2.2.2.2.2.2.1 v.2.2.2.2.2.2.2.2.2.2.2
theorem st_arms : ∀ d t, t + d = 2 → ∀ (u : SX) (v : SY), bl_Rel u v → ∃ u' v', bl_Rel u' v' ∧
    (∀ post : SX → Prop, post u' → st_X (wX_workOneTick_25 post (d + 1) (nI t)) u) ∧
    (∀ (post : Int32 → SY → Prop) J x1 x2 x3, st_Y (J (x3 + 1)) v' → st_Y (wY_tick_49 post J x1 x2 x3 (d + 1) (nI t)) v) := by
  intro d
  induction d with
  | zero =>
    intro t ht u v h
    have e : t = 2 := by omega
    subst e
    obtain ⟨x1, x2, x3, x4, x5, x6, x7, x8, x9, x10⟩ := u
    obtain ⟨y1, y2, y3, y4, y5, y6, y7, y8, y9, y10, y11, y12⟩ := v
    have h2 : (2 : Int32) ≤ nI 2 := by decide
    exact ⟨_, _, h, fun post hp => br_t h2 hp, fun post J _ _ z3 hp => br_t h2 (nm_e hp)⟩
  | succ d ih =>
    intro t ht u v h
    have h2 : ¬ (2 : Int32) ≤ nI t := nI_ge (b := 2) (by omega) (by decide)
    obtain ⟨x1, x2, x3, x4, x5, x6, x7, x8, x9, x10⟩ := u
    obtain ⟨y1, y2, y3, y4, y5, y6, y7, y8, y9, y10, y11, y12⟩ := v
    have es : y7 = x5 := by
      obtain ⟨L, g, CE, CN, PL, KD, E, S, F, T, R, A, H, HY, eu, ev, c⟩ := h
      simp only [Prod.mk.injEq] at eu ev
      rw [eu.2.2.2.2.1, ev.2.2.2.2.2.2.1]
    subst es
    have hv : vp_in (nI t) 2 := bn_ain (by omega)
    by_cases z : y7 (nI t).toNatClampNeg = 0
    · obtain ⟨u', v', h', hX, hY⟩ := ih (t + 1) (by omega) _ _ h
      exact ⟨u', v', h', fun post hp => br_f h2 ⟨hv, br_t z (nm_r (nI_1 t) (hX post hp))⟩, fun post J a1 a2 a3 hp => br_f h2 ⟨hv, br_t z (nm_r (nI_1 t) (hY post J a1 a2 a3 hp))⟩⟩
    · obtain ⟨⟨w1, w2, w3, w4, w5, w6, w7, w8, w9, w10⟩, ⟨z1, z2, z3, z4, z5, z6, z7, z8, z9, z10, z11, z12⟩, h1, hX1, hY1⟩ := st_work h (a := t) (by omega)
      obtain ⟨u', v', h', hX, hY⟩ := ih (t + 1) (by omega) _ _ h1
      exact ⟨u', v', h', fun post hp => br_f h2 ⟨hv, br_f z (hX1 _ (nm_r (nI_1 t) (hX post hp)))⟩, fun post J a1 a2 a3 hp => br_f h2 ⟨hv, br_f z (hY1 _ (nm_r (nI_1 t) (hY post J a1 a2 a3 hp)))⟩⟩

theorem st_belts : ∀ d t, t + d = 4 → ∀ (u : SX) (v : SY), bl_Rel u v → ∃ u' v', bl_Rel u' v' ∧
    (∀ post : SX → Prop, post u' → st_X (wX_workOneTick_2 post (d + 1) (nI t)) u) ∧
    (∀ (post : Int32 → SY → Prop) J x1 x2 x3, st_Y (J (x3 + 1)) v' → st_Y (wY_tick_22 post J x1 x2 x3 (d + 1) (nI t)) v) := by
  intro d
  induction d with
  | zero =>
    intro t ht u v h
    have e : t = 4 := by omega
    subst e
    have h4 : (4 : Int32) ≤ nI 4 := by decide
    obtain ⟨u', v', h', hX, hY⟩ := st_arms 2 0 (by omega) u v h
    obtain ⟨x1, x2, x3, x4, x5, x6, x7, x8, x9, x10⟩ := u
    obtain ⟨y1, y2, y3, y4, y5, y6, y7, y8, y9, y10, y11, y12⟩ := v
    exact ⟨u', v', h', fun post hp => br_t h4 ⟨_, hX post hp⟩, fun post J a1 a2 a3 hp => br_t h4 ⟨_, hY post J a1 a2 a3 hp⟩⟩
  | succ d ih =>
    intro t ht u v h
    have h4 : ¬ (4 : Int32) ≤ nI t := nI_ge (b := 4) (by omega) (by decide)
    obtain ⟨⟨w1, w2, w3, w4, w5, w6, w7, w8, w9, w10⟩, ⟨z1, z2, z3, z4, z5, z6, z7, z8, z9, z10, z11, z12⟩, h1, hX1, hY1⟩ := st_end h (b := t) (by omega)
    obtain ⟨⟨p1, p2, p3, p4, p5, p6, p7, p8, p9, p10⟩, ⟨q1, q2, q3, q4, q5, q6, q7, q8, q9, q10, q11, q12⟩, h2, hX2, hY2⟩ := st_move h1 (b := t) (by omega)
    obtain ⟨u', v', h', hX, hY⟩ := ih (t + 1) (by omega) _ _ h2
    obtain ⟨x1, x2, x3, x4, x5, x6, x7, x8, x9, x10⟩ := u
    obtain ⟨y1, y2, y3, y4, y5, y6, y7, y8, y9, y10, y11, y12⟩ := v
    exact ⟨u', v', h', fun post hp => br_f h4 (hX1 _ (hX2 _ (nm_r (nI_1 t) (hX post hp)))), fun post J a1 a2 a3 hp => br_f h4 (hY1 _ (hY2 _ (nm_r (nI_1 t) (hY post J a1 a2 a3 hp))))⟩

theorem st_one {u : SX} {v : SY} (h : bl_Rel u v) : ∃ u' v', bl_Rel u' v' ∧
    (∀ post : SX → Prop, post u' → wpX_workOneTick post u) ∧
    (∀ (post : Int32 → SY → Prop) J x1 x2 x3, st_Y (J (x3 + 1)) v' → ∃ n, st_Y (wY_tick_22 post J x1 x2 x3 n 0) v) := by
  obtain ⟨u', v', h', hX, hY⟩ := st_belts 4 0 (by omega) u v h
  obtain ⟨x1, x2, x3, x4, x5, x6, x7, x8, x9, x10⟩ := u
  exact ⟨u', v', h', fun post hp => ⟨_, hX post hp⟩, fun post J a1 a2 a3 hp => ⟨_, hY post J a1 a2 a3 hp⟩⟩

theorem st_ticks {n : Nat} (hn : n ≤ 200) : ∀ d t, t + d = n → ∀ (u : SX) (v : SY), bl_Rel u v → ∃ u' v', bl_Rel u' v' ∧
    (∀ (post : Int32 → SX → Prop) x2, post (u'.2.1 - x2) u' → st_X (wX_tick_17 post x2 (nI n) (d + 1) (nI t)) u) ∧
    (∀ (post : Int32 → SY → Prop) x1 x2 N, (∀ k, k < 200 → (x1 ≤ nI k ↔ n ≤ k)) → st_Y (wY_tick_7 post x1 x2 N (nI n)) v' → st_Y (wY_tick_7 post x1 x2 (N + d) (nI t)) v) := by
  intro d
  induction d with
  | zero =>
    intro t ht u v h
    have e : t = n := by omega
    subst e
    obtain ⟨x1, x2, x3, x4, x5, x6, x7, x8, x9, x10⟩ := u
    exact ⟨_, _, h, fun post z hp => br_t (nI_le (Nat.le_refl _) (by omega)) hp, fun post a1 a2 N _ hp => hp⟩
  | succ d ih =>
    intro t ht u v h
    obtain ⟨⟨w1, w2, w3, w4, w5, w6, w7, w8, w9, w10⟩, ⟨z1, z2, z3, z4, z5, z6, z7, z8, z9, z10, z11, z12⟩, h1, hX1, hY1⟩ := st_one h
    obtain ⟨u', v', h', hX, hY⟩ := ih (t + 1) (by omega) _ _ h1
    obtain ⟨x1, x2, x3, x4, x5, x6, x7, x8, x9, x10⟩ := u
    obtain ⟨y1, y2, y3, y4, y5, y6, y7, y8, y9, y10, y11, y12⟩ := v
    refine ⟨u', v', h', fun post z hp => br_f (nI_ge (by omega) (by omega)) (hX1 _ (nm_r (nI_1 t) (hX post z hp))), fun post a1 a2 N hk hp => ?_⟩
    have hlt : ¬ a1 ≤ nI t := fun z => by have := (hk t (by omega)).mp z; omega
    refine br_f (nI_ge (b := 200) (by omega) (by decide)) (br_f hlt ?_)
    refine hY1 post _ a1 a2 (nI t) ?_
    have hr := hY post a1 a2 N hk hp
    rw [← nI_1 t] at hr
    exact hr

theorem st_rest {n : Nat} {post : Int32 → SY → Prop} {x1 x2 : Int32} (hk : ∀ k, k < 200 → (x1 ≤ nI k ↔ n ≤ k)) {v : SY} (hp : post (v.2.1 - x2) v) : ∀ d k, k + d = 200 → n ≤ k →
    st_Y (wY_tick_7 post x1 x2 (d + 1) (nI k)) v := by
  obtain ⟨y1, y2, y3, y4, y5, y6, y7, y8, y9, y10, y11, y12⟩ := v
  intro d
  induction d with
  | zero =>
    intro k hk2 _
    have e : k = 200 := by omega
    subst e
    exact br_t (by decide) hp
  | succ d ih =>
    intro k hk2 hnk
    exact br_f (nI_ge (b := 200) (by omega) (by decide)) (br_t ((hk k (by omega)).mpr hnk) (nm_r (nI_1 k) (ih (k + 1) (by omega) (by omega))))

theorem st_clamp (x : Int32) : ∃ n, n ≤ 200 ∧ (∀ post : Int32 → Prop, post (nI n) → wpX_clamp post x 0 200) ∧ (∀ k, k < 200 → (x ≤ nI k ↔ n ≤ k)) := by
  rcases pk_ix x (n := 201) (by decide) with h | h | ⟨j, hj, rfl⟩
  · refine ⟨0, by omega, fun post hp => br_f (Int32.not_le.mpr h) hp, fun k hk => ⟨fun _ => Nat.zero_le _, fun _ => ?_⟩⟩
    exact Int32.le_trans (Int32.le_of_lt h) (nI_pos' (by omega))
  · have h2 := bn_gt (n := 200) (by decide) h
    refine ⟨200, by omega, fun post hp => br_t ?_ (br_f h2 hp), fun k hk => ⟨fun z => ?_, fun z => by omega⟩⟩
    · exact Int32.le_trans (show (0 : Int32) ≤ nI 201 by decide) h
    · exact absurd (Int32.le_trans z (nI_le (b := 200) (by omega) (by decide))) h2
  · exact ⟨j, by omega, fun post hp => br_t (nI_pos' (by omega)) (br_t (nI_le (b := 200) (by omega) (by decide)) hp), fun k hk => nI_leI (by omega) (by omega)⟩
end
section
/- each call, both sides -/
theorem mt_n2 (t : Nat) (h : t < 2 ^ 31) : ¬ nI t < -2 := by
  rw [Int32.lt_iff_toInt_lt, nI_toInt h, show (-2 : Int32).toInt = -2 from by decide]
  omega
theorem mt_lt2 {y : Int32} (h : y < 0) (h1 : ¬ y = -1) (h2 : ¬ y = -2) : y < -2 := by
  have a1 : y.toInt ≠ -1 := fun z => h1 (Int32.toInt_inj.mp (by rw [z]; decide))
  have a2 : y.toInt ≠ -2 := fun z => h2 (Int32.toInt_inj.mp (by rw [z]; decide))
  rw [Int32.lt_iff_toInt_lt, show (0 : Int32).toInt = 0 from by decide] at h
  rw [Int32.lt_iff_toInt_lt, show (-2 : Int32).toInt = -2 from by decide]
  omega
theorem mt_uA (A : Nat → Int32) (a : Nat) (x : Int32) : upd (fun j => A j &&& 255) a (x &&& 255) = fun j => upd A a x j &&& 255 := by
  funext j
  by_cases e : j = a
  · subst e
    rw [pk_us]
    show _ = upd A j x j &&& 255
    rw [pk_us]
  · rw [pk_un e]
    show _ = upd A a x j &&& 255
    rw [pk_un e]

theorem mt_put {u : SX} {v : SY} (h : bl_Rel u v) (x y : Int32) : ∃ r u' v', bl_Rel u' v' ∧
    (∀ post : Int32 → SX → Prop, post r u' → wpX_put post u x y) ∧ (∀ post : Int32 → SY → Prop, post r v' → wpY_put post v x y) := by
  obtain ⟨L, g, CE, CN, PL, KD, E, S, F, T, R, A, H, HY, rfl, rfl, hL8, hL, w, e, ar⟩ := h
  have rel := bl_mk (g := g) (S := S) (A := A) (⟨hL8, hL, w, e, ar⟩ : bl_C L CE CN PL KD E F T R H HY)
  rcases bn_split 4 (by decide) x with hx | ⟨b, hb, rfl⟩
  · refine ⟨-1, _, _, rel, fun post hp => ?_, fun post hp => ?_⟩
    · unfold wpX_put
      exact rx_noB hx (br_t rfl hp)
    · unfold wpY_put
      exact ry_badY hx (br_f (by decide) hp)
  · have q := w b hb
    rcases bn_split 8 (by decide) y with hy | ⟨k, hk, rfl⟩
    · refine ⟨-2, _, _, rel, fun post hp => ?_, fun post hp => ?_⟩
      · unfold wpX_put
        refine rx_isB hb (br_f (by decide) ?_)
        by_cases y0 : y < 0
        · exact br_t y0 hp
        · exact br_f y0 (br_f (Int32.not_lt.mpr (hy.resolve_left y0)) hp)
      · unfold wpY_put
        refine ry_badN hb (br_t rfl ?_)
        by_cases y0 : y < 0
        · exact br_t y0 hp
        · exact br_f y0 (br_f (bn_gt (n := 7) (by decide) (hy.resolve_left y0)) hp)
    · by_cases r : bl_rm L (CN b) (fun i => PL (b * 16 + i))
      · have t15 := bl_W_15 w hL8 hL hb r
        have ws := bl_W_start (k := k) w hL8 hL hb hk r
        refine ⟨nI (bl_u CN b (CN b + 1) b), _, _, bl_mk (g := g) (S := S) (A := A) ⟨hL8, hL, ws, e, ar⟩, fun post hp => ?_, fun post hp => ?_⟩
        · unfold wpX_put
          refine rx_isB hb (br_f (by decide) (br_f (nI_pos (by omega)) (br_t (nI_lt (b := 8) hk (by decide)) ?_)))
          refine rx_hasRoom hb hL8 hL q (fun _ => ?_) (fun n => absurd r n)
          exact br_f (by decide) ⟨bn_xin hb hL, nm_r (bl_ui (bn_xcl hb hL) (nI_1 k)) (rx_count hb hL (ws b hb) hp)⟩
        · unfold wpY_put
          refine ry_badN hb (br_t rfl (br_f (nI_pos (by omega)) (br_t (nI_le (b := 7) (by omega) (by decide)) ?_)))
          refine ry_room hb hL8 hL q.1 q.2.1 (fun _ => ?_) (fun n => absurd r n)
          refine br_f (by decide) (ry_start hb t15 ⟨bn_bin hb, ?_⟩)
          rw [bn_brd (f := bl_u CN b (CN b + 1)) hb]
          exact hp
      · refine ⟨-3, _, _, rel, fun post hp => ?_, fun post hp => ?_⟩
        · unfold wpX_put
          refine rx_isB hb (br_f (by decide) (br_f (nI_pos (by omega)) (br_t (nI_lt (b := 8) hk (by decide)) ?_)))
          exact rx_hasRoom hb hL8 hL q (fun z => absurd z r) (fun _ => br_t rfl hp)
        · unfold wpY_put
          refine ry_badN hb (br_t rfl (br_f (nI_pos (by omega)) (br_t (nI_le (b := 7) (by omega) (by decide)) ?_)))
          exact ry_room hb hL8 hL q.1 q.2.1 (fun z => absurd z r) (fun _ => br_t rfl hp)

theorem mt_take {u : SX} {v : SY} (h : bl_Rel u v) (x : Int32) : ∃ r u' v', bl_Rel u' v' ∧
    (∀ post : Int32 → SX → Prop, post r u' → wpX_take post u x) ∧ (∀ post : Int32 → SY → Prop, post r v' → wpY_take post v x) := by
  obtain ⟨L, g, CE, CN, PL, KD, E, S, F, T, R, A, H, HY, rfl, rfl, hL8, hL, w, e, ar⟩ := h
  have rel := bl_mk (g := g) (S := S) (A := A) (⟨hL8, hL, w, e, ar⟩ : bl_C L CE CN PL KD E F T R H HY)
  rcases bn_split 4 (by decide) x with hx | ⟨b, hb, rfl⟩
  · refine ⟨-1, _, _, rel, fun post hp => ?_, fun post hp => ?_⟩
    · unfold wpX_take
      exact rx_noB hx (br_t rfl hp)
    · unfold wpY_take
      exact ry_badY hx (br_f (by decide) hp)
  · have q := w b hb
    have n16 := q.1
    have ec : bl_i CN (nI b).toNatClampNeg = nI (CN b) := bn_brd hb
    by_cases z : CE (b * 61) = 0
    · refine ⟨-4, _, _, rel, fun post hp => ?_, fun post hp => ?_⟩
      · have ez : nI (CE (b * 61)) = 0 := by rw [z]; rfl
        unfold wpX_take
        exact rx_isB hb (br_f (by decide) ⟨bn_xin0 hb, nm_r (bn_xrd0 hb) (br_t ez hp)⟩)
      · unfold wpY_take
        refine ry_badN hb (br_t rfl ⟨bn_bin hb, ?_⟩)
        by_cases n0 : CN b = 0
        · exact br_t (by rw [ec, n0]; rfl) hp
        · have p0 : PL (b * 16) ≠ 0 := bl_zero_no (pl := fun i => PL (b * 16 + i)) q z (by omega)
          have p60 : PL (b * 16) ≤ L := q.2.1 0 (by omega)
          exact br_f (by rw [ec, bn_z (by omega)]; exact n0) ⟨bn_yin0 hb, br_f (by rw [bn_yrd0 hb]; exact nI_nle (by omega) (by omega)) hp⟩
    · obtain ⟨npos, p00, c00⟩ := bl_zero q z
      have p0 : PL (b * 16) = 0 := p00
      have c0' : CE (b * 61) = KD (b * 16) + 1 := c00
      have k8 : KD (b * 16) < 8 := q.2.2.1 0 npos
      obtain ⟨m, hm⟩ : ∃ m, CN b = m + 1 := ⟨CN b - 1, by omega⟩
      have wo : bl_W L (bl_u CE (b * 61) 0) (bl_u CN b m) (bl_sh PL (b * 16) (b * 16 + m)) (bl_sh KD (b * 16) (b * 16 + m)) := by
        have wo1 := bl_W_off (i := 0) w hL hb hm (Nat.zero_le _)
        rw [Nat.add_zero, p0, Nat.add_zero] at wo1
        exact wo1
      refine ⟨nI (KD (b * 16)), _, _, bl_mk (g := g) (S := S) (A := A) ⟨hL8, hL, wo, e, ar⟩, fun post hp => ?_, fun post hp => ?_⟩
      · have er : bl_i CE (nI b * 61).toNatClampNeg = nI (KD (b * 16) + 1) := by rw [bn_xrd0 hb, c0']
        have ez : ¬ nI (KD (b * 16) + 1) = 0 := by rw [bn_z (by omega)]; omega
        unfold wpX_take
        refine rx_isB hb (br_f (by decide) ⟨bn_xin0 hb, nm_r er (br_f ez ⟨bn_xin0 hb, nm_r (bl_ui (x := 0) (bn_xcl0 hb) rfl) ?_⟩)⟩)
        rw [bn_pred]
        exact hp
      · unfold wpY_take
        refine ry_badN hb (br_t rfl ⟨bn_bin hb, br_f (by rw [ec, bn_z (by omega)]; omega) ⟨bn_yin0 hb, br_t (by rw [bn_yrd0 hb, p0]; exact nI_le (a := 0) (b := 0) (Nat.le_refl _) (by decide)) ?_⟩⟩)
        exact ry_off (i := 0) hb hm (by omega) (Nat.zero_le _) hp

theorem mt_lead {u : SX} {v : SY} (h : bl_Rel u v) (x y : Int32) : ∃ r u' v', bl_Rel u' v' ∧
    (∀ post : Int32 → SX → Prop, post r u' → wpX_lead post u x y) ∧ (∀ post : Int32 → SY → Prop, post r v' → wpY_lead post v x y) := by
  obtain ⟨L, g, CE, CN, PL, KD, E, S, F, T, R, A, H, HY, rfl, rfl, hL8, hL, w, e, ar⟩ := h
  have rel := bl_mk (g := g) (S := S) (A := A) (⟨hL8, hL, w, e, ar⟩ : bl_C L CE CN PL KD E F T R H HY)
  rcases bn_split 4 (by decide) x with hx | ⟨b, hb, rfl⟩
  · refine ⟨-1, _, _, rel, fun post hp => ?_, fun post hp => ?_⟩
    · unfold wpX_lead
      exact rx_noB hx (br_t rfl hp)
    · unfold wpY_lead
      exact ry_badY hx (br_f (by decide) hp)
  · have eE : E (nI b).toNatClampNeg = E b := by rw [bn_bcl hb]
    have eU : upd E (nI b).toNatClampNeg y = upd E b y := by rw [bn_bcl hb]
    have relU : bl_E b y → bl_Rel (nI L, g, bl_i CE, upd E b y, S, bl_i F, bl_i T, bl_i R, A, bl_i H) (nI L, g, bl_i CN, bl_i PL, bl_i KD, upd E b y, S, bl_i F, bl_i T, bl_i R, (fun j => A j &&& 255), HY) := by
      intro hy
      refine bl_mk ⟨hL8, hL, w, fun c hc => ?_, ar⟩
      by_cases ecb : c = b
      · subst ecb; rw [pk_us]; exact hy
      · rw [pk_un ecb]; exact e c hc
    have setX : ¬ y = nI b → ∀ post : Int32 → SX → Prop, post (E b) (nI L, g, bl_i CE, upd E b y, S, bl_i F, bl_i T, bl_i R, A, bl_i H) →
        wX_lead_27 post (nI b) y (nI L) g (bl_i CE) E S (bl_i F) (bl_i T) (bl_i R) A (bl_i H) := by
      intro hne post hp
      unfold wX_lead_27 wX_lead_32
      exact br_f (by decide) (br_f hne ⟨bn_bin hb, nm_r eE ⟨bn_bin hb, nm_r eU hp⟩⟩)
    have setY : ¬ y < -2 → ¬ 3 < y → ¬ y = nI b → ∀ post : Int32 → SY → Prop, post (E b) (nI L, g, bl_i CN, bl_i PL, bl_i KD, upd E b y, S, bl_i F, bl_i T, bl_i R, (fun j => A j &&& 255), HY) →
        wpY_lead post (nI L, g, bl_i CN, bl_i PL, bl_i KD, E, S, bl_i F, bl_i T, bl_i R, (fun j => A j &&& 255), HY) (nI b) y := by
      intro h1 h2 hne post hp
      unfold wpY_lead
      exact ry_badN hb (br_t rfl (br_f h1 (br_f h2 (br_f hne ⟨bn_bin hb, nm_r eE ⟨bn_bin hb, nm_r eU hp⟩⟩))))
    by_cases y1 : y = -1
    · have hne : ¬ y = nI b := fun z => bn_ne1 b (by omega) (z.symm.trans y1)
      refine ⟨E b, _, _, relU (Or.inl y1), fun post hp => ?_, setY (by rw [y1]; decide) (by rw [y1]; decide) hne⟩
      unfold wpX_lead
      exact rx_isB hb (br_f (by decide) (br_t y1 (setX hne post hp)))
    · by_cases y2 : y = -2
      · have hne : ¬ y = nI b := fun z => bn_ne2 b (by omega) (z.symm.trans y2)
        refine ⟨E b, _, _, relU (Or.inr (Or.inl y2)), fun post hp => ?_, setY (by rw [y2]; decide) (by rw [y2]; decide) hne⟩
        unfold wpX_lead
        exact rx_isB hb (br_f (by decide) (br_f y1 (br_t y2 (setX hne post hp))))
      · rcases bn_split 4 (by decide) y with hy | ⟨t, ht, hy⟩
        · refine ⟨-5, _, _, rel, fun post hp => ?_, fun post hp => ?_⟩
          · unfold wpX_lead
            refine rx_isB hb (br_f (by decide) (br_f y1 (br_f y2 (rx_noB hy (br_t rfl ?_)))))
            unfold wX_lead_32
            exact br_t rfl hp
          · unfold wpY_lead
            refine ry_badN hb (br_t rfl ?_)
            by_cases y0 : y < 0
            · exact br_t (mt_lt2 y0 y1 y2) hp
            · have y4 := hy.resolve_left y0
              refine br_f (fun z => y0 (Int32.lt_trans z (by decide))) (br_t (bn_gt' (n := 3) (by decide) y4) hp)
        · by_cases tb : t = b
          · refine ⟨-5, _, _, rel, fun post hp => ?_, fun post hp => ?_⟩
            · unfold wpX_lead
              refine rx_isB hb (br_f (by decide) (br_f y1 (br_f y2 ?_)))
              rw [hy]
              refine rx_isB ht (br_f (by decide) ?_)
              unfold wX_lead_27 wX_lead_32
              exact br_f (by decide) (br_t (by rw [tb]) hp)
            · unfold wpY_lead
              refine ry_badN hb (br_t rfl ?_)
              rw [hy]
              exact br_f (mt_n2 t (by omega)) (br_f (nI_nlt (a := 3) (by omega) (by decide)) (br_t (by rw [tb]) hp))
          · have hne : ¬ y = nI b := by rw [hy, nI_eq (by omega) (by omega)]; exact tb
            refine ⟨E b, _, _, relU (Or.inr (Or.inr ⟨t, ht, tb, hy⟩)), fun post hp => ?_, setY (by rw [hy]; exact mt_n2 t (by omega)) (by rw [hy]; exact nI_nlt (a := 3) (by omega) (by decide)) hne⟩
            unfold wpX_lead
            refine rx_isB hb (br_f (by decide) (br_f y1 (br_f y2 ?_)))
            have hs := setX hne post hp
            rw [hy] at hs ⊢
            exact rx_isB ht (br_f (by decide) hs)

theorem mt_arm {u : SX} {v : SY} (h : bl_Rel u v) (x y z k : Int32) : ∃ r u' v', bl_Rel u' v' ∧
    (∀ post : Int32 → SX → Prop, post r u' → wpX_arm post u x y z k) ∧ (∀ post : Int32 → SY → Prop, post r v' → wpY_arm post v x y z k) := by
  obtain ⟨L, g, CE, CN, PL, KD, E, S, F, T, R, A, H, HY, rfl, rfl, hL8, hL, w, e, ar⟩ := h
  have rel := bl_mk (g := g) (S := S) (A := A) (⟨hL8, hL, w, e, ar⟩ : bl_C L CE CN PL KD E F T R H HY)
  rcases bn_split 2 (by decide) x with hx | ⟨a, ha, rfl⟩
  · refine ⟨-5, _, _, rel, fun post hp => ?_, fun post hp => ?_⟩
    · unfold wpX_arm
      exact rx_noA hx (br_t rfl hp)
    · unfold wpY_arm
      by_cases x0 : x < 0
      · exact br_t x0 hp
      · exact br_f x0 (br_t (bn_gt' (n := 1) (by decide) (hx.resolve_left x0)) hp)
  · have n1 : ¬ (1 : Int32) < nI a := nI_nlt (a := 1) (by omega) (by decide)
    rcases bn_split 61 (by decide) z with hz | ⟨r, hr, rfl⟩
    · refine ⟨-5, _, _, rel, fun post hp => ?_, fun post hp => ?_⟩
      · unfold wpX_arm
        refine rx_isA ha (br_f (by decide) ?_)
        by_cases z0 : z < 0
        · exact br_t z0 hp
        · exact br_f z0 (br_f (bn_gt (n := 60) (by decide) (hz.resolve_left z0)) hp)
      · unfold wpY_arm
        refine br_f (nI_pos (by omega)) (br_f n1 ?_)
        by_cases z0 : z < 0
        · exact br_t z0 hp
        · exact br_f z0 (br_f (bn_gt (n := 60) (by decide) (hz.resolve_left z0)) hp)
    · obtain ⟨f, hf, ef⟩ := pk_andE y (m := 3) 2 (by decide)
      obtain ⟨t, ht, et⟩ := pk_andE (y >>> ((2 : Int32) &&& 31)) (m := 3) 2 (by decide)
      have hcl := bn_acl ha
      have i60 : nI r ≤ 60 := nI_le (b := 60) (by omega) (by decide)
      refine ⟨0, (nI L, g, bl_i CE, E, upd S a (vp_nar .boolean 1), bl_i (bl_u F a f), bl_i (bl_u T a t), bl_i (bl_u R a r), upd A a k, bl_i H),
        (nI L, g, bl_i CN, bl_i PL, bl_i KD, E, upd S a (vp_nar .boolean 1), bl_i (bl_u F a f), bl_i (bl_u T a t), bl_i (bl_u R a r), (fun j => upd A a k j &&& 255), HY), bl_mk ⟨hL8, hL, w, e, fun c hc => ?_⟩, fun post hp => ?_, fun post hp => ?_⟩
      · obtain ⟨a1, a2, a3, a4, a5⟩ := ar c hc
        by_cases ec : c = a
        · subst ec
          exact ⟨by rw [bl_us]; omega, by rw [bl_us]; omega, by rw [bl_us]; omega, a4, a5⟩
        · exact ⟨by rw [bl_un ec]; exact a1, by rw [bl_un ec]; exact a2, by rw [bl_un ec]; exact a3, a4, a5⟩
      · unfold wpX_arm
        refine rx_isA ha (br_f (by decide) (br_f (nI_pos (by omega)) (br_t i60 ?_)))
        exact ⟨bn_ain ha, nm_r (e' := upd S a (vp_nar .boolean 1)) (by rw [hcl]) ⟨bn_ain ha, nm_r (bl_ui hcl ef) ⟨bn_ain ha, nm_r (bl_ui hcl et) ⟨bn_ain ha, nm_r (bl_ui hcl rfl) ⟨bn_ain ha, nm_r (e' := upd A a k) (by rw [hcl]) hp⟩⟩⟩⟩⟩
      · unfold wpY_arm
        refine br_f (nI_pos (by omega)) (br_f n1 (br_f (nI_pos (by omega)) (br_t i60 ?_)))
        exact ⟨bn_ain ha, nm_r (e' := upd S a (vp_nar .boolean 1)) (by rw [hcl]) ⟨bn_ain ha, nm_r (bl_ui hcl ef) ⟨bn_ain ha, nm_r (bl_ui hcl et) ⟨bn_ain ha, nm_r (bl_ui hcl rfl) ⟨bn_ain ha, nm_r (e' := fun j => upd A a k j &&& 255) (by rw [hcl]; exact mt_uA A a k) hp⟩⟩⟩⟩⟩

theorem mt_tick {u : SX} {v : SY} (h : bl_Rel u v) (x : Int32) : ∃ r u' v', bl_Rel u' v' ∧
    (∀ post : Int32 → SX → Prop, post r u' → wpX_tick post u x) ∧ (∀ post : Int32 → SY → Prop, post r v' → wpY_tick post v x) := by
  obtain ⟨n, hn, hc, hk⟩ := st_clamp x
  obtain ⟨u', v', h', hX, hY⟩ := st_ticks hn n 0 (by omega) u v h
  obtain ⟨x1, x2, x3, x4, x5, x6, x7, x8, x9, x10⟩ := u
  obtain ⟨y1, y2, y3, y4, y5, y6, y7, y8, y9, y10, y11, y12⟩ := v
  have eg : y2 = x2 := by
    obtain ⟨L, g, CE, CN, PL, KD, E, S, F, T, R, A, H, HY, eu, ev, c⟩ := h
    simp only [Prod.mk.injEq] at eu ev
    rw [eu.2.1, ev.2.1]
  have eg' : v'.2.1 = u'.2.1 := by
    obtain ⟨L, g, CE, CN, PL, KD, E, S, F, T, R, A, H, HY, rfl, rfl, c⟩ := h'
    rfl
  subst eg
  refine ⟨u'.2.1 - y2, u', v', h', fun post hp => ?_, fun post hp => ?_⟩
  · unfold wpX_tick
    exact hc _ ⟨_, hX post y2 hp⟩
  · unfold wpY_tick
    rw [← eg'] at hp
    exact ⟨_, hY post x y2 (200 - n + 1) hk (st_rest hk hp (200 - n) n (by omega) (Nat.le_refl _))⟩
end
section
/- the calls that change nothing -/
theorem mt_items {u : SX} {v : SY} (h : bl_Rel u v) (x : Int32) : ∃ r, (∀ post : Int32 → Prop, post r → wpX_items post u x) ∧ (∀ post : Int32 → Prop, post r → wpY_items post v x) := by
  obtain ⟨L, g, CE, CN, PL, KD, E, S, F, T, R, A, H, HY, rfl, rfl, hL8, hL, w, e, ar⟩ := h
  rcases bn_split 4 (by decide) x with hx | ⟨b, hb, rfl⟩
  · refine ⟨-1, fun post hp => ?_, fun post hp => ?_⟩
    · unfold wpX_items
      exact rx_noB hx (br_t rfl hp)
    · unfold wpY_items
      exact ry_badY hx (br_f (by decide) hp)
  · refine ⟨nI (CN b), fun post hp => ?_, fun post hp => ?_⟩
    · unfold wpX_items
      exact rx_isB hb (br_f (by decide) (rx_count hb hL (w b hb) hp))
    · unfold wpY_items
      refine ry_badN hb (br_t rfl ⟨bn_bin hb, ?_⟩)
      rw [bn_brd hb]
      exact hp

theorem mt_place {u : SX} {v : SY} (h : bl_Rel u v) (x y : Int32) : ∃ r, (∀ post : Int32 → Prop, post r → wpX_place post u x y) ∧ (∀ post : Int32 → Prop, post r → wpY_place post v x y) := by
  obtain ⟨L, g, CE, CN, PL, KD, E, S, F, T, R, A, H, HY, rfl, rfl, hL8, hL, w, e, ar⟩ := h
  rcases bn_split 4 (by decide) x with hx | ⟨b, hb, rfl⟩
  · refine ⟨-1, fun post hp => ?_, fun post hp => ?_⟩
    · unfold wpX_place
      exact rx_noB hx (br_t rfl hp)
    · unfold wpY_place
      exact ry_badY hx (br_f (by decide) hp)
  · have q := w b hb
    have n16 := q.1
    have ec : bl_i CN (nI b).toNatClampNeg = nI (CN b) := bn_brd hb
    rcases bn_split (CN b) (by omega) y with hy | ⟨i, hi, rfl⟩
    · refine ⟨-4, fun post hp => ?_, fun post hp => ?_⟩
      · unfold wpX_place
        refine rx_isB hb (br_f (by decide) (rx_find y hb hL q (fun m hm em => ?_) (fun _ => hp)))
        subst em
        exact absurd hy (fun z => z.elim (nI_pos (by omega)) (nI_ge hm (by omega)))
      · unfold wpY_place
        refine ry_badN hb (br_t rfl ?_)
        by_cases y0 : y < 0
        · exact br_t y0 hp
        · exact br_f y0 ⟨bn_bin hb, br_f (by rw [ec]; exact Int32.not_lt.mpr (hy.resolve_left y0)) hp⟩
    · refine ⟨nI (PL (b * 16 + i)), fun post hp => ?_, fun post hp => ?_⟩
      · unfold wpX_place
        refine rx_isB hb (br_f (by decide) (rx_find (nI i) hb hL q (fun m hm em => ?_) (fun no => absurd rfl (no i hi))))
        have eim : i = m := (nI_eq (by omega) (by omega)).mp em
        subst eim
        exact hp
      · unfold wpY_place
        refine ry_badN hb (br_t rfl (br_f (nI_pos (by omega)) ⟨bn_bin hb, br_t (by rw [ec]; exact nI_lt hi (by omega)) ⟨bn_yin hb (by omega), ?_⟩⟩))
        rw [bn_yrd hb (by omega)]
        exact hp

theorem mt_kind {u : SX} {v : SY} (h : bl_Rel u v) (x y : Int32) : ∃ r, (∀ post : Int32 → Prop, post r → wpX_kind post u x y) ∧ (∀ post : Int32 → Prop, post r → wpY_kind post v x y) := by
  obtain ⟨L, g, CE, CN, PL, KD, E, S, F, T, R, A, H, HY, rfl, rfl, hL8, hL, w, e, ar⟩ := h
  rcases bn_split 4 (by decide) x with hx | ⟨b, hb, rfl⟩
  · refine ⟨-1, fun post hp => ?_, fun post hp => ?_⟩
    · unfold wpX_kind
      exact rx_noB hx (br_t rfl hp)
    · unfold wpY_kind
      exact ry_badY hx (br_f (by decide) hp)
  · have q := w b hb
    have n16 := q.1
    have ec : bl_i CN (nI b).toNatClampNeg = nI (CN b) := bn_brd hb
    rcases bn_split (CN b) (by omega) y with hy | ⟨i, hi, rfl⟩
    · refine ⟨-4, fun post hp => ?_, fun post hp => ?_⟩
      · unfold wpX_kind
        refine rx_isB hb (br_f (by decide) (rx_find y hb hL q (fun m hm em => ?_) (fun _ => br_f (by decide) hp)))
        subst em
        exact absurd hy (fun z => z.elim (nI_pos (by omega)) (nI_ge hm (by omega)))
      · unfold wpY_kind
        refine ry_badN hb (br_t rfl ?_)
        by_cases y0 : y < 0
        · exact br_t y0 hp
        · exact br_f y0 ⟨bn_bin hb, br_f (by rw [ec]; exact Int32.not_lt.mpr (hy.resolve_left y0)) hp⟩
    · refine ⟨nI (KD (b * 16 + i)), fun post hp => ?_, fun post hp => ?_⟩
      · unfold wpX_kind
        refine rx_isB hb (br_f (by decide) (rx_find (nI i) hb hL q (fun m hm em => ?_) (fun no => absurd rfl (no i hi))))
        have eim : i = m := (nI_eq (by omega) (by omega)).mp em
        subst eim
        have pL : PL (b * 16 + i) ≤ L := q.2.1 i hi
        have ci : CE (b * 61 + PL (b * 16 + i)) = KD (b * 16 + i) + 1 := q.2.2.2.1 i hi
        refine br_t (nI_pos' (by omega)) ⟨bn_xin hb (by omega), ?_⟩
        rw [bn_xrd hb (by omega), ci, bn_pred]
        exact hp
      · unfold wpY_kind
        refine ry_badN hb (br_t rfl (br_f (nI_pos (by omega)) ⟨bn_bin hb, br_t (by rw [ec]; exact nI_lt hi (by omega)) ⟨bn_yin hb (by omega), ?_⟩⟩))
        rw [bn_yrd hb (by omega)]
        exact hp

theorem mt_out {u : SX} {v : SY} (h : bl_Rel u v) : ∃ r, (∀ post : Int32 → Prop, post r → wpX_out post u) ∧ (∀ post : Int32 → Prop, post r → wpY_out post v) := by
  obtain ⟨L, g, CE, CN, PL, KD, E, S, F, T, R, A, H, HY, rfl, rfl, c⟩ := h
  exact ⟨g, fun post hp => hp, fun post hp => hp⟩

theorem mt_held {u : SX} {v : SY} (h : bl_Rel u v) (x : Int32) : ∃ r, (∀ post : Int32 → Prop, post r → wpX_held post u x) ∧ (∀ post : Int32 → Prop, post r → wpY_held post v x) := by
  obtain ⟨L, g, CE, CN, PL, KD, E, S, F, T, R, A, H, HY, rfl, rfl, hL8, hL, w, e, ar⟩ := h
  rcases bn_split 2 (by decide) x with hx | ⟨a, ha, rfl⟩
  · refine ⟨-5, fun post hp => ?_, fun post hp => ?_⟩
    · unfold wpX_held
      exact rx_noA hx (br_t rfl hp)
    · unfold wpY_held
      by_cases x0 : x < 0
      · exact br_t x0 hp
      · exact br_f x0 (br_f (bn_gt (n := 1) (by decide) (hx.resolve_left x0)) hp)
  · obtain ⟨hF, hT, hR, hH, hY⟩ := ar a ha
    have eH : bl_i H (nI a).toNatClampNeg = nI (H a) := bn_ard ha
    refine ⟨bl_h (H a), fun post hp => ?_, fun post hp => ?_⟩
    · unfold wpX_held
      refine rx_isA ha (br_f (by decide) ⟨bn_ain ha, ?_⟩)
      by_cases z : H a = 0
      · rw [z, bl_h0] at hp
        exact br_t (by rw [eH, z]; rfl) hp
      · obtain ⟨k, hk⟩ : ∃ k, H a = k + 1 := ⟨H a - 1, by omega⟩
        rw [hk, bl_hs] at hp
        refine br_f (by rw [eH, bn_z (by omega)]; exact z) ⟨bn_ain ha, ?_⟩
        rw [eH, hk, bn_pred]
        exact hp
    · unfold wpY_held
      refine br_f (nI_pos (by omega)) (br_t (nI_le (b := 1) (by omega) (by decide)) ⟨bn_ain ha, ?_⟩)
      rw [bn_acl ha, hY]
      exact hp

theorem mt_room {u : SX} {v : SY} (h : bl_Rel u v) (x : Int32) : ∃ r, (∀ post : Int32 → Prop, post r → wpX_room post u x) ∧ (∀ post : Int32 → Prop, post r → wpY_room post v x) := by
  obtain ⟨L, g, CE, CN, PL, KD, E, S, F, T, R, A, H, HY, rfl, rfl, hL8, hL, w, e, ar⟩ := h
  rcases bn_split 4 (by decide) x with hx | ⟨b, hb, rfl⟩
  · refine ⟨0, fun post hp => ?_, fun post hp => ?_⟩
    · unfold wpX_room
      exact rx_noB hx (br_t rfl hp)
    · unfold wpY_room
      exact ry_badY hx (br_f (by decide) hp)
  · have q := w b hb
    by_cases r : bl_rm L (CN b) (fun i => PL (b * 16 + i))
    · refine ⟨1, fun post hp => ?_, fun post hp => ?_⟩
      · unfold wpX_room
        exact rx_isB hb (br_f (by decide) (rx_hasRoom hb hL8 hL q (fun _ => br_f (by decide) hp) (fun n => absurd r n)))
      · exact ry_room hb hL8 hL q.1 q.2.1 (fun _ => hp) (fun n => absurd r n)
    · refine ⟨0, fun post hp => ?_, fun post hp => ?_⟩
      · unfold wpX_room
        exact rx_isB hb (br_f (by decide) (rx_hasRoom hb hL8 hL q (fun z => absurd z r) (fun _ => br_t rfl hp)))
      · exact ry_room hb hL8 hL q.1 q.2.1 (fun z => absurd z r) (fun _ => hp)

theorem mt_moving {u : SX} {v : SY} (h : bl_Rel u v) (x : Int32) : ∃ r, (∀ post : Int32 → Prop, post r → wpX_moving post u x) ∧ (∀ post : Int32 → Prop, post r → wpY_moving post v x) := by
  obtain ⟨L, g, CE, CN, PL, KD, E, S, F, T, R, A, H, HY, rfl, rfl, hL8, hL, w, e, ar⟩ := h
  rcases bn_split 4 (by decide) x with hx | ⟨b, hb, rfl⟩
  · refine ⟨-1, fun post hp => ?_, fun post hp => ?_⟩
    · unfold wpX_moving
      exact rx_noB hx (br_t rfl hp)
    · unfold wpY_moving
      exact ry_badY hx (br_f (by decide) hp)
  · have q := w b hb
    refine ⟨nI (bl_m (fun i => PL (b * 16 + i)) (CN b)), fun post hp => ?_, fun post hp => ?_⟩
    · unfold wpX_moving
      exact rx_isB hb (br_f (by decide) ⟨L + 1 + 1, rx_moving17 hb hL q (L + 1) 0 0 (by omega) (bl_S0 _ _) (-4) bn_m4 post hp⟩)
    · unfold wpY_moving
      exact ry_badN hb (br_t rfl ⟨CN b + 1, ry_moving18 hb hL q (CN b) 0 (by omega) (-4) bn_m4 post hp⟩)
end
section
/- a new object -/
def nw_e : Nat → Nat → Int32
  | 0 => fun _ => 0
  | t + 1 => upd (nw_e t) t (-1)
theorem nw_eq : ∀ t j, j < t → nw_e t j = -1 := by
  intro t
  induction t with
  | zero => intro j hj; exact absurd hj (Nat.not_lt_zero j)
  | succ t ih =>
    intro j hj
    show upd (nw_e t) t (-1) j = -1
    by_cases e : j = t
    · subst e; exact pk_us
    · rw [pk_un e]; exact ih j (by omega)
theorem nw_X {l g : Int32} {a1 a3 a4 a5 a6 a7 a8 : Nat → Int32} : ∀ d t, t + d = 4 → ∀ post : SX → Prop, post (l, g, a1, nw_e 4, a3, a4, a5, a6, a7, a8) →
    wX_init_81 post l g (d + 1) (nI t) a1 (nw_e t) a3 a4 a5 a6 a7 a8 := by
  intro d
  induction d with
  | zero =>
    intro t ht post hp
    have e : t = 4 := by omega
    subst e
    exact br_t (by decide) hp
  | succ d ih =>
    intro t ht post hp
    exact br_f (nI_ge (b := 4) (by omega) (by decide)) ⟨bn_bin (by omega), nm_r (e' := nw_e (t + 1)) (by rw [bn_bcl (by omega)]; rfl) (nm_r (nI_1 t) (ih (t + 1) (by omega) post hp))⟩
theorem nw_Y {l g : Int32} {a1 a2 a3 a5 a6 a7 a8 a9 a10 : Nat → Int32} : ∀ d t, t + d = 4 → ∀ post : SY → Prop, post (l, g, a1, a2, a3, nw_e 4, a5, a6, a7, a8, a9, upd (upd a10 0 (-4)) 1 (-4)) →
    wY_init_103 post l g (d + 1) (nI t) a1 a2 a3 (nw_e t) a5 a6 a7 a8 a9 a10 := by
  intro d
  induction d with
  | zero =>
    intro t ht post hp
    have e : t = 4 := by omega
    subst e
    exact br_t (by decide) (nm_e (nm_e hp))
  | succ d ih =>
    intro t ht post hp
    exact br_f (nI_ge (b := 4) (by omega) (by decide)) ⟨bn_bin (by omega), nm_r (e' := nw_e (t + 1)) (by rw [bn_bcl (by omega)]; rfl) (nm_r (nI_1 t) (ih (t + 1) (by omega) post hp))⟩
theorem nw_L (x : Int32) : ∃ L, 8 ≤ L ∧ L ≤ 60 ∧ (∀ post : Int32 → Prop, post (nI L) → wpX_clamp post x 8 60) ∧
    (∀ post : SY → Prop, (∃ n, wY_init_103 post (nI L) 0 n 0 (fun _ => 0) (fun _ => 0) (fun _ => 0) (fun _ => 0) (fun _ => 0) (fun _ => 0) (fun _ => 0) (fun _ => 0) (fun _ => 0) (fun _ => 0)) → wpY_init post x) := by
  by_cases h8 : (8 : Int32) ≤ x
  · by_cases h60 : x ≤ 60
    · obtain ⟨j, hj, rfl⟩ := nI_of2 (x := x) (M := 60) (n := 60) (by decide) (Int32.not_lt.mpr (Int32.le_trans (by decide) h8)) h60
      have j8 : 8 ≤ j := (nI_leI (a := 8) (by decide) (by omega)).mp h8
      exact ⟨j, j8, hj, fun post hp => br_t h8 (br_t h60 hp), fun post hp => br_t h8 (br_t h60 hp)⟩
    · exact ⟨60, by omega, by omega, fun post hp => br_t h8 (br_f h60 hp), fun post hp => br_t h8 (br_f h60 hp)⟩
  · exact ⟨8, by omega, by omega, fun post hp => br_f h8 hp, fun post hp => br_f h8 (br_t (by decide) hp)⟩
theorem nw_rel {L : Nat} (h8 : 8 ≤ L) (h60 : L ≤ 60) : bl_Rel (nI L, 0, (fun _ => 0), nw_e 4, (fun _ => 0), (fun _ => 0), (fun _ => 0), (fun _ => 0), (fun _ => 0), (fun _ => 0))
    (nI L, 0, (fun _ => 0), (fun _ => 0), (fun _ => 0), nw_e 4, (fun _ => 0), (fun _ => 0), (fun _ => 0), (fun _ => 0), (fun _ => 0), upd (upd (fun _ => 0) 0 (-4)) 1 (-4)) := by
  refine ⟨L, 0, fun _ => 0, fun _ => 0, fun _ => 0, fun _ => 0, nw_e 4, fun _ => 0, fun _ => 0, fun _ => 0, fun _ => 0, fun _ => 0, fun _ => 0, upd (upd (fun _ => 0) 0 (-4)) 1 (-4), rfl, ?_, h8, h60, ?_, ?_, ?_⟩
  · have e : (fun _ => 0 : Nat → Int32) = (fun j => (fun _ => 0 : Nat → Int32) j &&& 255) := by
      funext j
      show (0 : Int32) = 0 &&& 255
      decide
    rw [← e]
    rfl
  · intro b hb
    refine ⟨Nat.zero_le 16, fun i hi => absurd hi (Nat.not_lt_zero i), fun i hi => absurd hi (Nat.not_lt_zero i), fun i hi => absurd hi (Nat.not_lt_zero i), fun i hi => absurd hi (Nat.not_lt_zero _), fun j hj hz => absurd rfl hz⟩
  · intro b hb
    exact Or.inl (nw_eq 4 b hb)
  · intro a ha
    refine ⟨(by decide : 0 < 4), (by decide : 0 < 4), Nat.zero_le 60, Nat.zero_le 8, ?_⟩
    by_cases e : a = 1
    · subst e; rw [pk_us]; rfl
    · have e0 : a = 0 := by omega
      subst e0
      rw [pk_un (by omega), pk_us]; rfl
end
section
/- what is owed -/
def i_Rel (k : Nat) (u : SX) (v : SY) : Prop := bl_Rel u v
theorem i_up {k : Nat} {u : SX} {v : SY} (h : i_Rel k u v) : i_Rel (k + 5) u v := h
theorem i_vc0 (k0 : Int32) : wpX_init (fun u => wpY_init (fun v => i_Rel 1 u v) k0) k0 := by
  obtain ⟨L, h8, h60, hX, hY⟩ := nw_L k0
  unfold wpX_init
  exact hX _ ⟨_, nw_X 4 0 (by omega) _ (hY _ ⟨_, nw_Y 4 0 (by omega) _ (nw_rel h8 h60)⟩)⟩
theorem i_vc_put {k : Nat} {u : SX} {v : SY} (I : i_Rel k u v) (hk : k + 5 ≤ 2561) (v1 : Int32) (v2 : Int32) : wpX_put (fun r u' => wpY_put (fun r' v' => r' = r ∧ i_Rel (k + 5) u' v') v v1 v2) u v1 v2 := by
  obtain ⟨r, u', v', h', hX, hY⟩ := mt_put I v1 v2
  exact hX _ (hY _ ⟨rfl, h'⟩)
theorem i_vc_take {k : Nat} {u : SX} {v : SY} (I : i_Rel k u v) (hk : k + 5 ≤ 2561) (v1 : Int32) : wpX_take (fun r u' => wpY_take (fun r' v' => r' = r ∧ i_Rel (k + 5) u' v') v v1) u v1 := by
  obtain ⟨r, u', v', h', hX, hY⟩ := mt_take I v1
  exact hX _ (hY _ ⟨rfl, h'⟩)
theorem i_vc_lead {k : Nat} {u : SX} {v : SY} (I : i_Rel k u v) (hk : k + 5 ≤ 2561) (v1 : Int32) (v2 : Int32) : wpX_lead (fun r u' => wpY_lead (fun r' v' => r' = r ∧ i_Rel (k + 5) u' v') v v1 v2) u v1 v2 := by
  obtain ⟨r, u', v', h', hX, hY⟩ := mt_lead I v1 v2
  exact hX _ (hY _ ⟨rfl, h'⟩)
theorem i_vc_arm {k : Nat} {u : SX} {v : SY} (I : i_Rel k u v) (hk : k + 5 ≤ 2561) (v1 : Int32) (v2 : Int32) (v3 : Int32) (v4 : Int32) : wpX_arm (fun r u' => wpY_arm (fun r' v' => r' = r ∧ i_Rel (k + 5) u' v') v v1 v2 v3 v4) u v1 v2 v3 v4 := by
  obtain ⟨r, u', v', h', hX, hY⟩ := mt_arm I v1 v2 v3 v4
  exact hX _ (hY _ ⟨rfl, h'⟩)
theorem i_vc_tick {k : Nat} {u : SX} {v : SY} (I : i_Rel k u v) (hk : k + 5 ≤ 2561) (v1 : Int32) : wpX_tick (fun r u' => wpY_tick (fun r' v' => r' = r ∧ i_Rel (k + 5) u' v') v v1) u v1 := by
  obtain ⟨r, u', v', h', hX, hY⟩ := mt_tick I v1
  exact hX _ (hY _ ⟨rfl, h'⟩)
theorem i_vc_items {k : Nat} {u : SX} {v : SY} (I : i_Rel k u v) (hk : k + 5 ≤ 2561) (v1 : Int32) : wpX_items (fun r => wpY_items (fun r' => r' = r ∧ i_Rel (k + 5) u v) v v1) u v1 := by
  obtain ⟨r, hX, hY⟩ := mt_items I v1
  exact hX _ (hY _ ⟨rfl, I⟩)
theorem i_vc_place {k : Nat} {u : SX} {v : SY} (I : i_Rel k u v) (hk : k + 5 ≤ 2561) (v1 : Int32) (v2 : Int32) : wpX_place (fun r => wpY_place (fun r' => r' = r ∧ i_Rel (k + 5) u v) v v1 v2) u v1 v2 := by
  obtain ⟨r, hX, hY⟩ := mt_place I v1 v2
  exact hX _ (hY _ ⟨rfl, I⟩)
theorem i_vc_kind {k : Nat} {u : SX} {v : SY} (I : i_Rel k u v) (hk : k + 5 ≤ 2561) (v1 : Int32) (v2 : Int32) : wpX_kind (fun r => wpY_kind (fun r' => r' = r ∧ i_Rel (k + 5) u v) v v1 v2) u v1 v2 := by
  obtain ⟨r, hX, hY⟩ := mt_kind I v1 v2
  exact hX _ (hY _ ⟨rfl, I⟩)
theorem i_vc_out {k : Nat} {u : SX} {v : SY} (I : i_Rel k u v) (hk : k + 5 ≤ 2561) : wpX_out (fun r => wpY_out (fun r' => r' = r ∧ i_Rel (k + 5) u v) v) u := by
  obtain ⟨r, hX, hY⟩ := mt_out I 
  exact hX _ (hY _ ⟨rfl, I⟩)
theorem i_vc_held {k : Nat} {u : SX} {v : SY} (I : i_Rel k u v) (hk : k + 5 ≤ 2561) (v1 : Int32) : wpX_held (fun r => wpY_held (fun r' => r' = r ∧ i_Rel (k + 5) u v) v v1) u v1 := by
  obtain ⟨r, hX, hY⟩ := mt_held I v1
  exact hX _ (hY _ ⟨rfl, I⟩)
theorem i_vc_room {k : Nat} {u : SX} {v : SY} (I : i_Rel k u v) (hk : k + 5 ≤ 2561) (v1 : Int32) : wpX_room (fun r => wpY_room (fun r' => r' = r ∧ i_Rel (k + 5) u v) v v1) u v1 := by
  obtain ⟨r, hX, hY⟩ := mt_room I v1
  exact hX _ (hY _ ⟨rfl, I⟩)
theorem i_vc_moving {k : Nat} {u : SX} {v : SY} (I : i_Rel k u v) (hk : k + 5 ≤ 2561) (v1 : Int32) : wpX_moving (fun r => wpY_moving (fun r' => r' = r ∧ i_Rel (k + 5) u v) v v1) u v1 := by
  obtain ⟨r, hX, hY⟩ := mt_moving I v1
  exact hX _ (hY _ ⟨rfl, I⟩)
end
