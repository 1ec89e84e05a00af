/-! sums of roots: which is greater; this is an order -/
def y_le (s u t v : Nat) : Prop := if t ≤ s then (u + (s - t) * (s - t) ≤ v ∧ 4 * ((s - t) * (s - t)) * u ≤ (v - u - (s - t) * (s - t)) * (v - u - (s - t) * (s - t))) else (u < v + (t - s) * (t - s) ∨ (u - v - (t - s) * (t - s)) * (u - v - (t - s) * (t - s)) ≤ 4 * ((t - s) * (t - s)) * v)
theorem y_sq (a b : Nat) : (a + b) * (a + b) = a * a + 2 * (a * b) + b * b := by
  rw [Nat.add_mul, Nat.mul_add, Nat.mul_add, Nat.mul_comm b a]
  omega
def y_f (m s u : Nat) : Nat := m * s + q_rt (m * m * u)
theorem y_rt_le {m u : Nat} : q_rt (m * m * u) ≤ m * u := by
  have h1 := (q_rt_is (m * m * u)).1
  apply Nat.le_of_not_lt
  intro h
  have h2 := Nat.mul_self_lt_mul_self h
  by_cases hu : u = 0
  · subst hu
    simp only [Nat.mul_zero] at h1 h
    have h3 : q_rt 0 * 1 ≤ q_rt 0 * q_rt 0 := Nat.mul_le_mul_left _ h
    omega
  · have h3 : m * m * u ≤ m * m * (u * u) := Nat.mul_le_mul_left _ (by
      have := Nat.mul_le_mul_left u (show 1 ≤ u by omega)
      omega)
    have h4 : m * u * (m * u) = m * m * (u * u) := by ac_rfl
    omega
theorem y_A {s u t v : Nat} (h : y_le s u t v) (m : Nat) : y_f m s u ≤ y_f m t v := by
  unfold y_f
  apply Nat.le_of_not_lt
  intro hlt
  obtain ⟨a1, a2⟩ := q_rt_is (m * m * u)
  obtain ⟨b1, b2⟩ := q_rt_is (m * m * v)
  have hle1 := y_rt_le (m := m) (u := u)
  generalize q_rt (m * m * u) = r at a1 a2 hlt hle1
  generalize q_rt (m * m * v) = w at b1 b2 hlt
  unfold y_le at h
  by_cases hst : t ≤ s
  · rw [if_pos hst] at h
    obtain ⟨d, rfl⟩ : ∃ d, s = t + d := ⟨s - t, by omega⟩
    rw [Nat.add_sub_cancel_left] at h
    obtain ⟨h1, h2⟩ := h
    obtain ⟨k, rfl⟩ : ∃ k, v = u + d * d + k := ⟨v - (u + d * d), by omega⟩
    rw [show u + d * d + k - u - d * d = k by omega] at h2
    rw [Nat.mul_add] at hlt
    have e1 : w + 1 ≤ m * d + r := by omega
    have e2 := Nat.mul_le_mul e1 e1
    have e3 := y_sq (m * d) r
    have e4 : m * m * (u + d * d + k) = m * m * u + m * d * (m * d) + m * m * k := by
      rw [Nat.mul_add, Nat.mul_add]
      have : m * m * (d * d) = m * d * (m * d) := by ac_rfl
      omega
    have e5 : m * m * k < 2 * (m * d * r) := by omega
    have e6 := Nat.mul_self_lt_mul_self e5
    have e7 : 2 * (m * d * r) * (2 * (m * d * r)) = 4 * (m * d * (m * d)) * (r * r) := by
      have : 2 * (m * d * r) * (2 * (m * d * r)) = (2 * 2) * (m * d * (m * d)) * (r * r) := by ac_rfl
      rw [this]
    have e8 : 4 * (m * d * (m * d)) * (r * r) ≤ 4 * (m * d * (m * d)) * (m * m * u) := Nat.mul_le_mul_left _ a1
    have e9 : 4 * (m * d * (m * d)) * (m * m * u) = m * m * (m * m) * (4 * (d * d) * u) := by ac_rfl
    have e10 : m * m * k * (m * m * k) = m * m * (m * m) * (k * k) := by ac_rfl
    have e11 : m * m * (m * m) * (4 * (d * d) * u) ≤ m * m * (m * m) * (k * k) := Nat.mul_le_mul_left _ h2
    omega
  · rw [if_neg hst] at h
    obtain ⟨d, rfl⟩ : ∃ d, t = s + d := ⟨t - s, by omega⟩
    rw [Nat.add_sub_cancel_left] at h
    have hd : 0 < d := by omega
    rw [Nat.mul_add] at hlt
    have e1 : m * d + (w + 1) ≤ r := by omega
    have hm : 0 < m := by
      by_cases hz : m = 0
      · subst hz
        simp only [Nat.zero_mul] at hle1
        omega
      · omega
    have e2 := Nat.mul_le_mul e1 e1
    have e3 := y_sq (m * d) (w + 1)
    have e4 : m * m * (d * d) = m * d * (m * d) := by ac_rfl
    have e5 : m * m * (v + d * d) + 2 * (m * d * (w + 1)) < m * m * u := by rw [Nat.mul_add, e4]; omega
    have hu : v + d * d < u := by
      apply Nat.lt_of_not_le
      intro hle
      have := Nat.mul_le_mul_left (m * m) hle
      omega
    obtain ⟨k, rfl⟩ : ∃ k, u = v + d * d + k := ⟨u - (v + d * d), by omega⟩
    rw [show v + d * d + k - v - d * d = k by omega] at h
    have h2 : k * k ≤ 4 * (d * d) * v := by
      rcases h with h | h
      · omega
      · exact h
    have e6 : 2 * (m * d * (w + 1)) < m * m * k := by
      rw [Nat.mul_add (m * m) (v + d * d) k] at e5
      omega
    have e7 := Nat.mul_self_lt_mul_self e6
    have e8 : 2 * (m * d * (w + 1)) * (2 * (m * d * (w + 1))) = 4 * (m * d * (m * d)) * ((w + 1) * (w + 1)) := by
      have : 2 * (m * d * (w + 1)) * (2 * (m * d * (w + 1))) = (2 * 2) * (m * d * (m * d)) * ((w + 1) * (w + 1)) := by ac_rfl
      rw [this]
    have e9 : 4 * (m * d * (m * d)) * (m * m * v) ≤ 4 * (m * d * (m * d)) * ((w + 1) * (w + 1)) := Nat.mul_le_mul_left _ (by omega)
    have e10 : 4 * (m * d * (m * d)) * (m * m * v) = m * m * (m * m) * (4 * (d * d) * v) := by ac_rfl
    have e11 : m * m * k * (m * m * k) = m * m * (m * m) * (k * k) := by ac_rfl
    have e12 : m * m * (m * m) * (k * k) ≤ m * m * (m * m) * (4 * (d * d) * v) := Nat.mul_le_mul_left _ h2
    omega
theorem y_B {s u t v : Nat} (h : ¬ y_le s u t v) : ∃ m, y_f m t v < y_f m s u := by
  unfold y_le at h
  by_cases hst : t ≤ s
  · rw [if_pos hst] at h
    obtain ⟨d, rfl⟩ : ∃ d, s = t + d := ⟨s - t, by omega⟩
    rw [Nat.add_sub_cancel_left] at h
    by_cases h1 : u + d * d ≤ v
    · obtain ⟨k, rfl⟩ : ∃ k, v = u + d * d + k := ⟨v - (u + d * d), by omega⟩
      rw [show u + d * d + k - u - d * d = k by omega] at h
      have h2 : k * k < 4 * (d * d) * u := by
        apply Nat.lt_of_not_le
        intro g
        exact h ⟨h1, g⟩
      refine ⟨2 * (2 * (u + d)) * k + 2 * (u + d) + 1, ?_⟩
      generalize hK : 2 * (u + d) = K
      generalize hm : 2 * K * k + K + 1 = m
      unfold y_f
      apply Nat.lt_of_not_le
      intro hle
      obtain ⟨a1, a2⟩ := q_rt_is (m * m * u)
      obtain ⟨b1, b2⟩ := q_rt_is (m * m * (u + d * d + k))
      have hle1 := y_rt_le (m := m) (u := u)
      generalize q_rt (m * m * u) = r at a1 a2 hle hle1
      generalize q_rt (m * m * (u + d * d + k)) = w at b1 b2 hle
      rw [Nat.mul_add] at hle
      have e1 : m * d + r ≤ w := by omega
      have e2 := Nat.mul_le_mul e1 e1
      have e3 := y_sq (m * d) r
      have e4 : m * m * (u + d * d + k) = m * m * u + m * d * (m * d) + m * m * k := by
        rw [Nat.mul_add, Nat.mul_add]
        have : m * m * (d * d) = m * d * (m * d) := by ac_rfl
        omega
      have e5 := y_sq r 1
      have e6 : m * d * (r + 1) = m * d * r + m * d := by rw [Nat.mul_add, Nat.mul_one]
      have e7 : 2 * (m * d * (r + 1)) ≤ m * m * k + m * K := by
        have g1 : m * K = 2 * (m * u) + 2 * (m * d) := by rw [← hK, Nat.mul_left_comm, Nat.mul_add]; omega
        omega
      have e8 := Nat.mul_le_mul e7 e7
      have e9 : 2 * (m * d * (r + 1)) * (2 * (m * d * (r + 1))) = 4 * (m * d * (m * d)) * ((r + 1) * (r + 1)) := by
        have : 2 * (m * d * (r + 1)) * (2 * (m * d * (r + 1))) = (2 * 2) * (m * d * (m * d)) * ((r + 1) * (r + 1)) := by ac_rfl
        rw [this]
      have e10 : 4 * (m * d * (m * d)) * (m * m * u) ≤ 4 * (m * d * (m * d)) * ((r + 1) * (r + 1)) := Nat.mul_le_mul_left _ (by omega)
      have e11 : 4 * (m * d * (m * d)) * (m * m * u) = m * m * (m * m) * (4 * (d * d) * u) := by ac_rfl
      have e12 : m * m * (m * m) * (k * k + 1) ≤ m * m * (m * m) * (4 * (d * d) * u) := Nat.mul_le_mul_left _ h2
      have e13 : (m * m * k + m * K) * (m * m * k + m * K) = m * m * ((m * k + K) * (m * k + K)) := by
        have g1 : m * m * k + m * K = m * (m * k + K) := by rw [Nat.mul_add, Nat.mul_assoc]
        rw [g1]
        ac_rfl
      have e14 : m * m * (m * m) * (k * k + 1) = m * m * (m * m * (k * k + 1)) := Nat.mul_assoc _ _ _
      have e15 : m * m * (m * m * (k * k + 1)) ≤ m * m * ((m * k + K) * (m * k + K)) := by omega
      have hmp : 0 < m * m := Nat.mul_pos (by omega) (by omega)
      have e16 : m * m * (k * k + 1) ≤ (m * k + K) * (m * k + K) := Nat.le_of_mul_le_mul_left e15 hmp
      have e17 := y_sq (m * k) K
      have e18 : m * m * (k * k + 1) = m * k * (m * k) + m * m := by
        rw [Nat.mul_add, Nat.mul_one]
        have : m * m * (k * k) = m * k * (m * k) := by ac_rfl
        omega
      have e19 : m * m = m * (2 * K * k) + m * K + m := by
        have g1 : m * m = m * (2 * K * k + K + 1) := by rw [hm]
        rw [g1, Nat.mul_add, Nat.mul_add, Nat.mul_one]
      have e20 : m * (2 * K * k) = 2 * (m * k * K) := by ac_rfl
      have e21 : K * K ≤ m * K := Nat.mul_le_mul_right _ (by omega)
      omega
    · refine ⟨2 * u + 1, ?_⟩
      generalize hm : 2 * u + 1 = m
      unfold y_f
      apply Nat.lt_of_not_le
      intro hle
      obtain ⟨a1, a2⟩ := q_rt_is (m * m * u)
      obtain ⟨b1, b2⟩ := q_rt_is (m * m * v)
      have hle1 := y_rt_le (m := m) (u := u)
      generalize q_rt (m * m * u) = r at a1 a2 hle hle1
      generalize q_rt (m * m * v) = w at b1 b2 hle
      rw [Nat.mul_add] at hle
      have e1 : m * d + r ≤ w := by omega
      have e2 := Nat.mul_le_mul e1 e1
      have e3 := y_sq (m * d) r
      have e4 : m * m * (v + 1) ≤ m * m * (u + d * d) := Nat.mul_le_mul_left _ (by omega)
      rw [Nat.mul_add, Nat.mul_add, Nat.mul_one] at e4
      have e5 : m * m * (d * d) = m * d * (m * d) := by ac_rfl
      have e6 := y_sq r 1
      have e7 : m * m = m * (2 * u + 1) := by rw [hm]
      have e8 : m * (2 * u + 1) = 2 * (m * u) + m := by rw [Nat.mul_add, Nat.mul_one, Nat.mul_left_comm]
      omega
  · rw [if_neg hst] at h
    obtain ⟨d, rfl⟩ : ∃ d, t = s + d := ⟨t - s, by omega⟩
    rw [Nat.add_sub_cancel_left] at h
    have h1 : v + d * d ≤ u := by
      apply Nat.le_of_not_lt
      intro g
      exact h (Or.inl g)
    obtain ⟨k, rfl⟩ : ∃ k, u = v + d * d + k := ⟨u - (v + d * d), by omega⟩
    rw [show v + d * d + k - v - d * d = k by omega] at h
    have h2 : 4 * (d * d) * v < k * k := by
      apply Nat.lt_of_not_le
      intro g
      exact h (Or.inr g)
    have hk : 0 < k := by
      by_cases hz : k = 0
      · subst hz; omega
      · omega
    refine ⟨2 * (2 * (v + d)) * k + 1, ?_⟩
    generalize hK : 2 * (v + d) = K
    generalize hm : 2 * K * k + 1 = m
    unfold y_f
    apply Nat.lt_of_not_le
    intro hle
    obtain ⟨a1, a2⟩ := q_rt_is (m * m * (v + d * d + k))
    obtain ⟨b1, b2⟩ := q_rt_is (m * m * v)
    have hle1 := y_rt_le (m := m) (u := v)
    generalize q_rt (m * m * (v + d * d + k)) = r at a1 a2 hle
    generalize q_rt (m * m * v) = w at b1 b2 hle hle1
    rw [Nat.mul_add] at hle
    have e1 : r + 1 ≤ (m * d + w) + 1 := by omega
    have e2 := Nat.mul_le_mul e1 e1
    have e3 := y_sq (m * d + w) 1
    have e3b := y_sq (m * d) w
    have e4 : m * m * (v + d * d + k) = m * m * v + m * d * (m * d) + m * m * k := by
      rw [Nat.mul_add, Nat.mul_add]
      have : m * m * (d * d) = m * d * (m * d) := by ac_rfl
      omega
    have e5 : m * m * k ≤ 2 * (m * d * w) + m * K := by
      have g1 : m * K = 2 * (m * v) + 2 * (m * d) := by rw [← hK, Nat.mul_left_comm, Nat.mul_add]; omega
      omega
    have hKm : K ≤ m * k := by
      have g1 : K * 1 ≤ K * k := Nat.mul_le_mul_left _ hk
      have g2 : m * 1 ≤ m * k := Nat.mul_le_mul_left _ hk
      have g3 : 2 * K * k = 2 * (K * k) := Nat.mul_assoc _ _ _
      omega
    obtain ⟨y, hy⟩ : ∃ y, m * k = K + y := ⟨m * k - K, by omega⟩
    have e6 : m * y ≤ 2 * (m * d * w) := by
      have g1 : m * m * k = m * (m * k) := Nat.mul_assoc _ _ _
      rw [g1, hy, Nat.mul_add] at e5
      omega
    have e7 := Nat.mul_le_mul e6 e6
    have e8 : 2 * (m * d * w) * (2 * (m * d * w)) = 4 * (m * d * (m * d)) * (w * w) := by
      have : 2 * (m * d * w) * (2 * (m * d * w)) = (2 * 2) * (m * d * (m * d)) * (w * w) := by ac_rfl
      rw [this]
    have e9 : 4 * (m * d * (m * d)) * (w * w) ≤ 4 * (m * d * (m * d)) * (m * m * v) := Nat.mul_le_mul_left _ b1
    have e10 : 4 * (m * d * (m * d)) * (m * m * v) = m * m * (m * m * (4 * (d * d) * v)) := by ac_rfl
    have e11 : m * y * (m * y) = m * m * (y * y) := by ac_rfl
    have e12 : m * m * (y * y) ≤ m * m * (m * m * (4 * (d * d) * v)) := by omega
    have hmp : 0 < m * m := Nat.mul_pos (by omega) (by omega)
    have e13 : y * y ≤ m * m * (4 * (d * d) * v) := Nat.le_of_mul_le_mul_left e12 hmp
    have e14 : m * m * (4 * (d * d) * v + 1) ≤ m * m * (k * k) := Nat.mul_le_mul_left _ h2
    rw [Nat.mul_add, Nat.mul_one] at e14
    have e15 : m * m * (k * k) = (K + y) * (K + y) := by
      rw [← hy]
      ac_rfl
    have e16 := y_sq K y
    have e17 : m * m = m * (2 * K * k) + m := by
      have g1 : m * m = m * (2 * K * k + 1) := by rw [hm]
      rw [g1, Nat.mul_add, Nat.mul_one]
    have e18 : m * (2 * K * k) = 2 * (K * (m * k)) := by ac_rfl
    rw [hy, Nat.mul_add] at e18
    omega
theorem y_iff {s u t v : Nat} : y_le s u t v ↔ ∀ m, y_f m s u ≤ y_f m t v := by
  constructor
  · exact y_A
  · intro h
    apply Classical.byContradiction
    intro g
    obtain ⟨m, hm⟩ := y_B g
    have := h m
    omega
theorem y_tr {s u t v q w : Nat} (h1 : y_le s u t v) (h2 : y_le t v q w) : y_le s u q w := y_iff.mpr (fun m => Nat.le_trans (y_A h1 m) (y_A h2 m))
