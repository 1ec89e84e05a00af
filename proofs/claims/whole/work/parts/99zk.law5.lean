/-! the law: its tests, its lines, what is told of them -/
def q_tq (B : Nat → Nat) (s i : Nat) : Nat → Nat
  | 0 => q_te B s i
  | t + 1 => q_te B s (q_tnx B s (q_tq B s i t))
def q_tgo (B : Nat → Nat) (s i t : Nat) : Bool := decide (q_tbad B s (q_tq B s i t) = none) && decide (q_wo B s (q_tnx B s (q_tq B s i t)) = 31)
/-- the last test of a line that begins at i -/
def q_lc (B : Nat → Nat) (s i : Nat) : Nat := q_sc (fun t => q_tgo B s i t) 501 502 0
def q_lk (B : Nat → Nat) (s i : Nat) : Nat := if q_wo B s i = 30 then q_lc B s i + 1 else 0
def q_lv (B : Nat → Nat) (s e : Nat) : Option Nat := if ¬ (q_wo B s e = 20 ∨ q_wo B s e = 21) then some e else if ¬ q_sn B s (q_te B s e) = 59 then some (q_te B s e) else none
def q_lp (B : Nat → Nat) (s i : Nat) : Nat := q_tnx B s (q_tq B s i (q_lc B s i))
def q_lu (B : Nat → Nat) (s x : Nat) : Option Nat := if ¬ q_sn B s x = 58 then some x else q_lv B s (q_te B s x)
def q_lb (B : Nat → Nat) (s i : Nat) : Option Nat := if q_wo B s i = 30 then (match q_tbad B s (q_tq B s i (q_lc B s i)) with | some p => some p | none => q_lu B s (q_lp B s i)) else q_lv B s i
def q_le (B : Nat → Nat) (s i : Nat) : Nat := if q_wo B s i = 30 then q_te B s (q_lp B s i) else i
def q_lnx (B : Nat → Nat) (s i : Nat) : Nat := q_te B s (q_te B s (q_le B s i))
def q_f5 (W : Int32 × Int32) (p : Nat) : Int32 × Int32 := if W.1 = nI 0 then (nI 5, nI p) else W
def q_fl (B : Nat → Nat) (s i l : Nat) (W : Int32 × Int32) : Int32 × Int32 := if l < 16 then W else q_f5 W (q_tp B s i)
def q_fts (B : Nat → Nat) (s i : Nat) (W : Int32 × Int32) : Nat → Int32 × Int32
  | 0 => W
  | c + 1 => if c < 4 then q_fts B s i W c else q_f5 (q_fts B s i W c) (q_tp B s (q_tq B s i c))
def q_lls (B : Nat → Nat) (s : Nat) : Nat → Nat × Int32 × Int32
  | 0 => (0, nI 0, -1)
  | l + 1 => (q_lnx B s (q_lls B s l).1, q_fts B s (q_lls B s l).1 (q_fl B s (q_lls B s l).1 l (q_lls B s l).2) (q_lk B s (q_lls B s l).1))
def q_lout (B : Nat → Nat) (s l : Nat) (W : Int32 × Int32) : Prop := (∀ k, k < l → q_lb B s (q_lls B s k).1 = none) ∧ ((q_tk B s (q_lls B s l).1 = 0 ∧ W = (q_lls B s l).2) ∨ (q_tk B s (q_lls B s l).1 ≠ 0 ∧ ∃ p, q_lb B s (q_lls B s l).1 = some p ∧ W = (nI 1, nI (q_tp B s p))))
/-- it is none, or five at a place not behind y -/
def q_w5 (W : Int32 × Int32) (y : Nat) : Prop := W.1 = nI 0 ∨ (W.1 = nI 5 ∧ ∃ p, W.2 = nI p ∧ p ≤ y)
section Law5
variable {B : Nat → Nat} {s i l t c : Nat} {W W2 : Int32 × Int32}
theorem q_tq_b (hi : i ≤ s) : ∀ t, i ≤ q_tq B s i t ∧ q_tq B s i t ≤ s := by
  intro t
  induction t with
  | zero =>
    have h1 := q_tp_b (B := B) hi
    have h2 := q_te_b (B := B) hi
    show i ≤ q_te B s i ∧ q_te B s i ≤ s
    omega
  | succ t ih =>
    have h0 := q_tnx_b (B := B) ih.2
    have h1 := q_tp_b (B := B) h0.2
    have h2 := q_te_b (B := B) h0.2
    show i ≤ q_te B s (q_tnx B s (q_tq B s i t)) ∧ q_te B s (q_tnx B s (q_tq B s i t)) ≤ s
    omega
theorem q_tnx_g {p : Nat} (hi : p ≤ s) (h : q_tbad B s p = none) : p + 1 ≤ q_tnx B s p := by
  have hw : 10 ≤ q_wo B s (q_ab B s p) ∧ q_wo B s (q_ab B s p) ≤ 16 := by
    unfold q_tbad at h
    by_cases c : 10 ≤ q_wo B s (q_ab B s p) ∧ q_wo B s (q_ab B s p) ≤ 16
    · exact c
    · rw [if_pos c] at h; cases h
  have hk := q_wo_1 (B := B) (s := s) (i := q_ab B s p) (by omega)
  have h0 := q_ab_b (B := B) hi
  have h1 := q_tp_b (B := B) h0.2
  have h2 := q_te_b (B := B) h0.2
  have h3 := q_tp_b (B := B) h2.2.1
  have h4 := q_te_b (B := B) h2.2.1
  have h5 := q_tp_b (B := B) h4.2.1
  have h6 := q_te_b (B := B) h4.2.1
  have := h2.2.2 (by omega)
  unfold q_tnx
  split <;> omega
theorem q_tgo_t (h : q_tgo B s i t = true) : q_tbad B s (q_tq B s i t) = none ∧ q_wo B s (q_tnx B s (q_tq B s i t)) = 31 := by
  unfold q_tgo at h
  rw [Bool.and_eq_true, decide_eq_true_iff, decide_eq_true_iff] at h
  exact h
theorem q_tgo_g (hi : i ≤ s) (h : q_tgo B s i t = true) : q_tq B s i t + 2 ≤ q_tq B s i (t + 1) := by
  obtain ⟨g1, g2⟩ := q_tgo_t h
  have hk := q_wo_1 (B := B) (s := s) (i := q_tnx B s (q_tq B s i t)) (by omega)
  have h0 := q_tnx_b (B := B) (q_tq_b (B := B) hi t).2
  have h1 := q_tp_b (B := B) h0.2
  have h2 := q_te_b (B := B) h0.2
  have h3 := q_tnx_g (q_tq_b (B := B) hi t).2 g1
  show q_tq B s i t + 2 ≤ q_te B s (q_tnx B s (q_tq B s i t))
  have := h2.2.2 (by omega)
  omega
theorem q_tgo_c (hi : i ≤ s) (h : ∀ t, t < c → q_tgo B s i t = true) : 2 * c ≤ q_tq B s i c := by
  induction c with
  | zero => omega
  | succ c ih =>
    have h1 := ih (fun t ht => h t (by omega))
    have h2 := q_tgo_g hi (h c (by omega))
    omega
theorem q_lc_u (hi : i ≤ s) (hs : s ≤ 500) (h : ∀ t, t < c → q_tgo B s i t = true) (hc : q_tgo B s i c = false) : q_lc B s i = c := by
  have h1 := q_sc_le (f := fun t => q_tgo B s i t) (s := 501) 502 0 (by omega)
  have h2 := q_tgo_c hi h
  have h3 := (q_tq_b (B := B) hi c).2
  rcases Nat.lt_trichotomy (q_lc B s i) c with g | g | g
  · have := q_sc_end (f := fun t => q_tgo B s i t) (s := 501) 502 0 (by omega) (by omega) (show q_lc B s i < 501 by omega)
    have h4 := h _ g
    unfold q_lc at h4
    rw [this] at h4; cases h4
  · exact g
  · have := q_sc_in (f := fun t => q_tgo B s i t) (s := 501) 502 0 c (by omega) g
    rw [hc] at this; cases this
theorem q_lc_in (h : t < q_lc B s i) : q_tgo B s i t = true := q_sc_in (f := fun t => q_tgo B s i t) (s := 501) 502 0 t (by omega) h
theorem q_lc_b (hi : i ≤ s) (hs : s ≤ 500) : q_lc B s i ≤ 250 := by
  have h2 := q_tgo_c (c := q_lc B s i) hi (fun t ht => q_lc_in ht)
  have h3 := (q_tq_b (B := B) hi (q_lc B s i)).2
  omega
theorem q_lp_b (hi : i ≤ s) : i ≤ q_lp B s i ∧ q_lp B s i ≤ s := by
  have h1 := q_tq_b (B := B) hi (q_lc B s i)
  have h2 := q_tnx_b (B := B) h1.2
  unfold q_lp
  omega
theorem q_le_b (hi : i ≤ s) : i ≤ q_le B s i ∧ q_le B s i ≤ s := by
  have h1 := q_lp_b (B := B) hi
  have h2 := q_tp_b (B := B) h1.2
  have h3 := q_te_b (B := B) h1.2
  unfold q_le
  split <;> omega
theorem q_lb_v (h : q_lb B s i = none) : q_lv B s (q_le B s i) = none := by
  unfold q_lb at h
  unfold q_le
  by_cases c1 : q_wo B s i = 30
  · rw [if_pos c1] at h ⊢
    cases hb : q_tbad B s (q_tq B s i (q_lc B s i)) with
    | some p => rw [hb] at h; cases h
    | none =>
      rw [hb] at h
      have h : q_lu B s (q_lp B s i) = none := h
      unfold q_lu at h
      by_cases c2 : q_sn B s (q_lp B s i) = 58
      · rw [if_neg (fun g => g c2)] at h; exact h
      · rw [if_pos c2] at h; cases h
  · rw [if_neg c1] at h ⊢; exact h
theorem q_lv_n {e : Nat} (h : q_lv B s e = none) : (q_wo B s e = 20 ∨ q_wo B s e = 21) ∧ q_sn B s (q_te B s e) = 59 := by
  unfold q_lv at h
  by_cases c1 : q_wo B s e = 20 ∨ q_wo B s e = 21
  · rw [if_neg (fun g => g c1)] at h
    by_cases c2 : q_sn B s (q_te B s e) = 59
    · exact ⟨c1, c2⟩
    · rw [if_pos c2] at h; cases h
  · rw [if_pos c1] at h; cases h
theorem q_lnx_b (hi : i ≤ s) : i ≤ q_lnx B s i ∧ q_lnx B s i ≤ s := by
  have h1 := q_le_b (B := B) hi
  have h2 := q_tp_b (B := B) h1.2
  have h3 := q_te_b (B := B) h1.2
  have h4 := q_tp_b (B := B) h3.2.1
  have h5 := q_te_b (B := B) h3.2.1
  unfold q_lnx
  omega
theorem q_lnx_g (hi : i ≤ s) (h : q_lb B s i = none) : i + 2 ≤ q_lnx B s i := by
  obtain ⟨g1, g2⟩ := q_lv_n (q_lb_v h)
  have h1 := q_le_b (B := B) hi
  have h2 := q_tp_b (B := B) h1.2
  have h3 := q_te_b (B := B) h1.2
  have h4 := q_tp_b (B := B) h3.2.1
  have h5 := q_te_b (B := B) h3.2.1
  have k1 := q_wo_1 (B := B) (s := s) (i := q_le B s i) (by omega)
  have k2 := q_sn_3 g2
  have e1 := h3.2.2 (by omega)
  have e2 := h5.2.2 (by omega)
  unfold q_lnx
  omega
theorem q_lb_k (h : q_lb B s i = none) : q_tk B s i ≠ 0 := by
  have hv := q_lv_n (q_lb_v h)
  unfold q_le at hv
  by_cases c1 : q_wo B s i = 30
  · rw [q_wo_1 (by omega)]; decide
  · rw [if_neg c1] at hv
    rw [q_wo_1 (by omega)]; decide
theorem q_lls_b (h : ∀ k, k < l → q_lb B s (q_lls B s k).1 = none) : 2 * l ≤ (q_lls B s l).1 ∧ (q_lls B s l).1 ≤ s := by
  induction l with
  | zero => exact ⟨Nat.le_refl _, Nat.zero_le _⟩
  | succ l ih =>
    have h1 := ih (fun k hk => h k (by omega))
    have h2 := q_lnx_g h1.2 (h l (by omega))
    have h3 := q_lnx_b (B := B) h1.2
    show 2 * (l + 1) ≤ q_lnx B s (q_lls B s l).1 ∧ q_lnx B s (q_lls B s l).1 ≤ s
    omega
theorem q_lout_u {l2 : Nat} (h1 : q_lout B s l W) (h2 : q_lout B s l2 W2) : l = l2 ∧ W = W2 := by
  have hn : ∀ l W, q_lout B s l W → ¬ q_lb B s (q_lls B s l).1 = none := fun l W h g => by
    rcases h.2 with g2 | ⟨_, p, g2, _⟩
    · exact q_lb_k g g2.1
    · rw [g] at g2; cases g2
  have hl : l = l2 := by
    rcases Nat.lt_trichotomy l l2 with h | h | h
    · exact absurd (h2.1 l h) (hn _ _ h1)
    · exact h
    · exact absurd (h1.1 l2 h) (hn _ _ h2)
  subst hl
  refine ⟨rfl, ?_⟩
  rcases h1.2 with ⟨a1, a2⟩ | ⟨a1, p, a2, a3⟩
  · rcases h2.2 with ⟨b1, b2⟩ | ⟨b1, q, b2, b3⟩
    · exact a2.trans b2.symm
    · exact absurd a1 b1
  · rcases h2.2 with ⟨b1, b2⟩ | ⟨b1, q, b2, b3⟩
    · exact absurd b1 a1
    · rw [a2] at b2
      cases b2
      exact a3.trans b3.symm
theorem q_f5_n {p : Nat} : ¬ (q_f5 W p).1 = nI 0 := by
  unfold q_f5
  by_cases h : W.1 = nI 0
  · rw [if_pos h]; exact (show ¬ nI 5 = nI 0 by decide)
  · rw [if_neg h]; exact h
theorem q_w5_m {y z : Nat} (h : q_w5 W y) (hz : y ≤ z) : q_w5 W z := by
  rcases h with h | ⟨h1, p, h2, h3⟩
  · exact Or.inl h
  · exact Or.inr ⟨h1, p, h2, by omega⟩
theorem q_w5_1 {y : Nat} (h : q_w5 W y) : ¬ W.1 = nI 1 := by
  rcases h with h | ⟨h1, _⟩
  · rw [h]; decide
  · rw [h1]; decide
theorem q_w5_f {y : Nat} (h : q_w5 W y) : q_w5 (q_f5 W y) y := by
  unfold q_f5
  by_cases c : W.1 = nI 0
  · rw [if_pos c]; exact Or.inr ⟨rfl, y, rfl, Nat.le_refl _⟩
  · rw [if_neg c]; exact h
theorem q_alo_5 {y : Nat} (h : q_w5 W y) (hy : y < 1000) : q_alo W.1 W.2 (nI 5) (nI y) = q_f5 W y := by
  unfold q_alo q_f5
  by_cases c : W.1 = nI 0
  · rw [if_pos (show W.1 = 0 from c), if_pos c]
  · rw [if_neg (show ¬ W.1 = 0 from c), if_neg c]
    rcases h with h | ⟨h1, p, h2, h3⟩
    · exact absurd h c
    · by_cases e : p = y
      · rw [h2, e, if_neg (nI_nlt (Nat.le_refl y) (by omega)), if_pos rfl, h1, if_neg (by decide)]
        rw [← e, ← h1, ← h2]
      · rw [h2, if_pos (nI_lt (by omega) (by omega)), ← h2]
theorem q_w5_fl (hi : i ≤ s) (h : q_w5 W i) : q_w5 (q_fl B s i l W) (q_tp B s i) := by
  have h1 := q_tp_b (B := B) hi
  have h2 := q_w5_m h h1.1
  unfold q_fl
  split
  · exact h2
  · exact q_w5_f h2
theorem q_fts_z (h : (q_fts B s i W c).1 = nI 0) : W.1 = nI 0 ∧ c ≤ 4 := by
  induction c with
  | zero => exact ⟨h, by omega⟩
  | succ c ih =>
    have h : (if c < 4 then q_fts B s i W c else q_f5 (q_fts B s i W c) (q_tp B s (q_tq B s i c))).1 = nI 0 := h
    by_cases c4 : c < 4
    · rw [if_pos c4] at h
      exact ⟨(ih h).1, by omega⟩
    · rw [if_neg c4] at h
      exact absurd h q_f5_n
theorem q_fl_z (h : (q_fl B s i l W).1 = nI 0) : W.1 = nI 0 ∧ l < 16 := by
  unfold q_fl at h
  by_cases c4 : l < 16
  · rw [if_pos c4] at h
    exact ⟨h, c4⟩
  · rw [if_neg c4] at h
    exact absurd h q_f5_n
theorem q_lls_z (h : (q_lls B s l).2.1 = nI 0) : ∀ k, k < l → k < 16 ∧ q_lk B s (q_lls B s k).1 ≤ 4 := by
  induction l with
  | zero => intro k hk; omega
  | succ l ih =>
    have h : (q_fts B s (q_lls B s l).1 (q_fl B s (q_lls B s l).1 l (q_lls B s l).2) (q_lk B s (q_lls B s l).1)).1 = nI 0 := h
    obtain ⟨h1, h2⟩ := q_fts_z h
    obtain ⟨h3, h4⟩ := q_fl_z h1
    intro k hk
    by_cases e : k = l
    · subst e; exact ⟨h4, h2⟩
    · exact ih h3 k (by omega)
end Law5
