/-! the text of a town or a law: its tokens -/
def q_sc (f : Nat → Bool) (s : Nat) : Nat → Nat → Nat
  | 0, i => i
  | m + 1, i => if i < s ∧ f i = true then q_sc f s m (i + 1) else i
theorem q_sc_s (f : Nat → Bool) (s m i : Nat) : q_sc f s (m + 1) i = if i < s ∧ f i = true then q_sc f s m (i + 1) else i := rfl
section Scan
variable {f : Nat → Bool} {s : Nat}
theorem q_sc_le : ∀ m i, i ≤ s → i ≤ q_sc f s m i ∧ q_sc f s m i ≤ s := by
  intro m
  induction m with
  | zero => intro i hi; exact ⟨Nat.le_refl _, hi⟩
  | succ m ih =>
    intro i hi
    rw [q_sc_s]
    by_cases hc : i < s ∧ f i = true
    · rw [if_pos hc]
      have := ih (i + 1) (by omega)
      omega
    · rw [if_neg hc]; omega
theorem q_sc_in : ∀ m i j, i ≤ j → j < q_sc f s m i → f j = true := by
  intro m
  induction m with
  | zero => intro i j h1 h2; exact absurd h2 (by show ¬ j < i; omega)
  | succ m ih =>
    intro i j h1 h2
    rw [q_sc_s] at h2
    by_cases hc : i < s ∧ f i = true
    · rw [if_pos hc] at h2
      by_cases e : i = j
      · rw [← e]; exact hc.2
      · exact ih (i + 1) j (by omega) h2
    · rw [if_neg hc] at h2; omega
theorem q_sc_end : ∀ m i, i ≤ s → s < i + m → q_sc f s m i < s → f (q_sc f s m i) = false := by
  intro m
  induction m with
  | zero => intro i h1 h2; omega
  | succ m ih =>
    intro i h1 h2 h3
    rw [q_sc_s] at h3 ⊢
    by_cases hc : i < s ∧ f i = true
    · rw [if_pos hc] at h3 ⊢
      exact ih (i + 1) (by omega) (by omega) h3
    · rw [if_neg hc] at h3 ⊢
      cases hf : f i with
      | false => rfl
      | true => exact absurd ⟨h3, hf⟩ hc
end Scan
def q_bl (b : Nat) : Bool := decide (b = 32) || decide (b = 10)
def q_kd (b : Nat) : Nat := if 97 ≤ b ∧ b ≤ 122 then 1 else if 48 ≤ b ∧ b ≤ 57 then 2 else if 58 ≤ b ∧ b ≤ 62 then 3 else 4
theorem q_kd_b (b : Nat) : 1 ≤ q_kd b ∧ q_kd b ≤ 4 ∧ (q_kd b = 1 → 97 ≤ b ∧ b ≤ 122) ∧ (q_kd b = 2 → 48 ≤ b ∧ b ≤ 57) ∧ (q_kd b = 3 → 58 ≤ b ∧ b ≤ 62) := by
  unfold q_kd
  split
  · omega
  · split
    · omega
    · split <;> omega
def q_tp (B : Nat → Nat) (s i : Nat) : Nat := q_sc (fun j => q_bl (B j)) s 501 i
def q_tk (B : Nat → Nat) (s i : Nat) : Nat := if q_tp B s i < s then q_kd (B (q_tp B s i)) else 0
def q_te (B : Nat → Nat) (s i : Nat) : Nat := if q_tk B s i = 0 then q_tp B s i else if q_tk B s i = 1 ∨ q_tk B s i = 2 then q_sc (fun j => decide (q_kd (B j) = q_tk B s i)) s 501 (q_tp B s i + 1) else q_tp B s i + 1
section Tok
variable {B : Nat → Nat} {s i : Nat}
theorem q_tp_b (hi : i ≤ s) : i ≤ q_tp B s i ∧ q_tp B s i ≤ s := q_sc_le _ _ hi
theorem q_tk_0 (hi : i ≤ s) : q_tk B s i = 0 ↔ q_tp B s i = s := by
  have h1 := q_tp_b (B := B) hi
  unfold q_tk
  by_cases hc : q_tp B s i < s
  · rw [if_pos hc]
    have := (q_kd_b (B (q_tp B s i))).1
    omega
  · rw [if_neg hc]; omega
theorem q_tk_b (hi : i ≤ s) : q_tk B s i ≤ 4 := by
  unfold q_tk
  split
  · exact (q_kd_b _).2.1
  · omega
theorem q_tk_k (hi : i ≤ s) (h0 : q_tk B s i ≠ 0) : q_tp B s i < s ∧ q_kd (B (q_tp B s i)) = q_tk B s i := by
  have h1 := q_tp_b (B := B) hi
  have h2 := q_tk_0 (B := B) hi
  have hc : q_tp B s i < s := by omega
  refine ⟨hc, ?_⟩
  unfold q_tk
  rw [if_pos hc]
theorem q_te_b (hi : i ≤ s) : q_tp B s i ≤ q_te B s i ∧ q_te B s i ≤ s ∧ (q_tk B s i ≠ 0 → q_tp B s i < q_te B s i) := by
  have h1 := q_tp_b (B := B) hi
  unfold q_te
  by_cases h0 : q_tk B s i = 0
  · rw [if_pos h0]; omega
  · rw [if_neg h0]
    have h2 := q_tk_k hi h0
    by_cases h3 : q_tk B s i = 1 ∨ q_tk B s i = 2
    · rw [if_pos h3]
      have := q_sc_le (f := fun j => decide (q_kd (B j) = q_tk B s i)) 501 (q_tp B s i + 1) (show q_tp B s i + 1 ≤ s by omega)
      omega
    · rw [if_neg h3]; omega
theorem q_te_in (hi : i ≤ s) (h3 : q_tk B s i = 1 ∨ q_tk B s i = 2) {j : Nat} (h4 : q_tp B s i ≤ j) (h5 : j < q_te B s i) : q_kd (B j) = q_tk B s i := by
  have h0 : ¬ q_tk B s i = 0 := by omega
  unfold q_te at h5
  rw [if_neg h0, if_pos h3] at h5
  by_cases e : j = q_tp B s i
  · rw [e]; exact (q_tk_k hi h0).2
  · exact of_decide_eq_true (q_sc_in (f := fun j => decide (q_kd (B j) = q_tk B s i)) 501 (q_tp B s i + 1) j (by omega) h5)
/-- what comes behind a number is no digit: a number behind it stands further off -/
theorem q_te_gap (hi : i ≤ s) (hs : s ≤ 500) (h3 : q_tk B s i = 2) (h4 : q_tk B s (q_te B s i) = 2) : q_te B s i < q_tp B s (q_te B s i) := by
  have h0 : ¬ q_tk B s i = 0 := by omega
  have b1 := q_te_b (B := B) hi
  have b0 := q_tp_b (B := B) hi
  have b2 := q_tp_b (B := B) b1.2.1
  have b3 := q_tk_k b1.2.1 (by rw [h4]; decide)
  by_cases e : q_te B s i = q_tp B s (q_te B s i)
  · rw [← e, h4] at b3
    have h7 : q_te B s i = q_sc (fun j => decide (q_kd (B j) = q_tk B s i)) s 501 (q_tp B s i + 1) := by
      unfold q_te
      rw [if_neg h0, if_pos (Or.inr h3)]
    have h8 := q_sc_end (f := fun j => decide (q_kd (B j) = q_tk B s i)) (s := s) 501 (q_tp B s i + 1) (by have := q_tk_k hi h0; omega) (by omega) (by rw [← h7]; exact b3.1)
    rw [← h7] at h8
    exact absurd (b3.2.trans h3.symm) (of_decide_eq_false h8)
  · omega
end Tok
/-- the number that digits make -/
def q_nm (B : Nat → Nat) (p : Nat) : Nat → Int32
  | 0 => nI 0
  | m + 1 => q_nm B p m * nI 10 + nI (B (p + m)) - nI 48
def q_nN (B : Nat → Nat) (p : Nat) : Nat → Nat
  | 0 => 0
  | m + 1 => q_nN B p m * 10 + (B (p + m) - 48)
theorem q_nm_N {B : Nat → Nat} {p : Nat} : ∀ m, (∀ j, j < m → 48 ≤ B (p + j) ∧ B (p + j) ≤ 57) → q_nm B p m = nI (q_nN B p m) ∧ q_nN B p m + 1 ≤ 10 ^ m := by
  intro m
  induction m with
  | zero => intro _; exact ⟨rfl, Nat.le_refl _⟩
  | succ m ih =>
    intro h
    obtain ⟨a1, a2⟩ := ih (fun j hj => h j (by omega))
    have hb := h m (by omega)
    have hp : 10 ^ (m + 1) = 10 ^ m * 10 := rfl
    refine ⟨?_, ?_⟩
    · show q_nm B p m * nI 10 + nI (B (p + m)) - nI 48 = nI (q_nN B p m * 10 + (B (p + m) - 48))
      rw [a1, pk_mul, nI_add, pk_sub (by omega), show q_nN B p m * 10 + B (p + m) - 48 = q_nN B p m * 10 + (B (p + m) - 48) by omega]
    · show q_nN B p m * 10 + (B (p + m) - 48) + 1 ≤ 10 ^ (m + 1)
      omega
/-- letters as digits of 32 -/
def q_nc (B : Nat → Nat) (p : Nat) : Nat → Nat
  | 0 => 0
  | m + 1 => 32 * q_nc B p m + (B (p + m) - 96)
theorem q_nc_inj {B C : Nat → Nat} {p q : Nat} : ∀ m l, (∀ j, j < m → 97 ≤ B (p + j) ∧ B (p + j) ≤ 122) → (∀ j, j < l → 97 ≤ C (q + j) ∧ C (q + j) ≤ 122) → q_nc B p m = q_nc C q l → m = l ∧ ∀ j, j < m → B (p + j) = C (q + j) := by
  intro m
  induction m with
  | zero =>
    intro l _ h2 h3
    cases l with
    | zero => exact ⟨rfl, fun j hj => absurd hj (by omega)⟩
    | succ l =>
      have := h2 l (by omega)
      have h3 : 0 = 32 * q_nc C q l + (C (q + l) - 96) := h3
      omega
  | succ m ih =>
    intro l h1 h2 h3
    have hb := h1 m (by omega)
    cases l with
    | zero =>
      have h3 : 32 * q_nc B p m + (B (p + m) - 96) = 0 := h3
      omega
    | succ l =>
      have hc := h2 l (by omega)
      have h3 : 32 * q_nc B p m + (B (p + m) - 96) = 32 * q_nc C q l + (C (q + l) - 96) := h3
      obtain ⟨e1, e2⟩ := ih l (fun j hj => h1 j (by omega)) (fun j hj => h2 j (by omega)) (by omega)
      subst e1
      refine ⟨rfl, fun j hj => ?_⟩
      by_cases e : j = m
      · subst e; omega
      · exact e2 j (by omega)
theorem q_nc_lt {B : Nat → Nat} {p : Nat} : ∀ m, (∀ j, j < m → B (p + j) ≤ 122) → q_nc B p m + 1 ≤ 32 ^ m := by
  intro m
  induction m with
  | zero => intro _; exact Nat.le_refl _
  | succ m ih =>
    intro h
    have a2 := ih (fun j hj => h j (by omega))
    have hb := h m (by omega)
    have hp : 32 ^ (m + 1) = 32 ^ m * 32 := rfl
    show 32 * q_nc B p m + (B (p + m) - 96) + 1 ≤ 32 ^ (m + 1)
    omega
theorem q_nc_eq {B C : Nat → Nat} {p q : Nat} : ∀ m, (∀ j, j < m → B (p + j) = C (q + j)) → q_nc B p m = q_nc C q m := by
  intro m
  induction m with
  | zero => intro _; rfl
  | succ m ih =>
    intro h
    show 32 * q_nc B p m + (B (p + m) - 96) = 32 * q_nc C q m + (C (q + m) - 96)
    rw [ih (fun j hj => h j (by omega)), h m (by omega)]
def q_wt : List Nat := [1, 2, 3, 4, 30, 32, 10, 11, 12, 13, 14, 15, 16, 31, 20, 21]
def q_wk : List Nat := [755084, 643240114, 464036, 632453, 294, 14836, 1457605, 116801202, 17292466, 24, 25, 278194, 8554052, 1476, 2098, 13369]
def q_wdn (c : Nat) : Nat := if c = 755084 then 1 else if c = 643240114 then 2 else if c = 464036 then 3 else if c = 632453 then 4 else if c = 1457605 then 10 else if c = 116801202 then 11 else if c = 17292466 then 12 else if c = 24 then 13 else if c = 25 then 14 else if c = 278194 then 15 else if c = 8554052 then 16 else if c = 2098 then 20 else if c = 13369 then 21 else if c = 294 then 30 else if c = 1476 then 31 else if c = 14836 then 32 else 99
def q_tx (j i : Nat) : Nat := nv ((p_byt.getD j []).getD i 0)
theorem q_tx_k : ∀ j, j < 16 → q_nc (q_tx j) 0 (p_len.getD j 0) = q_wk.getD j 0 := by decide +kernel
theorem q_tx_b : ∀ j, j < 16 → ∀ i, i < p_len.getD j 0 → 97 ≤ q_tx j (0 + i) ∧ q_tx j (0 + i) ≤ 122 ∧ (p_byt.getD j []).getD i 0 = nI (q_tx j i) := by decide +kernel
theorem q_tx_6 : ∀ j, j < 16 → p_len.getD j 0 ≤ 6 ∧ 0 < p_len.getD j 0 := by decide +kernel
theorem q_wd_all (c : Nat) : (c = 755084 ∧ q_wdn c = 1) ∨ (c = 643240114 ∧ q_wdn c = 2) ∨ (c = 464036 ∧ q_wdn c = 3) ∨ (c = 632453 ∧ q_wdn c = 4) ∨ (c = 1457605 ∧ q_wdn c = 10) ∨ (c = 116801202 ∧ q_wdn c = 11) ∨ (c = 17292466 ∧ q_wdn c = 12) ∨ (c = 24 ∧ q_wdn c = 13) ∨ (c = 25 ∧ q_wdn c = 14) ∨ (c = 278194 ∧ q_wdn c = 15) ∨ (c = 8554052 ∧ q_wdn c = 16) ∨ (c = 2098 ∧ q_wdn c = 20) ∨ (c = 13369 ∧ q_wdn c = 21) ∨ (c = 294 ∧ q_wdn c = 30) ∨ (c = 1476 ∧ q_wdn c = 31) ∨ (c = 14836 ∧ q_wdn c = 32) ∨ (c ≠ 755084 ∧ c ≠ 643240114 ∧ c ≠ 464036 ∧ c ≠ 632453 ∧ c ≠ 1457605 ∧ c ≠ 116801202 ∧ c ≠ 17292466 ∧ c ≠ 24 ∧ c ≠ 25 ∧ c ≠ 278194 ∧ c ≠ 8554052 ∧ c ≠ 2098 ∧ c ≠ 13369 ∧ c ≠ 294 ∧ c ≠ 1476 ∧ c ≠ 14836 ∧ q_wdn c = 99) := by
  by_cases e1 : c = 755084
  · left; subst e1; exact ⟨rfl, by decide⟩
  right
  by_cases e2 : c = 643240114
  · left; subst e2; exact ⟨rfl, by decide⟩
  right
  by_cases e3 : c = 464036
  · left; subst e3; exact ⟨rfl, by decide⟩
  right
  by_cases e4 : c = 632453
  · left; subst e4; exact ⟨rfl, by decide⟩
  right
  by_cases e10 : c = 1457605
  · left; subst e10; exact ⟨rfl, by decide⟩
  right
  by_cases e11 : c = 116801202
  · left; subst e11; exact ⟨rfl, by decide⟩
  right
  by_cases e12 : c = 17292466
  · left; subst e12; exact ⟨rfl, by decide⟩
  right
  by_cases e13 : c = 24
  · left; subst e13; exact ⟨rfl, by decide⟩
  right
  by_cases e14 : c = 25
  · left; subst e14; exact ⟨rfl, by decide⟩
  right
  by_cases e15 : c = 278194
  · left; subst e15; exact ⟨rfl, by decide⟩
  right
  by_cases e16 : c = 8554052
  · left; subst e16; exact ⟨rfl, by decide⟩
  right
  by_cases e20 : c = 2098
  · left; subst e20; exact ⟨rfl, by decide⟩
  right
  by_cases e21 : c = 13369
  · left; subst e21; exact ⟨rfl, by decide⟩
  right
  by_cases e30 : c = 294
  · left; subst e30; exact ⟨rfl, by decide⟩
  right
  by_cases e31 : c = 1476
  · left; subst e31; exact ⟨rfl, by decide⟩
  right
  by_cases e32 : c = 14836
  · left; subst e32; exact ⟨rfl, by decide⟩
  right
  refine ⟨e1, e2, e3, e4, e10, e11, e12, e13, e14, e15, e16, e20, e21, e30, e31, e32, ?_⟩
  unfold q_wdn
  rw [if_neg e1, if_neg e2, if_neg e3, if_neg e4, if_neg e10, if_neg e11, if_neg e12, if_neg e13, if_neg e14, if_neg e15, if_neg e16, if_neg e20, if_neg e21, if_neg e30, if_neg e31, if_neg e32]
theorem q_wd_lt (c : Nat) : q_wdn c < 100 := by
  have := q_wd_all c
  omega
theorem q_wd_0 (c : Nat) : q_wdn c = 1 ↔ c = 755084 := by
  have := q_wd_all c
  omega
theorem q_wd_1 (c : Nat) : q_wdn c = 2 ↔ c = 643240114 := by
  have := q_wd_all c
  omega
theorem q_wd_2 (c : Nat) : q_wdn c = 3 ↔ c = 464036 := by
  have := q_wd_all c
  omega
theorem q_wd_3 (c : Nat) : q_wdn c = 4 ↔ c = 632453 := by
  have := q_wd_all c
  omega
theorem q_wd_4 (c : Nat) : q_wdn c = 30 ↔ c = 294 := by
  have := q_wd_all c
  omega
theorem q_wd_5 (c : Nat) : q_wdn c = 32 ↔ c = 14836 := by
  have := q_wd_all c
  omega
theorem q_wd_6 (c : Nat) : q_wdn c = 10 ↔ c = 1457605 := by
  have := q_wd_all c
  omega
theorem q_wd_7 (c : Nat) : q_wdn c = 11 ↔ c = 116801202 := by
  have := q_wd_all c
  omega
theorem q_wd_8 (c : Nat) : q_wdn c = 12 ↔ c = 17292466 := by
  have := q_wd_all c
  omega
theorem q_wd_9 (c : Nat) : q_wdn c = 13 ↔ c = 24 := by
  have := q_wd_all c
  omega
theorem q_wd_10 (c : Nat) : q_wdn c = 14 ↔ c = 25 := by
  have := q_wd_all c
  omega
theorem q_wd_11 (c : Nat) : q_wdn c = 15 ↔ c = 278194 := by
  have := q_wd_all c
  omega
theorem q_wd_12 (c : Nat) : q_wdn c = 16 ↔ c = 8554052 := by
  have := q_wd_all c
  omega
theorem q_wd_13 (c : Nat) : q_wdn c = 31 ↔ c = 1476 := by
  have := q_wd_all c
  omega
theorem q_wd_14 (c : Nat) : q_wdn c = 20 ↔ c = 2098 := by
  have := q_wd_all c
  omega
theorem q_wd_15 (c : Nat) : q_wdn c = 21 ↔ c = 13369 := by
  have := q_wd_all c
  omega
theorem q_wd_j {j c : Nat} (hj : j < 16) : q_wdn c = q_wt.getD j 0 ↔ c = q_wk.getD j 0 := by
  have h : j = 0 ∨ j = 1 ∨ j = 2 ∨ j = 3 ∨ j = 4 ∨ j = 5 ∨ j = 6 ∨ j = 7 ∨ j = 8 ∨ j = 9 ∨ j = 10 ∨ j = 11 ∨ j = 12 ∨ j = 13 ∨ j = 14 ∨ j = 15 := by omega
  rcases h with h | h | h | h | h | h | h | h | h | h | h | h | h | h | h | h <;> subst h
  · exact q_wd_0 c
  · exact q_wd_1 c
  · exact q_wd_2 c
  · exact q_wd_3 c
  · exact q_wd_4 c
  · exact q_wd_5 c
  · exact q_wd_6 c
  · exact q_wd_7 c
  · exact q_wd_8 c
  · exact q_wd_9 c
  · exact q_wd_10 c
  · exact q_wd_11 c
  · exact q_wd_12 c
  · exact q_wd_13 c
  · exact q_wd_14 c
  · exact q_wd_15 c
theorem q_wif {c k w y : Nat} {X : Int64} {Z : Option Int32} (hc : c < 2 ^ 63) (hk : k < 2 ^ 63) (hX : X = lN k) (h : Z = some (nI y)) : (if lN c = X then some (nI w) else Z) = some (nI (if c = k then w else y)) := by
  rw [hX]
  by_cases e : c = k
  · rw [if_pos e, if_pos (by rw [e])]
  · rw [if_neg e, if_neg (fun h2 => e ((pk_lEQ hc hk).mp h2)), h]
theorem m_wordOf {c : Nat} (hc : c < 2 ^ 63) : f_X12_wordOf (lN c) = some (nI (q_wdn c)) := by
  unfold f_X12_wordOf q_wdn
  simp only [f_X12_four, f_X12_three, Option.bind_some]
  refine q_wif hc (by decide) (by decide +kernel) ?_
  refine q_wif hc (by decide) (by decide +kernel) ?_
  refine q_wif hc (by decide) (by decide +kernel) ?_
  refine q_wif hc (by decide) (by decide +kernel) ?_
  refine q_wif hc (by decide) (by decide +kernel) ?_
  refine q_wif hc (by decide) (by decide +kernel) ?_
  refine q_wif hc (by decide) (by decide +kernel) ?_
  refine q_wif hc (by decide) (by decide +kernel) ?_
  refine q_wif hc (by decide) (by decide +kernel) ?_
  refine q_wif hc (by decide) (by decide +kernel) ?_
  refine q_wif hc (by decide) (by decide +kernel) ?_
  refine q_wif hc (by decide) (by decide +kernel) ?_
  refine q_wif hc (by decide) (by decide +kernel) ?_
  refine q_wif hc (by decide) (by decide +kernel) ?_
  refine q_wif hc (by decide) (by decide +kernel) ?_
  refine q_wif hc (by decide) (by decide +kernel) ?_
  rfl
