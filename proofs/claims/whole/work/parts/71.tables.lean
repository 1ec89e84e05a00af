/-! a table: at t, its cells at c, for m rows of w; r of them are there -/
def TB (N : pN) (P : pR) (I : pI) (t c m w r : Nat) : Prop := N.2 c = (0, m * w) ∧ P t 2 = some c ∧ I t 0 = nI m ∧ I t 1 = nI w ∧ I t 3 = nI r ∧ r ≤ m ∧ m * w < 100000 ∧ 0 < w ∧ m < 100000 ∧ w < 100000
theorem p_u_same {f : pI} {a k : Nat} {v : Int32} (h : f a k = v) : p_u f a k v = f := by
  funext x j
  unfold p_u
  by_cases h1 : x = a
  · rw [if_pos h1]
    by_cases h2 : j = k
    · rw [if_pos h2, h1, h2, h]
    · rw [if_neg h2]
  · rw [if_neg h1]
theorem p_u_x {α : Type} {f : Nat → Nat → α} {a k x j : Nat} {v : α} (h : x ≠ a) : p_u f a k v x j = f x j := by rw [p_u_ne h]
theorem n_00 : (nI 0 = 0) = True := eq_true rfl
theorem n_10 : (nI 1 = 0) = False := eq_false (by decide)
section Tables
variable {N : pN} {P : pR} {I : pI} {t c m w r k j : Nat} {x y v : Int32}
theorem tb_size (h : TB N P I t c m w r) : f_X8_size I t = some (nI r) := by
  unfold f_X8_size
  rw [h.2.2.2.2.1]
theorem tb_has (h : TB N P I t c m w r) (hk : k < r) : f_X8_has I t (nI k) = some (nI 1) := by
  obtain ⟨h1, h2, h3, h4, h5, h6, h7, h8, h9, h10⟩ := h
  unfold f_X8_has
  rw [h5, if_neg (nI_pos (by omega)), if_neg (nI_ge hk (by omega))]
theorem tb_has_n (h : TB N P I t c m w r) (hx : x < 0 ∨ nI r ≤ x) : f_X8_has I t x = some (nI 0) := by
  obtain ⟨h1, h2, h3, h4, h5, h6, h7, h8, h9, h10⟩ := h
  unfold f_X8_has
  rw [h5]
  by_cases hn : x < 0
  · rw [if_pos hn]
  · rw [if_neg hn, if_pos (hx.resolve_left hn)]
theorem tb_ix (h : TB N P I t c m w r) (hk : k < r) (hj : j < w) : k * w + j < m * w := by
  obtain ⟨h1, h2, h3, h4, h5, h6, h7, h8, h9, h10⟩ := h
  have : (k + 1) * w ≤ m * w := Nat.mul_le_mul_right w (by omega)
  rw [Nat.add_mul] at this
  omega
theorem tb_get (h : TB N P I t c m w r) (hk : k < r) (hj : j < w) : f_X8_get N I P t (nI k) (nI j) = some (I c (k * w + j)) := by
  have hi := tb_ix h hk hj
  obtain ⟨h1, h2, h3, h4, h5, h6, h7, h8, h9, h10⟩ := h
  unfold f_X8_get
  rw [h5, h4, h2, if_neg (nI_pos (by omega)), if_neg (nI_ge hk (by omega)), if_neg (nI_pos (by omega)), if_pos (nI_lt hj (by omega)), pk_mul, nI_add]
  show p_ck _ _ = _
  rw [n_ck (n_ib h1 hi (by omega)), nI_clamp (by omega)]
theorem tb_get_n (h : TB N P I t c m w r) (hx : x < 0 ∨ nI r ≤ x) : f_X8_get N I P t x y = some (-1) := by
  obtain ⟨h1, h2, h3, h4, h5, h6, h7, h8, h9, h10⟩ := h
  unfold f_X8_get
  rw [h5]
  by_cases hn : x < 0
  · rw [if_pos hn]
  · rw [if_neg hn, if_pos (hx.resolve_left hn)]
theorem tb_put (h : TB N P I t c m w r) (hk : k < r) (hj : j < w) : f_X8_put N I P t (nI k) (nI j) v = some (p_u I c (k * w + j) v) := by
  have hi := tb_ix h hk hj
  obtain ⟨h1, h2, h3, h4, h5, h6, h7, h8, h9, h10⟩ := h
  unfold f_X8_put
  rw [h5, h4, h2, if_neg (nI_pos (by omega)), if_neg (nI_ge hk (by omega)), if_neg (nI_pos (by omega)), if_neg (nI_ge hj (by omega)), pk_mul, nI_add]
  show p_ck _ _ = _
  rw [n_ck (n_ib h1 hi (by omega)), n_let, nI_clamp (by omega)]
theorem tb_put_n (h : TB N P I t c m w r) (hx : x < 0 ∨ nI r ≤ x) : f_X8_put N I P t x y v = some I := by
  obtain ⟨h1, h2, h3, h4, h5, h6, h7, h8, h9, h10⟩ := h
  unfold f_X8_put
  rw [h5]
  by_cases hn : x < 0
  · rw [if_pos hn]
  · rw [if_neg hn, if_pos (hx.resolve_left hn)]
theorem tb_put_w (h : TB N P I t c m w r) (hj : w ≤ j) (hj2 : j < 2 ^ 31) : f_X8_put N I P t x (nI j) v = some I := by
  obtain ⟨h1, h2, h3, h4, h5, h6, h7, h8, h9, h10⟩ := h
  unfold f_X8_put
  rw [h4, if_neg (nI_pos hj2), if_pos (nI_le hj hj2)]
  split
  · rfl
  · split <;> rfl
theorem tb_add (h : TB N P I t c m w r) (hr : r < m) : f_X8_add I t = some (nI 1, p_u I t 3 (nI (r + 1))) := by
  obtain ⟨h1, h2, h3, h4, h5, h6, h7, h8, h9, h10⟩ := h
  unfold f_X8_add
  rw [h5, h3, if_pos (nI_lt hr (by omega)), n_let, nI_add]
theorem tb_add_f (h : TB N P I t c m w r) (hr : r = m) : f_X8_add I t = some (nI 0, I) := by
  obtain ⟨h1, h2, h3, h4, h5, h6, h7, h8, h9, h10⟩ := h
  unfold f_X8_add
  rw [h5, h3, if_neg (nI_nlt (by omega) (by omega))]
theorem tb_full (h : TB N P I t c m w r) : f_X8_full I t = some (if r < m then nI 0 else nI 1) := by
  obtain ⟨h1, h2, h3, h4, h5, h6, h7, h8, h9, h10⟩ := h
  unfold f_X8_full
  rw [h5, h3]
  by_cases hr : r < m
  · rw [if_pos hr]
    first
      | rw [if_pos (nI_lt hr (by omega))]
      | rw [if_neg (nI_ge hr (by omega))]
  · rw [if_neg hr]
    first
      | rw [if_neg (nI_nlt (by omega) (by omega))]
      | rw [if_pos (nI_le (by omega) (by omega))]
theorem tb_cut (h : TB N P I t c m w r) (hk : k ≤ r) : f_X8_cut I t (nI k) = some (p_u I t 3 (nI k)) := by
  obtain ⟨h1, h2, h3, h4, h5, h6, h7, h8, h9, h10⟩ := h
  unfold f_X8_cut
  rw [h5, if_neg (nI_pos (by omega))]
  by_cases e : k = r
  · subst e
    rw [if_pos (nI_le (Nat.le_refl _) (by omega)), p_u_same h5]
  · rw [if_neg (nI_ge (by omega) (by omega))]
    rfl
/-- elsewhere is written -/
theorem TB.of {I' : pI} (h : TB N P I t c m w r) (e : ∀ i, I' t i = I t i) : TB N P I' t c m w r := by
  obtain ⟨h1, h2, h3, h4, h5, h6, h7, h8, h9, h10⟩ := h
  exact ⟨h1, h2, by rw [e, h3], by rw [e, h4], by rw [e, h5], h6, h7, h8, h9, h10⟩
theorem TB.rows {k : Nat} (h : TB N P I t c m w r) (hk : k ≤ m) : TB N P (p_u I t 3 (nI k)) t c m w k := by
  obtain ⟨h1, h2, h3, h4, h5, h6, h7, h8, h9, h10⟩ := h
  exact ⟨h1, h2, by rw [p_u_nk (by decide), h3], by rw [p_u_nk (by decide), h4], p_u_self, hk, h7, h8, h9, h10⟩
theorem TB.cells (h : TB N P I t c m w r) (hc : c ≠ t) : TB N P (p_u I c k v) t c m w r := h.of (fun i => by rw [p_u_x (fun e => hc e.symm)])
end Tables
