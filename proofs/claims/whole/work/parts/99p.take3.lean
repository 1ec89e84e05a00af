/-! the class adds a row, of the other sorts -/
section Take3
variable {B : Nat → Nat} {s i w : Nat} {N : pN} {P : pR} {K : pI} {A : Nat → Int32} {zn : Nat}
theorem c_add2 (hG : GW N P) (hS : SR N P (q_r68 K A) 1 0) (hc : q_cn K B s i 4) (g : q_wo B s i = 2) (hr : nv (A 1) < 6) (hb : ∀ d, d < 4 → q_tmb 2 d (q_v B s i d) = true) (hn : 600 < zn) : ∃ t, f_X10_addTo zn N K P 55 6 (nI 1) (K 1 11) = some t ∧ q_added N P K t (q_cm B s A i) 6 8 (nv (A 1)) := by
  have hT : TB N P K 6 7 6 8 (nv (A 1)) := (hS.rs.2.1).of (fun j => (by rw [q_r68_n (by decide)] : K 6 j = q_r68 K A 6 j))
  have hT1 : TB N P (p_u K 6 3 (nI (nv (A 1) + 1))) 6 7 6 8 (nv (A 1) + 1) := hT.rows (by omega)
  have hc1 : q_cn (p_u K 6 3 (nI (nv (A 1) + 1))) B s i (q_nn 2) := fun d hd => by rw [p_u_ne (by decide), p_u_ne (by decide)]; exact hc d hd
  obtain ⟨J, j1, j2, j3, j4⟩ := c_addN hG hc1 (show 1 ≤ 2 by decide) (by decide) hT1 (by decide) (by decide) (by decide) hn
  generalize hrr : nv (A 1) = r at *
  have g1 : ¬ q_wo B s i = 1 := by omega
  have hTJ : TB N P J 6 7 6 8 (r + 1) := hT1.of (fun j => by rw [j2 6 (by decide)])
  have hTc : ∀ (X : pI) k v, TB N P X 6 7 6 8 (r + 1) → TB N P (p_u X 7 k v) 6 7 6 8 (r + 1) := fun X k v h => h.cells (by decide)
  have hsz := tb_size hT
  have had := tb_add hT (by omega)
  have hput : ∀ (X : pI) (k : Nat) (v : Int32), TB N P X 6 7 6 8 (r + 1) → k < 8 → f_X8_put N X P 6 (nI r) (nI k) v = some (p_u X 7 (r * 8 + k) v) := fun X k v h hk => tb_put h (by omega) hk
  have j1' : p_it (B_X10_addTo_14 N P (nI r) 55 6 (nI 1)) zn (nI 0, p_u K 6 3 (nI (r + 1))) = some J := j1
  refine ⟨p_u (p_u (p_u (p_u J 7 (r * 8 + 4) (K 1 11)) 7 (r * 8 + 5) (-1)) 7 (r * 8 + 6) (-1)) 7 (r * 8 + 7) (-1), ?_, ?_⟩
  · unfold f_X10_addTo
    simp only [hsz, had, Option.bind_some, j1', if_neg (show ¬ nI 1 = 0 by decide), if_true]
    rw [hput _ 4 _ hTJ (by decide), Option.bind_some]
    rw [hput _ 5 _ (hTc _ _ _ hTJ) (by decide), Option.bind_some]
    rw [hput _ 6 _ (hTc _ _ _ (hTc _ _ _ hTJ)) (by decide), Option.bind_some]
    rw [hput _ 7 _ (hTc _ _ _ (hTc _ _ _ (hTc _ _ _ hTJ))) (by decide), Option.bind_some]
  · generalize ht : p_u (p_u (p_u (p_u J 7 (r * 8 + 4) (K 1 11)) 7 (r * 8 + 5) (-1)) 7 (r * 8 + 6) (-1)) 7 (r * 8 + 7) (-1) = t
    have t1 : ∀ x, x ≠ 7 → t x = J x := fun x hx => by rw [← ht, p_u_ne hx, p_u_ne hx, p_u_ne hx, p_u_ne hx]
    have t2 : ∀ j, j < r * 8 → t 7 j = K 7 j := fun j hj => by rw [← ht, p_u_nk (by omega), p_u_nk (by omega), p_u_nk (by omega), p_u_nk (by omega), j4 j (by omega), p_u_ne (by decide)]
    have hf4 : K 1 11 = A 4 := hS.rf.2.2.1
    have t3 : ∀ k, k < 8 → t 7 (r * 8 + k) = q_trw B s A i k := fun k hk => by
      unfold q_trw
      rw [if_neg g1, if_pos g, ← ht]
      by_cases k4 : k < 4
      · rw [if_pos k4, p_u_nk (by omega), p_u_nk (by omega), p_u_nk (by omega), p_u_nk (by omega), j3 k k4]
      · rw [if_neg k4]
        have g7 : k = 4 ∨ k = 5 ∨ k = 6 ∨ k = 7 := by omega
        rcases g7 with g7 | g7 | g7 | g7 <;> subst g7
        · rw [p_u_nk (by omega), p_u_nk (by omega), p_u_nk (by omega), p_u_self, if_pos rfl, hf4]
        · rw [p_u_nk (by omega), p_u_nk (by omega), p_u_self, if_neg (by decide)]
        · rw [p_u_nk (by omega), p_u_self, if_neg (by decide)]
        · rw [p_u_self, if_neg (by decide)]
    have ha : ∀ j, q_cm B s A i j = if 120 + 8 * r ≤ j ∧ j < 120 + 8 * r + 8 then q_trw B s A i (j - (120 + 8 * r)) else if j = 1 then nI (r + 1) else A j := fun j => by rw [q_cm_2 g, hrr]
    have hrow : ∀ k, k < 8 → q_cm B s A i (120 + 8 * r + k) = q_trw B s A i k := fun k hk => by rw [ha, if_pos (by omega), Nat.add_sub_cancel_left]
    have h0 : q_cm B s A i 1 = nI (r + 1) := by rw [ha, if_neg (by omega), if_pos rfl]
    have hel : ∀ j, j ≠ 1 → (j < 120 + 8 * r ∨ 120 + 8 * r + 8 ≤ j) → q_cm B s A i j = A j := fun j x1 x2 => by rw [ha, if_neg (by omega), if_neg x1]
    have tT : TB N P (q_r68 t (q_cm B s A i)) 6 7 6 8 (r + 1) := hTJ.of (fun j => by rw [q_r68_n (by decide), t1 6 (by decide)])
    refine ⟨hS.w_senders ⟨?_, ?_, ?_⟩ (fun zq x1 x2 x3 x4 => by rw [q_r68_n (by omega), q_r68_n (by omega), t1 zq x4, j2 zq x4, p_u_ne x3]) (fun zj x1 x2 x3 => by rw [q_r68_s, q_r68_s, hel zj x2 (by omega)]), fun x x1 x2 => by rw [t1 x x2, j2 x x2, p_u_ne x1], fun k hk => by rw [t1 6 (by decide), j2 6 (by decide), p_u_nk hk], by rw [t1 6 (by decide), j2 6 (by decide), p_u_self], t2⟩
    · show rg (q_cm B s A i 1) 6
      rw [h0]; exact rg.of (by omega) (by decide)
    · show TB N P (q_r68 t (q_cm B s A i)) 6 7 6 8 (nv (q_cm B s A i 1))
      rw [h0, nv_nI (by omega)]; exact tT
    · show ∀ zw, zw < nv (q_cm B s A i 1) → (∀ zk, zk < 7 → t 7 (zw * 8 + zk) = q_cm B s A i (120 + 8 * zw + zk + 0)) ∧ (q_cm B s A i (120 + 8 * zw + 6 + 0) = -1 ∨ t 7 (zw * 8 + 7) = q_cm B s A i (120 + 8 * zw + 7 + 0)) ∧ q_wfsn (fun zk => q_cm B s A i (120 + 8 * zw + zk + 0))
      rw [h0, nv_nI (by omega)]
      intro zw hw
      have hold := hS.rs.2.2 zw
      by_cases e : zw = r
      · subst e
        have q0 : q_v B s i 0 ≤ 20 := (q_tmb_b (hb 0 (by decide))).2
        have q1 : q_v B s i 1 ≤ 20 := (q_tmb_b (hb 1 (by decide))).2
        have q2 : q_v B s i 2 ≤ 5 := (q_tmb_b (hb 2 (by decide))).2
        have q3 : q_v B s i 3 ≤ 9999 := (q_tmb_b (hb 3 (by decide))).2
        have cv : ∀ k, k < 4 → q_cm B s A i (120 + 8 * zw + k + 0) = nI (q_v B s i k) := fun k hk => by rw [Nat.add_zero, hrow k (by omega)]; unfold q_trw; rw [if_neg g1, if_pos g, if_pos hk]
        have c4 : q_cm B s A i (120 + 8 * zw + 4 + 0) = A 4 := by rw [Nat.add_zero, hrow 4 (by decide)]; unfold q_trw; rw [if_neg g1, if_pos g]; rfl
        have c5 : q_cm B s A i (120 + 8 * zw + 5 + 0) = -1 := by rw [Nat.add_zero, hrow 5 (by decide)]; unfold q_trw; rw [if_neg g1, if_pos g]; rfl
        have c6 : q_cm B s A i (120 + 8 * zw + 6 + 0) = -1 := by rw [Nat.add_zero, hrow 6 (by decide)]; unfold q_trw; rw [if_neg g1, if_pos g]; rfl
        refine ⟨fun zk hk => by rw [t3 zk (by omega), Nat.add_zero, hrow zk (by omega)], Or.inl c6, ?_, ?_, ?_, ?_, ?_, ?_, ?_⟩
        · dsimp only; rw [cv 0 (by decide)]; exact rg.of q0 (by decide)
        · dsimp only; rw [cv 1 (by decide)]; exact rg.of q1 (by decide)
        · dsimp only; rw [cv 2 (by decide)]; exact rg.of q2 (by decide)
        · dsimp only; rw [cv 3 (by decide)]; exact rg.of q3 (by decide)
        · dsimp only; rw [c4]; exact hS.rf.2.2.2.2.1
        · dsimp only; rw [c5]; exact Or.inl rfl
        · dsimp only; rw [c6]; exact Or.inl rfl
      · obtain ⟨o1, o2, o3⟩ := hold (by show zw < nv (A 1); omega)
        have o1 : ∀ zk, zk < 7 → K 7 (zw * 8 + zk) = A (120 + 8 * zw + zk) := o1
        have o2 : A (120 + 8 * zw + 6) = -1 ∨ K 7 (zw * 8 + 7) = A (120 + 8 * zw + 7) := o2
        have o3 : q_wfsn (fun zk => A (120 + 8 * zw + zk)) := o3
        have hg : ∀ zk, zk < 8 → q_cm B s A i (120 + 8 * zw + zk + 0) = A (120 + 8 * zw + zk) := fun zk hk => by rw [Nat.add_zero, hel _ (by omega) (by omega)]
        refine ⟨fun zk hk => by rw [t2 _ (by omega), o1 zk hk, hg zk (by omega)], by rw [hg 6 (by decide), hg 7 (by decide), t2 _ (by omega)]; exact o2, ?_⟩
        obtain ⟨p1, p2, p3, p4, p5, p6, p7⟩ := o3
        refine ⟨?_, ?_, ?_, ?_, ?_, ?_, ?_⟩
        · dsimp only; rw [hg 0 (by decide)]; exact p1
        · dsimp only; rw [hg 1 (by decide)]; exact p2
        · dsimp only; rw [hg 2 (by decide)]; exact p3
        · dsimp only; rw [hg 3 (by decide)]; exact p4
        · dsimp only; rw [hg 4 (by decide)]; exact p5
        · dsimp only; rw [hg 5 (by decide)]; exact p6
        · dsimp only; rw [hg 6 (by decide)]; exact p7
theorem c_add3 (hG : GW N P) (hS : SR N P (q_r68 K A) 1 0) (hc : q_cn K B s i 2) (g : q_wo B s i = 3) (hr : nv (A 3) < 8) (hb : ∀ d, d < 2 → q_tmb 3 d (q_v B s i d) = true) (hn : 600 < zn) : ∃ t, f_X10_addTo zn N K P 55 10 (nI 2) (K 1 11) = some t ∧ q_added N P K t (q_cm B s A i) 10 2 (nv (A 3)) := by
  have hT : TB N P K 10 11 8 2 (nv (A 3)) := (hS.rn.2.1).of (fun j => (by rw [q_r68_n (by decide)] : K 10 j = q_r68 K A 10 j))
  have hT1 : TB N P (p_u K 10 3 (nI (nv (A 3) + 1))) 10 11 8 2 (nv (A 3) + 1) := hT.rows (by omega)
  have hc1 : q_cn (p_u K 10 3 (nI (nv (A 3) + 1))) B s i (q_nn 3) := fun d hd => by rw [p_u_ne (by decide), p_u_ne (by decide)]; exact hc d hd
  obtain ⟨J, j1, j2, j3, j4⟩ := c_addN hG hc1 (show 1 ≤ 3 by decide) (by decide) hT1 (by decide) (by decide) (by decide) hn
  generalize hrr : nv (A 3) = r at *
  have g1 : ¬ q_wo B s i = 1 := by omega
  have g2 : ¬ q_wo B s i = 2 := by omega
  have hTJ : TB N P J 10 11 8 2 (r + 1) := hT1.of (fun j => by rw [j2 10 (by decide)])
  have hTc : ∀ (X : pI) k v, TB N P X 10 11 8 2 (r + 1) → TB N P (p_u X 11 k v) 10 11 8 2 (r + 1) := fun X k v h => h.cells (by decide)
  have hsz := tb_size hT
  have had := tb_add hT (by omega)
  have hput : ∀ (X : pI) (k : Nat) (v : Int32), TB N P X 10 11 8 2 (r + 1) → k < 2 → f_X8_put N X P 10 (nI r) (nI k) v = some (p_u X 11 (r * 2 + k) v) := fun X k v h hk => tb_put h (by omega) hk
  have j1' : p_it (B_X10_addTo_14 N P (nI r) 55 10 (nI 2)) zn (nI 0, p_u K 10 3 (nI (r + 1))) = some J := j1
  refine ⟨J, ?_, ?_⟩
  · unfold f_X10_addTo
    simp only [hsz, had, Option.bind_some, j1', if_neg (show ¬ nI 2 = 0 by decide), if_neg (show ¬ nI 2 = nI 1 by decide)]
  · generalize ht : J = t at *
    have t1 : ∀ x, x ≠ 11 → t x = t x := fun x hx => rfl
    have t2 : ∀ j, j < r * 2 → t 11 j = K 11 j := fun j hj => by rw [j4 j (by omega), p_u_ne (by decide)]
    have t3 : ∀ k, k < 2 → t 11 (r * 2 + k) = q_trw B s A i k := fun k hk => by
      unfold q_trw
      rw [if_neg g1, if_neg g2, j3 k hk]
    have ha : ∀ j, q_cm B s A i j = if 202 + 2 * r ≤ j ∧ j < 202 + 2 * r + 2 then q_trw B s A i (j - (202 + 2 * r)) else if j = 3 then nI (r + 1) else A j := fun j => by rw [q_cm_3 g, hrr]
    have hrow : ∀ k, k < 2 → q_cm B s A i (202 + 2 * r + k) = q_trw B s A i k := fun k hk => by rw [ha, if_pos (by omega), Nat.add_sub_cancel_left]
    have h0 : q_cm B s A i 3 = nI (r + 1) := by rw [ha, if_neg (by omega), if_pos rfl]
    have hel : ∀ j, j ≠ 3 → (j < 202 + 2 * r ∨ 202 + 2 * r + 2 ≤ j) → q_cm B s A i j = A j := fun j x1 x2 => by rw [ha, if_neg (by omega), if_neg x1]
    have tT : TB N P (q_r68 t (q_cm B s A i)) 10 11 8 2 (r + 1) := hTJ.of (fun j => by rw [q_r68_n (by decide), t1 10 (by decide)])
    refine ⟨hS.w_needs ⟨?_, ?_, ?_⟩ (fun zq x1 x2 x3 x4 => by rw [q_r68_n (by omega), q_r68_n (by omega), t1 zq x4, j2 zq x4, p_u_ne x3]) (fun zj x1 x2 x3 => by rw [q_r68_s, q_r68_s, hel zj x2 (by omega)]), fun x x1 x2 => by rw [t1 x x2, j2 x x2, p_u_ne x1], fun k hk => by rw [t1 10 (by decide), j2 10 (by decide), p_u_nk hk], by rw [t1 10 (by decide), j2 10 (by decide), p_u_self], t2⟩
    · show rg (q_cm B s A i 3) 8
      rw [h0]; exact rg.of (by omega) (by decide)
    · show TB N P (q_r68 t (q_cm B s A i)) 10 11 8 2 (nv (q_cm B s A i 3))
      rw [h0, nv_nI (by omega)]; exact tT
    · show ∀ zw, zw < nv (q_cm B s A i 3) → ∀ zk, zk < 2 → t 11 (zw * 2 + zk) = q_cm B s A i (202 + 2 * zw + zk + 0) ∧ rg (q_cm B s A i (202 + 2 * zw + zk + 0)) 20
      rw [h0, nv_nI (by omega)]
      intro zw hw zk hk
      have hold := hS.rn.2.2 zw
      by_cases e : zw = r
      · subst e
        have cv : q_cm B s A i (202 + 2 * zw + zk + 0) = nI (q_v B s i zk) := by rw [Nat.add_zero, hrow zk hk]; unfold q_trw; rw [if_neg g1, if_neg g2]
        have hq : q_v B s i zk ≤ 20 := by
          have g4 : zk = 0 ∨ zk = 1 := by omega
          rcases g4 with g4 | g4 <;> subst g4
          · exact (q_tmb_b (hb 0 (by decide))).2
          · exact (q_tmb_b (hb 1 (by decide))).2
        refine ⟨by rw [t3 zk hk, Nat.add_zero, hrow zk hk], ?_⟩
        rw [cv]; exact rg.of hq (by decide)
      · obtain ⟨o1, o2⟩ := hold (by show zw < nv (A 3); omega) zk hk
        have o1 : K 11 (zw * 2 + zk) = A (202 + 2 * zw + zk) := o1
        have o2 : rg (A (202 + 2 * zw + zk)) 20 := o2
        have hg : q_cm B s A i (202 + 2 * zw + zk + 0) = A (202 + 2 * zw + zk) := by rw [Nat.add_zero, hel _ (by omega) (by omega)]
        rw [hg]
        exact ⟨by rw [t2 _ (by omega), o1], o2⟩
theorem c_add4 (hG : GW N P) (hS : SR N P (q_r68 K A) 1 0) (hc : q_cn K B s i 4) (g : q_wo B s i = 4) (hr : nv (A 2) < 8) (hb : ∀ d, d < 4 → q_tmb 4 d (q_v B s i d) = true) (hn : 600 < zn) : ∃ t, f_X10_addTo zn N K P 55 8 (nI 3) (K 1 11) = some t ∧ q_added N P K t (q_cm B s A i) 8 4 (nv (A 2)) := by
  have hT : TB N P K 8 9 8 4 (nv (A 2)) := (hS.ri.2.1).of (fun j => (by rw [q_r68_n (by decide)] : K 8 j = q_r68 K A 8 j))
  have hT1 : TB N P (p_u K 8 3 (nI (nv (A 2) + 1))) 8 9 8 4 (nv (A 2) + 1) := hT.rows (by omega)
  have hc1 : q_cn (p_u K 8 3 (nI (nv (A 2) + 1))) B s i (q_nn 4) := fun d hd => by rw [p_u_ne (by decide), p_u_ne (by decide)]; exact hc d hd
  obtain ⟨J, j1, j2, j3, j4⟩ := c_addN hG hc1 (show 1 ≤ 4 by decide) (by decide) hT1 (by decide) (by decide) (by decide) hn
  generalize hrr : nv (A 2) = r at *
  have g1 : ¬ q_wo B s i = 1 := by omega
  have g2 : ¬ q_wo B s i = 2 := by omega
  have hTJ : TB N P J 8 9 8 4 (r + 1) := hT1.of (fun j => by rw [j2 8 (by decide)])
  have hTc : ∀ (X : pI) k v, TB N P X 8 9 8 4 (r + 1) → TB N P (p_u X 9 k v) 8 9 8 4 (r + 1) := fun X k v h => h.cells (by decide)
  have hsz := tb_size hT
  have had := tb_add hT (by omega)
  have hput : ∀ (X : pI) (k : Nat) (v : Int32), TB N P X 8 9 8 4 (r + 1) → k < 4 → f_X8_put N X P 8 (nI r) (nI k) v = some (p_u X 9 (r * 4 + k) v) := fun X k v h hk => tb_put h (by omega) hk
  have j1' : p_it (B_X10_addTo_14 N P (nI r) 55 8 (nI 3)) zn (nI 0, p_u K 8 3 (nI (r + 1))) = some J := j1
  refine ⟨J, ?_, ?_⟩
  · unfold f_X10_addTo
    simp only [hsz, had, Option.bind_some, j1', if_neg (show ¬ nI 3 = 0 by decide), if_neg (show ¬ nI 3 = nI 1 by decide)]
  · generalize ht : J = t at *
    have t1 : ∀ x, x ≠ 9 → t x = t x := fun x hx => rfl
    have t2 : ∀ j, j < r * 4 → t 9 j = K 9 j := fun j hj => by rw [j4 j (by omega), p_u_ne (by decide)]
    have t3 : ∀ k, k < 4 → t 9 (r * 4 + k) = q_trw B s A i k := fun k hk => by
      unfold q_trw
      rw [if_neg g1, if_neg g2, j3 k hk]
    have ha : ∀ j, q_cm B s A i j = if 170 + 4 * r ≤ j ∧ j < 170 + 4 * r + 4 then q_trw B s A i (j - (170 + 4 * r)) else if j = 2 then nI (r + 1) else A j := fun j => by rw [q_cm_4 g, hrr]
    have hrow : ∀ k, k < 4 → q_cm B s A i (170 + 4 * r + k) = q_trw B s A i k := fun k hk => by rw [ha, if_pos (by omega), Nat.add_sub_cancel_left]
    have h0 : q_cm B s A i 2 = nI (r + 1) := by rw [ha, if_neg (by omega), if_pos rfl]
    have hel : ∀ j, j ≠ 2 → (j < 170 + 4 * r ∨ 170 + 4 * r + 4 ≤ j) → q_cm B s A i j = A j := fun j x1 x2 => by rw [ha, if_neg (by omega), if_neg x1]
    have tT : TB N P (q_r68 t (q_cm B s A i)) 8 9 8 4 (r + 1) := hTJ.of (fun j => by rw [q_r68_n (by decide), t1 8 (by decide)])
    refine ⟨hS.w_sites ⟨?_, ?_, ?_⟩ (fun zq x1 x2 x3 x4 => by rw [q_r68_n (by omega), q_r68_n (by omega), t1 zq x4, j2 zq x4, p_u_ne x3]) (fun zj x1 x2 x3 => by rw [q_r68_s, q_r68_s, hel zj x2 (by omega)]), fun x x1 x2 => by rw [t1 x x2, j2 x x2, p_u_ne x1], fun k hk => by rw [t1 8 (by decide), j2 8 (by decide), p_u_nk hk], by rw [t1 8 (by decide), j2 8 (by decide), p_u_self], t2⟩
    · show rg (q_cm B s A i 2) 8
      rw [h0]; exact rg.of (by omega) (by decide)
    · show TB N P (q_r68 t (q_cm B s A i)) 8 9 8 4 (nv (q_cm B s A i 2))
      rw [h0, nv_nI (by omega)]; exact tT
    · show ∀ zw, zw < nv (q_cm B s A i 2) → (∀ zk, zk < 4 → t 9 (zw * 4 + zk) = q_cm B s A i (170 + 4 * zw + zk + 0)) ∧ rg (q_cm B s A i (170 + 4 * zw + 0 + 0)) 20 ∧ rg (q_cm B s A i (170 + 4 * zw + 1 + 0)) 20 ∧ rg (q_cm B s A i (170 + 4 * zw + 2 + 0)) 9999 ∧ rg (q_cm B s A i (170 + 4 * zw + 3 + 0)) 999
      rw [h0, nv_nI (by omega)]
      intro zw hw
      have hold := hS.ri.2.2 zw
      by_cases e : zw = r
      · subst e
        have q0 : q_v B s i 0 ≤ 20 := (q_tmb_b (hb 0 (by decide))).2
        have q1 : q_v B s i 1 ≤ 20 := (q_tmb_b (hb 1 (by decide))).2
        have q2 : q_v B s i 2 ≤ 9999 := (q_tmb_b (hb 2 (by decide))).2
        have q3 : q_v B s i 3 ≤ 999 := (q_tmb_b (hb 3 (by decide))).2
        have cv : ∀ k, k < 4 → q_cm B s A i (170 + 4 * zw + k + 0) = nI (q_v B s i k) := fun k hk => by rw [Nat.add_zero, hrow k (by omega)]; unfold q_trw; rw [if_neg g1, if_neg g2]
        rw [cv 0 (by decide), cv 1 (by decide), cv 2 (by decide), cv 3 (by decide)]
        exact ⟨fun zk hk => by rw [t3 zk hk, Nat.add_zero, hrow zk hk], rg.of q0 (by decide), rg.of q1 (by decide), rg.of q2 (by decide), rg.of q3 (by decide)⟩
      · obtain ⟨o1, o2⟩ := hold (by show zw < nv (A 2); omega)
        have o1 : ∀ zk, zk < 4 → K 9 (zw * 4 + zk) = A (170 + 4 * zw + zk) := o1
        have o2 : rg (A (170 + 4 * zw + 0)) 20 ∧ rg (A (170 + 4 * zw + 1)) 20 ∧ rg (A (170 + 4 * zw + 2)) 9999 ∧ rg (A (170 + 4 * zw + 3)) 999 := o2
        have hg : ∀ zk, zk < 4 → q_cm B s A i (170 + 4 * zw + zk + 0) = A (170 + 4 * zw + zk) := fun zk hk => by rw [Nat.add_zero, hel _ (by omega) (by omega)]
        rw [hg 0 (by decide), hg 1 (by decide), hg 2 (by decide), hg 3 (by decide)]
        exact ⟨fun zk hk => by rw [t2 _ (by omega), o1 zk hk, hg zk hk], o2⟩
theorem c_crooked (hG : GW N P) (hc : q_cn K B s i 5) : f_X10_isCrooked N K P 55 = some (bI (q_crk B s i)) := by
  obtain ⟨v0, _, u0⟩ := hc 0 (by decide)
  obtain ⟨v1, _, u1⟩ := hc 1 (by decide)
  obtain ⟨v2, _, u2⟩ := hc 2 (by decide)
  obtain ⟨v3, _, u3⟩ := hc 3 (by decide)
  have i0 : p_ib N 59 (nI 0) = true := n_ib (gn_59 hG) (by decide) (by decide)
  have i1 : p_ib N 59 (nI 1) = true := n_ib (gn_59 hG) (by decide) (by decide)
  have i2 : p_ib N 59 (nI 2) = true := n_ib (gn_59 hG) (by decide) (by decide)
  have i3 : p_ib N 59 (nI 3) = true := n_ib (gn_59 hG) (by decide) (by decide)
  have k0 : (nI 0).toNatClampNeg = 0 := by decide
  have k1 : (nI 1).toNatClampNeg = 1 := by decide
  have k2 : (nI 2).toNatClampNeg = 2 := by decide
  have k3 : (nI 3).toNatClampNeg = 3 := by decide
  have e : ∀ a b, a ≤ 9999 → b ≤ 9999 → (if nI a = nI b then nI 1 else nI 0) = bI (decide (a = b)) := fun a b ha hb => by
    by_cases h : a = b
    · rw [if_pos (by rw [h]), decide_eq_true h]; rfl
    · rw [if_neg (fun h2 => h ((nI_eq (by omega) (by omega)).mp h2)), decide_eq_false h]; rfl
  unfold f_X10_isCrooked q_crk
  simp only [gp_55_1 hG, Option.bind_some, n_ck i0, n_ck i1, n_ck i2, n_ck i3, k0, k1, k2, k3, v0, v1, v2, v3, n_let, e _ _ u0 u2, e _ _ u1 u3]
  cases decide (q_v B s i 0 = q_v B s i 2) <;> cases decide (q_v B s i 1 = q_v B s i 3) <;> rfl
end Take3
