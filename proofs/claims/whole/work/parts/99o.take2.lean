/-! the class adds a row -/
def q_added (N : pN) (P : pR) (K t : pI) (A' : Nat → Int32) (tt wd r : Nat) : Prop := SR N P (q_r68 t A') 1 0 ∧ (∀ x, x ≠ tt → x ≠ tt + 1 → t x = K x) ∧ (∀ k, k ≠ 3 → t tt k = K tt k) ∧ t tt 3 = nI (r + 1) ∧ ∀ j, j < r * wd → t (tt + 1) j = K (tt + 1) j
section Take2
variable {B : Nat → Nat} {s i w : Nat} {N : pN} {P : pR} {K : pI} {A : Nat → Int32} {zn : Nat}
theorem q_cm_1 (g : q_wo B s i = 1) : q_cm B s A i = fun j => if 30 + 7 * nv (A 0) ≤ j ∧ j < 30 + 7 * nv (A 0) + 7 then q_trw B s A i (j - (30 + 7 * nv (A 0))) else if j = 0 then nI (nv (A 0) + 1) else A j := by
  unfold q_cm; rw [g]; rfl
theorem q_cm_2 (g : q_wo B s i = 2) : q_cm B s A i = fun j => if 120 + 8 * nv (A 1) ≤ j ∧ j < 120 + 8 * nv (A 1) + 8 then q_trw B s A i (j - (120 + 8 * nv (A 1))) else if j = 1 then nI (nv (A 1) + 1) else A j := by
  unfold q_cm; rw [g]; rfl
theorem q_cm_3 (g : q_wo B s i = 3) : q_cm B s A i = fun j => if 202 + 2 * nv (A 3) ≤ j ∧ j < 202 + 2 * nv (A 3) + 2 then q_trw B s A i (j - (202 + 2 * nv (A 3))) else if j = 3 then nI (nv (A 3) + 1) else A j := by
  unfold q_cm; rw [g]; rfl
theorem q_cm_4 (g : q_wo B s i = 4) : q_cm B s A i = fun j => if 170 + 4 * nv (A 2) ≤ j ∧ j < 170 + 4 * nv (A 2) + 4 then q_trw B s A i (j - (170 + 4 * nv (A 2))) else if j = 2 then nI (nv (A 2) + 1) else A j := by
  unfold q_cm; rw [g]; rfl
theorem q_minI (a b : Nat) (ha : a ≤ 9999) (hb : b ≤ 9999) : (if nI b < nI a then nI b else nI a) = nI (min a b) := by
  by_cases h : b < a
  · rw [if_pos (nI_lt h (by omega)), Nat.min_eq_right (by omega)]
  · rw [if_neg (nI_nlt (by omega) (by omega)), Nat.min_eq_left (by omega)]
theorem q_maxI (a b : Nat) (ha : a ≤ 9999) (hb : b ≤ 9999) : (if nI a < nI b then nI b else nI a) = nI (max a b) := by
  by_cases h : a < b
  · rw [if_pos (nI_lt h (by omega)), Nat.max_eq_right (by omega)]
  · rw [if_neg (nI_nlt (by omega) (by omega)), Nat.max_eq_left (by omega)]
theorem q_tmb_b {c v : Nat} (h : q_tmb w c v = true) : q_tlo.getD ((w - 1) * 5 + c) 0 ≤ v ∧ v ≤ q_thg.getD ((w - 1) * 5 + c) 0 := by
  unfold q_tmb at h
  rw [Bool.and_eq_true] at h
  exact ⟨of_decide_eq_true h.1, of_decide_eq_true h.2⟩
theorem c_add1 (hG : GW N P) (hS : SR N P (q_r68 K A) 1 0) (hc : q_cn K B s i 5) (g : q_wo B s i = 1) (hck : q_crk B s i = false) (hr : nv (A 0) < 12) (hb : ∀ d, d < 5 → q_tmb 1 d (q_v B s i d) = true) (hn : 600 < zn) : ∃ t, f_X10_addTo zn N K P 55 4 (nI 0) (K 1 11) = some t ∧ q_added N P K t (q_cm B s A i) 4 7 (nv (A 0)) := by
  have hT : TB N P K 4 5 12 7 (nv (A 0)) := (hS.rw.2.1).of (fun j => (by rw [q_r68_n (by decide)] : K 4 j = q_r68 K A 4 j))
  have hT1 : TB N P (p_u K 4 3 (nI (nv (A 0) + 1))) 4 5 12 7 (nv (A 0) + 1) := hT.rows (by omega)
  have hc1 : q_cn (p_u K 4 3 (nI (nv (A 0) + 1))) B s i (q_nn 1) := fun d hd => by rw [p_u_ne (by decide), p_u_ne (by decide)]; exact hc d hd
  obtain ⟨J, j1, j2, j3, j4⟩ := c_addN hG hc1 (Nat.le_refl 1) (by decide) hT1 (by decide) (by decide) (by decide) hn
  generalize hrr : nv (A 0) = r at *
  obtain ⟨v0, _, u0⟩ := hc 0 (by decide)
  obtain ⟨v1, _, u1⟩ := hc 1 (by decide)
  obtain ⟨v2, _, u2⟩ := hc 2 (by decide)
  obtain ⟨v3, _, u3⟩ := hc 3 (by decide)
  have e59 : ∀ k, J 59 k = K 59 k := fun k => by rw [j2 59 (by decide), p_u_ne (by decide)]
  have i0 : p_ib N 59 (nI 0) = true := n_ib (gn_59 hG) (by decide) (by decide)
  have i1 : p_ib N 59 (nI 1) = true := n_ib (gn_59 hG) (by decide) (by decide)
  have i2 : p_ib N 59 (nI 2) = true := n_ib (gn_59 hG) (by decide) (by decide)
  have i3 : p_ib N 59 (nI 3) = true := n_ib (gn_59 hG) (by decide) (by decide)
  have k0 : (nI 0).toNatClampNeg = 0 := by decide
  have k1 : (nI 1).toNatClampNeg = 1 := by decide
  have k2 : (nI 2).toNatClampNeg = 2 := by decide
  have k3 : (nI 3).toNatClampNeg = 3 := by decide
  have hTJ : TB N P J 4 5 12 7 (r + 1) := hT1.of (fun j => by rw [j2 4 (by decide)])
  have hTc : ∀ (X : pI) k v, TB N P X 4 5 12 7 (r + 1) → TB N P (p_u X 5 k v) 4 5 12 7 (r + 1) := fun X k v h => h.cells (by decide)
  have hsz := tb_size hT
  have had := tb_add hT (by omega)
  have hput : ∀ (X : pI) (k : Nat) (v : Int32), TB N P X 4 5 12 7 (r + 1) → k < 7 → f_X8_put N X P 4 (nI r) (nI k) v = some (p_u X 5 (r * 7 + k) v) := fun X k v h hk => tb_put h (by omega) hk
  have hm02 := q_minI _ _ u0 u2
  have hm13 := q_minI _ _ u1 u3
  have hM02 := q_maxI _ _ u0 u2
  have hM13 := q_maxI _ _ u1 u3
  have hxx : ∀ (X : pI) k v j, p_u X 5 k v 59 j = X 59 j := fun X k v j => by rw [p_u_ne (by decide)]
  refine ⟨p_u (p_u (p_u (p_u (p_u (p_u J 5 (r * 7 + 0) (nI (min (q_v B s i 0) (q_v B s i 2)))) 5 (r * 7 + 1) (nI (min (q_v B s i 1) (q_v B s i 3)))) 5 (r * 7 + 2) (nI (max (q_v B s i 0) (q_v B s i 2)))) 5 (r * 7 + 3) (nI (max (q_v B s i 1) (q_v B s i 3)))) 5 (r * 7 + 5) (K 1 11)) 5 (r * 7 + 6) (-1), ?_, ?_⟩
  · unfold f_X10_addTo
    have j1' : p_it (B_X10_addTo_14 N P (nI r) 55 4 (nI 0)) zn (nI 0, p_u K 4 3 (nI (r + 1))) = some J := j1
    simp only [hsz, had, Option.bind_some, j1', if_pos (show nI 0 = 0 from rfl), gp_55_1 hG, n_ck i0, n_ck i1, n_ck i2, n_ck i3, k0, k1, k2, k3, hxx, e59, v0, v1, v2, v3, hm02, hm13, hM02, hM13]
    rw [hput _ 0 _ hTJ (by decide), Option.bind_some]
    simp only [hxx, e59, v0, v1, v2, v3, hm02, hm13, hM02, hM13]
    rw [hput _ 1 _ (hTc _ _ _ hTJ) (by decide), Option.bind_some]
    simp only [hxx, e59, v0, v1, v2, v3, hm02, hm13, hM02, hM13]
    rw [hput _ 2 _ (hTc _ _ _ (hTc _ _ _ hTJ)) (by decide), Option.bind_some]
    simp only [hxx, e59, v0, v1, v2, v3, hm02, hm13, hM02, hM13]
    rw [hput _ 3 _ (hTc _ _ _ (hTc _ _ _ (hTc _ _ _ hTJ))) (by decide), Option.bind_some]
    rw [hput _ 5 _ (hTc _ _ _ (hTc _ _ _ (hTc _ _ _ (hTc _ _ _ hTJ)))) (by decide), Option.bind_some]
    rw [hput _ 6 _ (hTc _ _ _ (hTc _ _ _ (hTc _ _ _ (hTc _ _ _ (hTc _ _ _ hTJ))))) (by decide), Option.bind_some]
  · generalize ht : p_u (p_u (p_u (p_u (p_u (p_u J 5 (r * 7 + 0) (nI (min (q_v B s i 0) (q_v B s i 2)))) 5 (r * 7 + 1) (nI (min (q_v B s i 1) (q_v B s i 3)))) 5 (r * 7 + 2) (nI (max (q_v B s i 0) (q_v B s i 2)))) 5 (r * 7 + 3) (nI (max (q_v B s i 1) (q_v B s i 3)))) 5 (r * 7 + 5) (K 1 11)) 5 (r * 7 + 6) (-1) = t
    have t1 : ∀ x, x ≠ 5 → t x = J x := fun x hx => by rw [← ht, p_u_ne hx, p_u_ne hx, p_u_ne hx, p_u_ne hx, p_u_ne hx, p_u_ne hx]
    have t2 : ∀ j, j < r * 7 → t 5 j = K 5 j := fun j hj => by rw [← ht, p_u_nk (by omega), p_u_nk (by omega), p_u_nk (by omega), p_u_nk (by omega), p_u_nk (by omega), p_u_nk (by omega), j4 j (by omega), p_u_ne (by decide)]
    have hf4 : K 1 11 = A 4 := hS.rf.2.2.1
    have t3 : ∀ k, k < 7 → t 5 (r * 7 + k) = q_trw B s A i k := fun k hk => by
      have g7 : k = 0 ∨ k = 1 ∨ k = 2 ∨ k = 3 ∨ k = 4 ∨ k = 5 ∨ k = 6 := by omega
      unfold q_trw
      rw [if_pos g, ← ht]
      rcases g7 with g7 | g7 | g7 | g7 | g7 | g7 | g7 <;> subst g7
      · rw [p_u_nk (by omega), p_u_nk (by omega), p_u_nk (by omega), p_u_nk (by omega), p_u_nk (by omega), p_u_self]; rfl
      · rw [p_u_nk (by omega), p_u_nk (by omega), p_u_nk (by omega), p_u_nk (by omega), p_u_self]; rfl
      · rw [p_u_nk (by omega), p_u_nk (by omega), p_u_nk (by omega), p_u_self]; rfl
      · rw [p_u_nk (by omega), p_u_nk (by omega), p_u_self]; rfl
      · rw [p_u_nk (by omega), p_u_nk (by omega), p_u_nk (by omega), p_u_nk (by omega), p_u_nk (by omega), p_u_nk (by omega), j3 4 (by decide)]; rfl
      · rw [p_u_nk (by omega), p_u_self, hf4]; rfl
      · rw [p_u_self]; rfl
    have ha : ∀ j, q_cm B s A i j = if 30 + 7 * r ≤ j ∧ j < 30 + 7 * r + 7 then q_trw B s A i (j - (30 + 7 * r)) else if j = 0 then nI (r + 1) else A j := fun j => by rw [q_cm_1 g, hrr]
    have hrow : ∀ k, k < 7 → q_cm B s A i (30 + 7 * r + k) = q_trw B s A i k := fun k hk => by rw [ha, if_pos (by omega), Nat.add_sub_cancel_left]
    have h0 : q_cm B s A i 0 = nI (r + 1) := by rw [ha, if_neg (by omega), if_pos rfl]
    have hel : ∀ j, j ≠ 0 → (j < 30 + 7 * r ∨ 30 + 7 * r + 7 ≤ j) → q_cm B s A i j = A j := fun j x1 x2 => by rw [ha, if_neg (by omega), if_neg x1]
    have tT : TB N P (q_r68 t (q_cm B s A i)) 4 5 12 7 (r + 1) := hTJ.of (fun j => by rw [q_r68_n (by decide), t1 4 (by decide)])
    refine ⟨hS.w_walls ⟨?_, ?_, ?_⟩ (fun zq x1 x2 x3 x4 => by rw [q_r68_n (by omega), q_r68_n (by omega), t1 zq x4, j2 zq x4, p_u_ne x3]) (fun zj x1 x2 x3 => by rw [q_r68_s, q_r68_s, hel zj x2 (by omega)]), fun x x1 x2 => by rw [t1 x x2, j2 x x2, p_u_ne x1], fun k hk => by rw [t1 4 (by decide), j2 4 (by decide), p_u_nk hk], by rw [t1 4 (by decide), j2 4 (by decide), p_u_self], t2⟩
    · show rg (q_cm B s A i 0) 12
      rw [h0]; exact rg.of (by omega) (by decide)
    · show TB N P (q_r68 t (q_cm B s A i)) 4 5 12 7 (nv (q_cm B s A i 0))
      rw [h0, nv_nI (by omega)]; exact tT
    · show ∀ zw, zw < nv (q_cm B s A i 0) → (∀ zk, zk < 7 → t 5 (zw * 7 + zk) = q_cm B s A i (30 + 7 * zw + zk + 0)) ∧ q_wfw (fun zk => q_cm B s A i (30 + 7 * zw + zk + 0))
      rw [h0, nv_nI (by omega)]
      intro zw hw
      have hold := hS.rw.2.2 zw
      by_cases e : zw = r
      · subst e
        refine ⟨fun zk hk => by rw [t3 zk hk, Nat.add_zero, hrow zk hk], ?_⟩
        have q0 := q_tmb_b (hb 0 (by decide))
        have q1 := q_tmb_b (hb 1 (by decide))
        have q2 := q_tmb_b (hb 2 (by decide))
        have q3 := q_tmb_b (hb 3 (by decide))
        have q4 := q_tmb_b (hb 4 (by decide))
        have q0 : q_v B s i 0 ≤ 20 := q0.2
        have q1 : q_v B s i 1 ≤ 20 := q1.2
        have q2 : q_v B s i 2 ≤ 20 := q2.2
        have q3 : q_v B s i 3 ≤ 20 := q3.2
        have q4 : q_v B s i 4 ≤ 4 := q4.2
        have c0 : q_cm B s A i (30 + 7 * zw + 0 + 0) = nI (min (q_v B s i 0) (q_v B s i 2)) := (hrow 0 (by decide)).trans (by unfold q_trw; rw [if_pos g]; rfl)
        have c1 : q_cm B s A i (30 + 7 * zw + 1 + 0) = nI (min (q_v B s i 1) (q_v B s i 3)) := by rw [Nat.add_zero, hrow 1 (by decide)]; unfold q_trw; rw [if_pos g]; rfl
        have c2 : q_cm B s A i (30 + 7 * zw + 2 + 0) = nI (max (q_v B s i 0) (q_v B s i 2)) := by rw [Nat.add_zero, hrow 2 (by decide)]; unfold q_trw; rw [if_pos g]; rfl
        have c3 : q_cm B s A i (30 + 7 * zw + 3 + 0) = nI (max (q_v B s i 1) (q_v B s i 3)) := by rw [Nat.add_zero, hrow 3 (by decide)]; unfold q_trw; rw [if_pos g]; rfl
        have c4 : q_cm B s A i (30 + 7 * zw + 4 + 0) = nI (q_v B s i 4) := by rw [Nat.add_zero, hrow 4 (by decide)]; unfold q_trw; rw [if_pos g]; rfl
        have c5 : q_cm B s A i (30 + 7 * zw + 5 + 0) = A 4 := by rw [Nat.add_zero, hrow 5 (by decide)]; unfold q_trw; rw [if_pos g]; rfl
        have c6 : q_cm B s A i (30 + 7 * zw + 6 + 0) = -1 := by rw [Nat.add_zero, hrow 6 (by decide)]; unfold q_trw; rw [if_pos g]; rfl
        have hor : (q_v B s i 0 = q_v B s i 2 ∧ q_v B s i 1 ≠ q_v B s i 3) ∨ (q_v B s i 0 ≠ q_v B s i 2 ∧ q_v B s i 1 = q_v B s i 3) := by
          unfold q_crk at hck
          by_cases x1 : q_v B s i 0 = q_v B s i 2 <;> by_cases x2 : q_v B s i 1 = q_v B s i 3
          · rw [decide_eq_true x1, decide_eq_true x2] at hck; cases hck
          · exact Or.inl ⟨x1, x2⟩
          · exact Or.inr ⟨x1, x2⟩
          · rw [decide_eq_false x1, decide_eq_false x2] at hck; cases hck
        refine ⟨fun zk hk => ?_, ?_, ?_, ?_, ?_⟩
        · dsimp only
          have g4 : zk = 0 ∨ zk = 1 ∨ zk = 2 ∨ zk = 3 := by omega
          rcases g4 with g4 | g4 | g4 | g4 <;> subst g4
          · rw [c0]; exact rg.of (by omega) (by decide)
          · rw [c1]; exact rg.of (by omega) (by decide)
          · rw [c2]; exact rg.of (by omega) (by decide)
          · rw [c3]; exact rg.of (by omega) (by decide)
        · dsimp only
          rw [c0, c1, c2, c3]
          rcases hor with ⟨x1, x2⟩ | ⟨x1, x2⟩
          · left
            exact ⟨by rw [show min (q_v B s i 0) (q_v B s i 2) = max (q_v B s i 0) (q_v B s i 2) by omega], nI_lt (by omega) (by omega)⟩
          · right
            exact ⟨by rw [show min (q_v B s i 1) (q_v B s i 3) = max (q_v B s i 1) (q_v B s i 3) by omega], nI_lt (by omega) (by omega)⟩
        · dsimp only
          rw [c4]; exact rg.of q4 (by decide)
        · dsimp only
          rw [c5]; exact hS.rf.2.2.2.2.1
        · dsimp only
          rw [c6]; exact Or.inl rfl
      · obtain ⟨o1, o2⟩ := hold (by show zw < nv (A 0); omega)
        have o1 : ∀ zk, zk < 7 → K 5 (zw * 7 + zk) = A (30 + 7 * zw + zk) := o1
        have o2 : q_wfw (fun zk => A (30 + 7 * zw + zk)) := o2
        refine ⟨fun zk hk => by rw [t2 _ (by omega), o1 zk hk, Nat.add_zero, hel _ (by omega) (by omega)], ?_⟩
        have hg : ∀ zk, zk < 7 → q_cm B s A i (30 + 7 * zw + zk + 0) = A (30 + 7 * zw + zk) := fun zk hk => by rw [Nat.add_zero, hel _ (by omega) (by omega)]
        obtain ⟨p1, p2, p3, p4, p5⟩ := o2
        refine ⟨fun zk hk => by dsimp only; rw [hg zk (by omega)]; exact p1 zk hk, ?_, ?_, ?_, ?_⟩
        · dsimp only; rw [hg 0 (by decide), hg 1 (by decide), hg 2 (by decide), hg 3 (by decide)]; exact p2
        · dsimp only; rw [hg 4 (by decide)]; exact p3
        · dsimp only; rw [hg 5 (by decide)]; exact p4
        · dsimp only; rw [hg 6 (by decide)]; exact p5
end Take2
