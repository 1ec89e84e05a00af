/-! law -/
section Law14
variable {N : pN} {P : pR} {I J : pI} {B : Nat → Nat} {s i zk : Nat}
theorem IV.dr (h : IV zk N P I) (e : ∀ zq, zq ≠ 65 → J zq = I zq) (hd : R_dr J) : IV zk N P J := by
  obtain ⟨h1, h2, h3, h4, h5, h6, h7, h8⟩ := h
  have e68 := e 68 (by decide)
  have e44 := e 44 (by decide)
  refine ⟨h1, h2.of (fun zq a b => e zq (by omega)) (fun zj _ => by rw [e68]), h3.of (fun zq a => e zq (by omega)) (fun zj _ => by rw [e68]) (e 69 (by decide)), ?_, ?_, ?_, ?_, hd⟩
  · obtain ⟨b1, b2, b3, ⟨zr, b4⟩, b5⟩ := h4
    refine ⟨?_, by rw [e68, e 21 (by decide)]; exact b2, by rw [e68, e 21 (by decide)]; exact b3, ⟨zr, b4.of (fun zi => by rw [e 29 (by decide)])⟩, fun zw hw => by rw [e (43 - zw) (by omega)]; exact b5 zw hw⟩
    intro zw hw
    have h3 := b1 zw hw
    unfold q_bar at h3 ⊢
    rw [e68, e (43 - zw) (by omega)]
    exact h3
  · unfold R_memo at h5 ⊢
    rw [e68, e44, e 45 (by decide), e 46 (by decide)]
    exact h5
  · unfold R_msig at h6 ⊢
    rw [e68, e 77 (by decide)]
    exact h6
  · unfold R_list q_LS at h7 ⊢
    rw [e68, e44, e 30 (by decide), e 31 (by decide)]
    rcases h7 with g | ⟨zs, zx, zy, g1, g2, g3, g4, g5, g6⟩
    · exact Or.inl g
    · exact Or.inr ⟨zs, zx, zy, g1, g2, g3, g4, g5.of (fun zi => by rw [e 29 (by decide)]), g6⟩
theorem q_lk_t (h : q_lb B s i = none) {t : Nat} (ht : t < q_lk B s i) : q_tbad B s (q_tq B s i t) = none := by
  unfold q_lk at ht
  by_cases c : q_wo B s i = 30
  · rw [if_pos c] at ht
    by_cases e : t = q_lc B s i
    · unfold q_lb at h
      rw [if_pos c] at h
      rw [e]
      cases hb : q_tbad B s (q_tq B s i (q_lc B s i)) with
      | none => rfl
      | some p => rw [hb] at h; cases h
    · exact (q_tgo_t (q_lc_in (by omega))).1
  · rw [if_neg c] at ht; omega
theorem q_test_R {c r : Nat → Int32} (hi : i ≤ s) (hC : q_tcC c B s i) (hM : q_tcM r B s i) (hb : q_tbad B s i = none) : R_test c r := by
  obtain ⟨a1, a2, a3⟩ := hC
  obtain ⟨b1, b2, b3, b4⟩ := hM
  have hab := (q_ab_b (B := B) hi).2
  have hte := (q_te_b (B := B) hab).2.1
  have hte2 := (q_te_b (B := B) hte).2.1
  have hwl := q_wo_lt (B := B) (s := s) (i := q_ab B s i)
  unfold q_tbad at hb
  by_cases hg : 10 ≤ q_wo B s (q_ab B s i) ∧ q_wo B s (q_ab B s i) ≤ 16
  · rw [if_neg (fun h => h hg)] at hb
    refine ⟨a1.trans b1.symm, ?_, q_wo B s (q_ab B s i) - 10, by omega, a2, by rw [b2]; exact congrArg nI (by omega), ?_⟩
    · rw [b1]
      cases q_nt B s i with
      | false => exact Or.inl rfl
      | true => exact Or.inr rfl
    · by_cases h10 : q_wo B s (q_ab B s i) = 10
      · exact Or.inl ⟨by omega, b3 h10⟩
      · rw [if_neg h10] at hb
        cases hsg : q_sgn B s (q_te B s (q_ab B s i)) with
        | false => rw [if_pos hsg] at hb; cases hb
        | true =>
          rw [if_neg (by rw [hsg]; decide)] at hb
          cases hn : q_isn B s (q_te B s (q_te B s (q_ab B s i))) with
          | false => rw [if_pos hn] at hb; cases hb
          | true =>
            refine Or.inr ⟨by omega, (a3 h10).1.trans (b4 h10).1.symm, (a3 h10).2.trans (b4 h10).2.symm, ?_, ?_⟩
            · rw [(b4 h10).1]
              rcases of_decide_eq_true hsg with h | h | h
              · rw [h]; exact Or.inl rfl
              · rw [h]; exact Or.inr (Or.inl rfl)
              · rw [h]; exact Or.inr (Or.inr rfl)
            · rw [(b4 h10).2]
              exact rg.of (q_isn_v hte2 hn).1 (by decide)
  · rw [if_pos hg] at hb; cases hb
end Law14
theorem sp_law {n zk : Nat} (hn : 3000 < n) : Sp_law n (Ivv zk) (Ivv (zk + 1)) := by
  intro N I L P h
  have h : IV zk N P I := h
  have hG := h.gw
  obtain ⟨t1, t2, t3⟩ := h.sr.rt
  have t1 : rg (I 68 8) 500 := t1
  have t3 : ∀ zi, zi < nv (I 68 8) → I 3 zi = I 68 (660 + zi) ∧ rg (I 3 zi) 255 := t3
  have hs := t1.2
  have h8 := t1.1
  generalize hse : nv (I 68 8) = s at *
  have hb : ∀ j, j < s → I 3 j = nI (nv (I 3 j)) ∧ nv (I 3 j) ≤ 255 := fun j hj => (t3 j hj).2
  obtain ⟨l, W, V, o1, o2, hG2, o3, o9, o10, o4, o5, o6, o7⟩ := c_readLaw (B := fun j => nv (I 3 j)) h h8 hs hb (show 600 < n by omega)
  have h2 : IV zk N (p_u P 62 0 (some 2)) I := h.setP (a := 62) hG2 (fun x j hx => by rw [p_u_ne hx]) (Or.inr rfl)
  generalize p_u P 62 0 (some 2) = P2 at *
  have v2 : V 2 = I 2 := o3 2 (by decide) (by decide) (by decide) (by decide) (by decide) (by decide)
  have v68 : V 68 = I 68 := o3 68 (by decide) (by decide) (by decide) (by decide) (by decide) (by decide)
  have hTV : TB N P2 V 2 3 500 1 s := by
    have h9 := h2.sr.rt.2.1
    have e : I 68 (8 + 0) = nI s := h8
    rw [e, nv_nI (by omega)] at h9
    exact h9.of (fun j => by show V 2 j = I 2 j; rw [v2])
  have hcut : f_X8_cut V 2 (nI 0) = some (p_u V 2 3 (nI 0)) := tb_cut hTV (Nat.zero_le s)
  generalize hU : p_u V 2 3 (nI 0) = U at *
  have u1 : ∀ x, x ≠ 2 → U x = V x := fun x hx => by rw [← hU, p_u_ne hx]
  obtain ⟨l2, W2, M, m1, m2, m3, m8, m9, m10, m4, m5⟩ := m_law (J := U) (B := fun j => nv (I 3 j)) (zn := n) hG2 (by rw [u1 68 (by decide), v68]; exact h8) hs (fun j hj => ⟨by rw [u1 68 (by decide), v68, ← (t3 j hj).1]; exact (hb j hj).1, (hb j hj).2⟩) (by omega)
  obtain ⟨e1, e2⟩ := q_lout_u o1 m1
  subst e1 e2
  have m68 : U 68 = I 68 := by rw [u1 68 (by decide), v68]
  rw [m68] at m4 m5
  -- the fault is told, the tape is empty
  generalize hV1 : (fun x => if x = 1 then V 1 else I x : pI) = V1
  have w1 : V1 1 = V 1 := by rw [← hV1]; exact if_pos rfl
  have wn : ∀ x, x ≠ 1 → V1 x = I x := fun x hx => by rw [← hV1]; exact if_neg hx
  have hIr : SR N P2 (q_r68 I (I 68)) 1 0 := h2.sr.of (fun zq a b => by rw [q_r68_n (by omega)]) (fun zk _ => by rw [q_r68_s])
  have hS1 : SR N P2 (q_r68 V1 (q_T1 W.1 W.2 (I 68))) 1 0 := q_SRtell hIr (fun x x1 x2 => wn x (by omega)) (by rw [w1]; exact o9) (by rw [w1]; exact o10) (fun k k1 k2 => by rw [w1]; exact o4 k k1 k2)
  have hT1 : TB N P2 V1 2 3 500 1 s := hTV.of (fun j => by rw [wn 2 (by decide), v2])
  have hT0 : TB N P2 (p_u V1 2 3 (nI 0)) 2 3 500 1 0 := hT1.rows (Nat.zero_le _)
  have hS2 : SR N P2 (q_r68 (p_u V1 2 3 (nI 0)) (q_T3 W.1 W.2 (I 68))) 1 0 := by
    refine hS1.w_tape ⟨?_, ?_, ?_⟩ (fun zq a b c d => by rw [q_r68_n (by omega), q_r68_n (by omega), p_u_ne c]) (fun zj a b c => by rw [q_r68_s, q_r68_s]; unfold q_T3; rw [if_neg b])
    · show rg (q_T3 W.1 W.2 (I 68) 8) 500
      exact rg.of (Nat.zero_le _) (by decide)
    · show TB N P2 (q_r68 (p_u V1 2 3 (nI 0)) (q_T3 W.1 W.2 (I 68))) 2 3 500 1 (nv (nI 0))
      exact hT0.of (fun j => by rw [q_r68_n (by decide)])
    · intro zi hi
      have hi : zi < nv (nI 0) := hi
      rw [nv_nI (by decide)] at hi
      omega
  have hMU : ∀ x, x < 20 → M x = U x := fun x hx => m3 x (by omega) (by omega) (by omega) (by omega)
  have hM2 : M 2 = p_u V1 2 3 (nI 0) 2 := by
    rw [hMU 2 (by decide), ← hU]
    funext j
    by_cases e : j = 3
    · rw [e, p_u_self, p_u_self]
    · rw [p_u_nk e, p_u_nk e, v2, wn 2 (by decide)]
  have hMt : ∀ zq, 1 ≤ zq → zq < 20 → zq ≠ 16 → zq ≠ 17 → M zq = q_r68 (p_u V1 2 3 (nI 0)) (q_T3 W.1 W.2 (I 68)) zq := fun zq a b c d => by
    rw [q_r68_n (by omega)]
    by_cases e : zq = 2
    · rw [e]; exact hM2
    · rw [p_u_ne e, hMU zq b, u1 zq e]
      by_cases e1 : zq = 1
      · rw [e1, w1]
      · rw [wn zq e1, o3 zq (by omega) c d (by omega) (by omega) (by omega)]
  have hT3n : ∀ zj, zj ≠ 8 → zj ≠ 9 → zj ≠ 10 → q_T3 W.1 W.2 (I 68) zj = I 68 zj := fun zj a b c => by
    unfold q_T3 q_T1
    rw [if_neg a, if_neg b, if_neg c]
  have hT38 : q_T3 W.1 W.2 (I 68) 8 = nI 0 := rfl
  have hT39 : q_T3 W.1 W.2 (I 68) 9 = W.1 := rfl
  have hT310 : q_T3 W.1 W.2 (I 68) 10 = W.2 := rfl
  have h68 : ∀ zj, zj ≠ 6 → zj < 340 ∨ 660 ≤ zj → M 68 zj = q_T3 W.1 W.2 (I 68) zj := fun zj a b => by
    by_cases e8 : zj = 8
    · rw [e8, hT38, m8]
    · by_cases e9 : zj = 9
      · rw [e9, hT39, m9]
      · by_cases e10 : zj = 10
        · rw [e10, hT310, m10]
        · rw [hT3n zj e8 e9 e10]
          by_cases hF : W.1 = nI 0
          · exact (m5 hF).2.1 zj a e8 e9 e10 b
          · exact m4 hF zj e8 e9 e10
  have hSM : SR N P2 M 1 0 := by
    by_cases hF : W.1 = nI 0
    · obtain ⟨g1, g2, g3⟩ := o7 hF
      obtain ⟨n1, n2, n3⟩ := m5 hF
      have hll : ∀ k, k < l → q_lb (fun j => nv (I 3 j)) s (q_lls (fun j => nv (I 3 j)) s k).1 = none := o1.1
      refine hS2.w_lawt ⟨?_, ?_, ?_⟩ hMt (fun zj a b c => by rw [q_r68_s]; exact h68 zj b (by omega))
      · show rg (M 68 6) 16
        rw [n1]; exact rg.of g1 (by decide)
      · show TB N P2 M 16 17 16 18 (nv (M 68 6))
        rw [n1, nv_nI (by omega)]
        exact g2.of (fun j => by rw [hMU 16 (by decide), u1 16 (by decide)])
      · intro zl hl
        have hl : zl < nv (M 68 6) := hl
        rw [n1, nv_nI (by omega)] at hl
        obtain ⟨g4, c0, c1, c2⟩ := g3 zl hl
        obtain ⟨r0, r17, r2⟩ := n3 zl hl
        dsimp only at c0 c1 r0 r17
        have hM17 : ∀ j, M 17 j = V 17 j := fun j => by rw [hMU 17 (by decide), u1 17 (by decide)]
        have hpos := q_lls_b (fun k hk => hll k (by omega) : ∀ k, k < zl → q_lb (fun j => nv (I 3 j)) s (q_lls (fun j => nv (I 3 j)) s k).1 = none)
        have hv := (q_lv_n (q_lb_v (hll zl hl))).1
        refine ⟨?_, ?_, ?_, fun zt ht => ?_⟩
        · show rg (M 68 (340 + 20 * zl + 0)) 4
          rw [r0]; exact rg.of g4 (by decide)
        · show M 17 (zl * 18 + 1) = M 68 (340 + 20 * zl + 0)
          rw [r0, hM17]; exact c1
        · show (M 17 (zl * 18 + 0) = nI 1 ∧ M 68 (340 + 20 * zl + 17) = nI 20) ∨ (M 17 (zl * 18 + 0) = nI 0 ∧ M 68 (340 + 20 * zl + 17) = nI 21)
          rw [r17, hM17, c0]
          rcases hv with hv | hv
          · rw [hv]; exact Or.inl ⟨rfl, rfl⟩
          · rw [hv]; exact Or.inr ⟨rfl, rfl⟩
        · have ht : zt < nv (M 68 (340 + 20 * zl + 0)) := ht
          rw [r0, nv_nI (by omega)] at ht
          have hC := c2 zt ht
          have hR := r2 zt ht
          have := q_test_R (q_tq_b (B := fun j => nv (I 3 j)) hpos.2 zt).2 hC hR (q_lk_t (hll zl hl) ht)
          have eC : (fun zk => M (1 + 16) (zl * 18 + (2 + 4 * zt + zk))) = fun k => V 17 (zl * 18 + (2 + 4 * zt + k)) := by
            funext zk
            exact hM17 _
          have eR : (fun zk => M 68 (340 + 20 * zl + (1 + 4 * zt + zk) + 0)) = fun k => M 68 (340 + 20 * zl + (1 + 4 * zt + k)) := rfl
          rw [eC, eR]
          exact this
    · obtain ⟨g1, g2⟩ := o6 hF
      refine hS2.of (fun zq a b => ?_) (fun zj hj => ?_)
      · by_cases e16 : zq = 16
        · rw [e16, hMU 16 (by decide), u1 16 (by decide), g1, q_r68_n (by decide), p_u_ne (by decide), wn 16 (by decide)]
        · by_cases e17 : zq = 17
          · rw [e17, hMU 17 (by decide), u1 17 (by decide), g2, q_r68_n (by decide), p_u_ne (by decide), wn 17 (by decide)]
          · exact hMt zq (by omega) (by omega) e16 e17
      · rw [q_r68_s]
        show M 68 zj = q_T3 W.1 W.2 (I 68) zj
        by_cases e : zj ≠ 6 ∧ (zj < 340 ∨ 660 ≤ zj)
        · exact h68 zj e.1 e.2
        · rw [hT3n zj (by omega) (by omega) (by omega)]
          exact m4 hF zj (by omega) (by omega) (by omega)
  have hD : IV zk N P2 (fun x => if x = 65 then V 65 else I x) := h2.dr (fun zq hq => if_neg hq) (o5.of (if_pos rfl))
  refine ⟨(if W.1 = nI 0 then nI l else -1, U, P2), (if W.1 = nI 0 then nI l else -1, M), ?_, m2, rfl, ?_⟩
  · unfold f_X11_law
    simp only [gp_0_7 hG, gp_0_0 hG, Option.bind_some, o2, gp_0_0 hG2, gp_1_0 hG2, hcut]
  · show IV (zk + 1) N P2 M
    refine IV.up (hD.stay hSM (fun zq a b => ?_) (fun zj hj => ?_))
    · rw [m3 zq (by omega) (by omega) (by omega) (by omega), u1 zq (by omega)]
      by_cases e : zq = 65
      · rw [e]; exact (if_pos rfl).symm
      · rw [if_neg e, o3 zq (by omega) (by omega) (by omega) (by omega) e (by omega)]
    · rw [if_neg (show ¬ 68 = 65 by decide)]
      unfold q_tw at hj
      rw [h68 zj (by omega) (by omega), hT3n zj (by omega) (by omega) (by omega)]
