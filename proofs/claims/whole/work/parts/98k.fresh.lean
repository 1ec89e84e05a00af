/-! the town changes: what both do then -/
def q_r68 (J : pI) (T : Nat → Int32) : pI := fun q => if q = 68 then T else J q
theorem q_r68_s {J : pI} {T : Nat → Int32} : q_r68 J T 68 = T := if_pos rfl
theorem q_r68_n {J : pI} {T : Nat → Int32} {zq : Nat} (h : zq ≠ 68) : q_r68 J T zq = J zq := if_neg h
theorem p_u_68 {I K : pI} {zj : Nat} {zv : Int32} (h : K 68 = I 68) : p_u K 68 zj zv 68 = p_u I 68 zj zv 68 := by
  funext x
  unfold p_u
  rw [if_pos rfl, if_pos rfl, h]
theorem n_ckt {β : Type} {x : Option β} : p_ck true x = x := n_ck rfl
theorem n_11 : (nI 1 = 1) = True := eq_true rfl
section Fresh
variable {N : pN} {P : pR} {I J K : pI} {zk : Nat} {T : Nat → Int32}
theorem m_forgets (hG : GW N P) {zn : Nat} (hn : 3000 < zn) : ∃ M, f_X12_forgets zn N I P 67 = some M ∧ (∀ zq, zq ≠ 77 → M zq = I zq) ∧ ∀ zj, zj < 2646 → M 77 zj = -1 := by
  have hloop := p_loopI (B := B_X12_forgets_2 N P 67) (zJ := fun zi (zs : Int32 × pI) => zs.1 = nI zi ∧ (∀ zq, zq ≠ 77 → zs.2 zq = I zq) ∧ ∀ zj, zj < zi → zs.2 77 zj = -1) (zE := fun (M : pI) => (∀ zq, zq ≠ 77 → M zq = I zq) ∧ ∀ zj, zj < 2646 → M 77 zj = -1) (zm := 2646) (zn := zn) (by omega) ?_ ?_ (nI 0, I) ⟨rfl, fun _ _ => rfl, fun zj hj => absurd hj (Nat.not_lt_zero zj)⟩
  · obtain ⟨M, k1, k2⟩ := hloop
    refine ⟨M, ?_, k2⟩
    unfold f_X12_forgets
    rw [k1, Option.bind_some]
  · rintro zi hi ⟨zs, J⟩ ⟨e1, e2, e3⟩
    dsimp only at e1 e2 e3
    subst e1
    left
    have hc : ¬ nI 2646 ≤ nI zi := nI_ge hi (by decide)
    have hib : p_ib N 77 (nI zi) = true := n_ib (gn_77 hG) hi (by decide)
    refine ⟨(nI (zi + 1), p_u J 77 zi (-1)), ⟨rfl, ?_, ?_⟩, fun zrec => ?_⟩
    · intro zq a
      dsimp only
      rw [p_u_ne a, e2 zq a]
    · intro zj hj
      dsimp only
      by_cases hz : zj = zi
      · rw [hz, p_u_self]
      · rw [p_u_nk hz, e3 zj (by omega)]
    · unfold B_X12_forgets_2
      dsimp only
      rw [if_neg hc, gp_67_20 hG, Option.bind_some, n_ck hib, n_let, nI_clamp (by omega), nI_add]
  · rintro ⟨zs, J⟩ ⟨e1, e2, e3⟩
    dsimp only at e1 e2 e3
    subst e1
    refine ⟨J, ⟨e2, e3⟩, fun zrec => ?_⟩
    unfold B_X12_forgets_2
    dsimp only
    rw [if_pos (by decide)]
theorem c_wst_cg (hG : GW N P) (h1 : K 1 = J 1) (h4 : K 4 = J 4) (h5 : K 5 = J 5) (x : Int32) : f_X7_wallStands N K P 1 x = f_X7_wallStands N J P 1 x := by
  unfold f_X7_wallStands f_X8_has f_X8_get f_X7_isKnown
  simp only [gp_1_1 hG, gp_4_2 hG, Option.bind_some, h1, h4, h5]
theorem c_wst (hG : GW N P) (hS : SR N P I 1 0) {zw : Nat} (hw : zw < 100) : f_X7_wallStands N I P 1 (nI zw) = some (bI (q_seeW (I 68) zw)) := by
  have r0 : rg (I 68 0) 12 := hS.rw.1
  have t0 : TB N P I 4 5 12 7 (nv (I 68 0)) := hS.rw.2.1
  have h12 := r0.2
  unfold f_X7_wallStands q_seeW
  by_cases hl : zw < nv (I 68 0)
  · have hc := hS.rw.2.2 zw hl
    have e5 : I 5 (zw * 7 + 5) = q_w (I 68) zw 5 := hc.1 5 (by decide)
    have e6 : I 5 (zw * 7 + 6) = q_w (I 68) zw 6 := hc.1 6 (by decide)
    have hw6 : q_w (I 68) zw 6 = -1 ∨ rg (q_w (I 68) zw 6) 999 := hc.2.2.2.2.2
    rw [decide_eq_true hl, Bool.true_and]
    simp only [gp_1_1 hG, Option.bind_some, tb_has t0 hl, n_10, if_false, tb_get t0 hl (show 5 < 7 by decide), tb_get t0 hl (show 6 < 7 by decide), e5, e6, c_isKnown hS.rf hw6, bI_if]
    cases q_there (I 68) (q_w (I 68) zw 5) (q_w (I 68) zw 6) <;> rfl
  · have hx : nI zw < 0 ∨ nI (nv (I 68 0)) ≤ nI zw := Or.inr (nI_le (by omega) (by omega))
    rw [decide_eq_false hl, Bool.false_and]
    simp only [gp_1_1 hG, Option.bind_some, tb_has_n t0 hx, n_00, if_true]
    rfl
theorem c_getpu {t c b k : Nat} {v x y : Int32} (ht : P t 2 = some c) (h1 : t ≠ b) (h2 : c ≠ b) : f_X8_get N (p_u K b k v) P t x y = f_X8_get N K P t x y := by
  unfold f_X8_get
  rw [ht]
  simp only [p_u_ne h1, Option.bind_some, p_u_ne h2]
theorem c_barrier (hG : GW N P) (hS : SR N P (q_r68 J T) 1 0) (hK : ∀ zq, zq < 20 → K zq = J zq) {zw : Nat} (hw : zw < 12) (e0 : K (43 - zw) 0 = nI zw) : ∃ K2, f_X0_build N K P (43 - zw) 1 = some K2 ∧ (∀ zq, zq ≠ 43 - zw → K2 zq = K zq) ∧ K2 (43 - zw) 0 = nI zw ∧ K2 (43 - zw) 2 = bI (q_seeW T zw) ∧ (q_seeW T zw = true → q_bar K2 T zw (43 - zw)) := by
  have hws : f_X7_wallStands N K P 1 (nI zw) = some (bI (q_seeW T zw)) := by
    rw [c_wst_cg hG (J := q_r68 J T) ((hK 1 (by decide)).trans (q_r68_n (by decide)).symm) ((hK 4 (by decide)).trans (q_r68_n (by decide)).symm) ((hK 5 (by decide)).trans (q_r68_n (by decide)).symm), c_wst hG hS (by omega), q_r68_s]
  have hb1 : 32 ≤ 43 - zw := by omega
  generalize 43 - zw = b at e0 hb1
  cases hs : q_seeW T zw with
  | false =>
    rw [hs] at hws
    refine ⟨p_u K b 2 (bI false), ?_, fun zq h => p_u_ne h, by rw [p_u_nk (by decide)]; exact e0, p_u_self, fun h => by cases h⟩
    unfold f_X0_build
    simp only [e0, hws, Option.bind_some, n_ck (bI_ck _), n_let, p_u_self, bI_iff]
  | true =>
    have hl := q_see_lt hs
    have r0 : rg (T 0) 12 := hS.rw.1
    have t0 : TB N P (q_r68 J T) 4 5 12 7 (nv (T 0)) := hS.rw.2.1
    have t0K : TB N P K 4 5 12 7 (nv (T 0)) := t0.of (fun zi => by rw [hK 4 (by decide), q_r68_n (by decide)])
    have u0 : TB N P (q_r68 J T) 12 13 5 2 5 := hS.ru.1
    have u0K : TB N P K 12 13 5 2 5 := u0.of (fun zi => by rw [hK 12 (by decide), q_r68_n (by decide)])
    have hcw : (∀ zk, zk < 7 → K 5 (zw * 7 + zk) = q_w T zw zk) ∧ q_wfw (fun zk => q_w T zw zk) := by
      have h9 := hS.rw.2.2 zw hl
      exact ⟨fun zj hj => by rw [hK 5 (by decide)]; exact h9.1 zj hj, h9.2⟩
    have r4 : rg (q_w T zw 4) 4 := hcw.2.2.2.1
    have hcu : K 13 (nv (q_w T zw 4) * 2 + 0) = q_bck T zw ∧ K 13 (nv (q_w T zw 4) * 2 + 1) = q_thr T zw := by
      have h9 := hS.ru.2 (nv (q_w T zw 4)) (by have := r4.2; omega)
      rw [hK 13 (by decide)]
      exact ⟨h9.1, h9.2.1⟩
    have gw : ∀ zj, zj < 7 → f_X8_get N K P 4 (nI zw) (nI zj) = some (q_w T zw zj) := fun zj hj => by
      rw [tb_get t0K hl hj, hcw.1 zj hj]
    have gu : ∀ zj, zj < 2 → f_X8_get N K P 12 (q_w T zw 4) (nI zj) = some (K 13 (nv (q_w T zw 4) * 2 + zj)) := fun zj hj => by
      have h4 := r4.2
      rw [r4.1, nv_nI (zk := nv (q_w T zw 4)) (by omega), tb_get u0K (by omega) hj]
    have gu0 := gu 0 (by decide)
    have gu1 := gu 1 (by decide)
    rw [hcu.1] at gu0
    rw [hcu.2] at gu1
    have p4 : ∀ (X : pI) k v x y, f_X8_get N (p_u X b k v) P 4 x y = f_X8_get N X P 4 x y := fun X k v x y => c_getpu (gp_4_2 hG) (by omega) (by omega)
    have p12 : ∀ (X : pI) k v x y, f_X8_get N (p_u X b k v) P 12 x y = f_X8_get N X P 12 x y := fun X k v x y => c_getpu (gp_12_2 hG) (by omega) (by omega)
    have h02 : ¬ bI true = 0 := by decide
    rw [hs] at hws
    cases hu : q_up T zw with
    | false =>
      have hu2 : ¬ q_w T zw 0 = q_w T zw 2 := by unfold q_up at hu; exact of_decide_eq_false hu
      refine ⟨p_u (p_u (p_u (p_u (p_u (p_u (p_u K b 2 (bI true)) b 3 (nI 0)) b 4 (q_w T zw 1)) b 5 (q_w T zw 0)) b 6 (q_w T zw 2)) b 7 (q_bck T zw)) b 8 (q_thr T zw), ?_, fun zq h => by simp only [p_u_ne h], ?_, ?_, fun _ => ?_⟩
      · unfold f_X0_build
        simp only [e0, hws, Option.bind_some, n_ck (bI_ck _), n_let, p_u_self, if_neg h02, gp_1_1 hG, gp_1_5 hG, p4, p12, p_u_nk (show (0 : Nat) ≠ 2 by decide), p_u_nk (show (0 : Nat) ≠ 3 by decide), p_u_nk (show (0 : Nat) ≠ 4 by decide), p_u_nk (show (0 : Nat) ≠ 5 by decide), p_u_nk (show (0 : Nat) ≠ 6 by decide), p_u_nk (show (3 : Nat) ≠ 4 by decide), p_u_nk (show (3 : Nat) ≠ 5 by decide), gw 0 (by decide), gw 1 (by decide), gw 2 (by decide), gw 4 (by decide), if_neg hu2, n_00, true_or, decide_true, n_ckt, if_true, gu0, gu1]
      · rw [p_u_nk (by decide), p_u_nk (by decide), p_u_nk (by decide), p_u_nk (by decide), p_u_nk (by decide), p_u_nk (by decide), p_u_nk (by decide), e0]
      · rw [p_u_nk (by decide), p_u_nk (by decide), p_u_nk (by decide), p_u_nk (by decide), p_u_nk (by decide), p_u_nk (by decide), p_u_self]
      · unfold q_bar
        simp only [hu, Bool.false_eq_true, if_false, p_u_self, p_u_nk (show (0 : Nat) ≠ 2 by decide), p_u_nk (show (0 : Nat) ≠ 3 by decide), p_u_nk (show (0 : Nat) ≠ 4 by decide), p_u_nk (show (0 : Nat) ≠ 5 by decide), p_u_nk (show (0 : Nat) ≠ 6 by decide), p_u_nk (show (0 : Nat) ≠ 7 by decide), p_u_nk (show (0 : Nat) ≠ 8 by decide), p_u_nk (show (3 : Nat) ≠ 4 by decide), p_u_nk (show (3 : Nat) ≠ 5 by decide), p_u_nk (show (3 : Nat) ≠ 6 by decide), p_u_nk (show (3 : Nat) ≠ 7 by decide), p_u_nk (show (3 : Nat) ≠ 8 by decide), p_u_nk (show (4 : Nat) ≠ 5 by decide), p_u_nk (show (4 : Nat) ≠ 6 by decide), p_u_nk (show (4 : Nat) ≠ 7 by decide), p_u_nk (show (4 : Nat) ≠ 8 by decide), p_u_nk (show (5 : Nat) ≠ 6 by decide), p_u_nk (show (5 : Nat) ≠ 7 by decide), p_u_nk (show (5 : Nat) ≠ 8 by decide), p_u_nk (show (6 : Nat) ≠ 7 by decide), p_u_nk (show (6 : Nat) ≠ 8 by decide), p_u_nk (show (7 : Nat) ≠ 8 by decide), e0]
        exact ⟨trivial, rfl, trivial, trivial, trivial, trivial, trivial⟩
    | true =>
      have hu2 : q_w T zw 0 = q_w T zw 2 := by unfold q_up at hu; exact of_decide_eq_true hu
      refine ⟨p_u (p_u (p_u (p_u (p_u (p_u (p_u K b 2 (bI true)) b 3 (nI 1)) b 4 (q_w T zw 0)) b 5 (q_w T zw 1)) b 6 (q_w T zw 3)) b 7 (q_bck T zw)) b 8 (q_thr T zw), ?_, fun zq h => by simp only [p_u_ne h], ?_, ?_, fun _ => ?_⟩
      · unfold f_X0_build
        simp only [e0, hws, Option.bind_some, n_ck (bI_ck _), n_let, p_u_self, if_neg h02, gp_1_1 hG, gp_1_5 hG, p4, p12, p_u_nk (show (0 : Nat) ≠ 2 by decide), p_u_nk (show (0 : Nat) ≠ 3 by decide), p_u_nk (show (0 : Nat) ≠ 4 by decide), p_u_nk (show (0 : Nat) ≠ 5 by decide), p_u_nk (show (0 : Nat) ≠ 6 by decide), p_u_nk (show (3 : Nat) ≠ 4 by decide), p_u_nk (show (3 : Nat) ≠ 5 by decide), gw 0 (by decide), gw 1 (by decide), gw 2 (by decide), gw 3 (by decide), gw 4 (by decide), if_pos hu2, n_10, n_11, or_true, decide_true, n_ckt, if_false, gu0, gu1]
      · rw [p_u_nk (by decide), p_u_nk (by decide), p_u_nk (by decide), p_u_nk (by decide), p_u_nk (by decide), p_u_nk (by decide), p_u_nk (by decide), e0]
      · rw [p_u_nk (by decide), p_u_nk (by decide), p_u_nk (by decide), p_u_nk (by decide), p_u_nk (by decide), p_u_nk (by decide), p_u_self]
      · unfold q_bar
        simp only [hu, if_true, p_u_self, p_u_nk (show (0 : Nat) ≠ 2 by decide), p_u_nk (show (0 : Nat) ≠ 3 by decide), p_u_nk (show (0 : Nat) ≠ 4 by decide), p_u_nk (show (0 : Nat) ≠ 5 by decide), p_u_nk (show (0 : Nat) ≠ 6 by decide), p_u_nk (show (0 : Nat) ≠ 7 by decide), p_u_nk (show (0 : Nat) ≠ 8 by decide), p_u_nk (show (3 : Nat) ≠ 4 by decide), p_u_nk (show (3 : Nat) ≠ 5 by decide), p_u_nk (show (3 : Nat) ≠ 6 by decide), p_u_nk (show (3 : Nat) ≠ 7 by decide), p_u_nk (show (3 : Nat) ≠ 8 by decide), p_u_nk (show (4 : Nat) ≠ 5 by decide), p_u_nk (show (4 : Nat) ≠ 6 by decide), p_u_nk (show (4 : Nat) ≠ 7 by decide), p_u_nk (show (4 : Nat) ≠ 8 by decide), p_u_nk (show (5 : Nat) ≠ 6 by decide), p_u_nk (show (5 : Nat) ≠ 7 by decide), p_u_nk (show (5 : Nat) ≠ 8 by decide), p_u_nk (show (6 : Nat) ≠ 7 by decide), p_u_nk (show (6 : Nat) ≠ 8 by decide), p_u_nk (show (7 : Nat) ≠ 8 by decide), e0]
        exact ⟨trivial, rfl, trivial, trivial, trivial, trivial, trivial⟩
theorem c_build (hG : GW N P) (hS : SR N P (q_r68 J T) 1 0) (hnum : ∀ zw, zw < 12 → J (43 - zw) 0 = nI zw) {zn : Nat} (hn : 16 < zn) : ∃ K, f_X2_build zn N J P 21 1 = some K ∧ (∀ zq, zq ≠ 21 → (zq < 32 ∨ 43 < zq) → K zq = J zq) ∧ K 21 10 = T 11 ∧ K 21 11 = T 12 ∧ (∀ zj, zj ≠ 10 → zj ≠ 11 → K 21 zj = J 21 zj) ∧ q_bars K T ∧ ∀ zw, zw < 12 → K (43 - zw) 0 = nI zw := by
  have hset : ∀ (X : pI) (zw : Nat), X 14 = J 14 → X 15 = J 15 → zw < 7 → f_X7_setting N X P 1 (nI zw) = some (T (11 + zw)) := fun X zw h1 h2 h3 => by
    have t1 : TB N P (q_r68 J T) 14 15 7 1 7 := hS.rg.1
    have t2 : TB N P X 14 15 7 1 7 := t1.of (fun zi => by rw [h1, q_r68_n (by decide)])
    have c1 : J 15 (zw * 1 + 0) = T (11 + zw) := (hS.rg.2.1 zw h3).1
    unfold f_X7_setting
    rw [gp_1_6 hG, Option.bind_some, tb_get t2 h3 (show 0 < 1 by decide), Option.bind_some, h2, c1]
  have hloop := p_loopI (B := B_X2_build_23 N P 1) (zJ := fun zi (zs : (Option Nat) × pI) => zs.1 = c_at zi ∧ (∀ zq, (zq < 32 ∨ 43 < zq) → zs.2 zq = p_u (p_u J 21 10 (T 11)) 21 11 (T 12) zq) ∧ (∀ zw, zw < 12 → zs.2 (43 - zw) 0 = nI zw) ∧ ∀ zw, zw < zi → zs.2 (43 - zw) 2 = bI (q_seeW T zw) ∧ (q_seeW T zw = true → q_bar zs.2 T zw (43 - zw))) (zE := fun (K : pI) => (∀ zq, (zq < 32 ∨ 43 < zq) → K zq = p_u (p_u J 21 10 (T 11)) 21 11 (T 12) zq) ∧ (∀ zw, zw < 12 → K (43 - zw) 0 = nI zw) ∧ ∀ zw, zw < 12 → K (43 - zw) 2 = bI (q_seeW T zw) ∧ (q_seeW T zw = true → q_bar K T zw (43 - zw))) (zm := 12) (zn := zn) (by omega) ?_ ?_ (P 21 0, p_u (p_u J 21 10 (T 11)) 21 11 (T 12)) ⟨gp_21_0 hG, fun _ _ => rfl, fun zw hw => by dsimp only; rw [p_u_ne (by omega), p_u_ne (by omega)]; exact hnum zw hw, fun zw hw => absurd hw (Nat.not_lt_zero zw)⟩
  · obtain ⟨K, k1, k2, k3, k4⟩ := hloop
    refine ⟨K, ?_, ?_, ?_, ?_, ?_, ?_, k3⟩
    · unfold f_X2_build
      rw [hset J 0 rfl rfl (by decide), Option.bind_some, n_let, hset (p_u J 21 10 (T (11 + 0))) 1 (p_u_ne (by decide)) (p_u_ne (by decide)) (by decide), Option.bind_some, n_let]
      show Option.bind (p_it (B_X2_build_23 N P 1) zn (P 21 0, p_u (p_u J 21 10 (T 11)) 21 11 (T 12))) _ = _
      rw [k1, Option.bind_some]
    · intro zq a b
      rw [k2 zq b, p_u_ne a, p_u_ne a]
    · rw [k2 21 (by decide), p_u_nk (by decide), p_u_self]
    · rw [k2 21 (by decide), p_u_self]
    · intro zj a b
      rw [k2 21 (by decide), p_u_nk b, p_u_nk a]
    · intro zw hw
      refine ⟨(k4 zw hw).1, fun hs => ⟨(k4 zw hw).2 hs, ?_, ?_⟩⟩
      · have r4 : rg (q_w T zw 4) 4 := (hS.rw.2.2 zw (q_see_lt hs)).2.2.2.1
        exact (hS.ru.2 (nv (q_w T zw 4)) (by have := r4.2; omega)).2.2.2
      · have r4 : rg (q_w T zw 4) 4 := (hS.rw.2.2 zw (q_see_lt hs)).2.2.2.1
        exact (hS.ru.2 (nv (q_w T zw 4)) (by have := r4.2; omega)).2.2.1
  · rintro zi hi ⟨zr, X⟩ ⟨e1, e2, e3, e4⟩
    dsimp only at e1 e2 e3 e4
    have ecs : zr = some (43 - zi) := by rw [e1]; unfold c_at; rw [if_pos hi]
    subst ecs
    left
    obtain ⟨X2, b1, b2, b3, b4, b5⟩ := c_barrier hG hS (K := X) (fun zq hq => by rw [e2 zq (by omega), p_u_ne (by omega), p_u_ne (by omega)]) hi (e3 zi hi)
    have hnx : P (43 - zi) 1 = c_at (zi + 1) := c_next hG hi
    refine ⟨(c_at (zi + 1), X2), ⟨rfl, ?_, ?_, ?_⟩, fun zrec => ?_⟩
    · intro zq a
      dsimp only
      rw [b2 zq (by omega), e2 zq a]
    · intro zw hw
      dsimp only
      by_cases hz : zw = zi
      · rw [hz, b3]
      · rw [b2 _ (by omega), e3 zw hw]
    · intro zw hw
      dsimp only
      by_cases hz : zw = zi
      · rw [hz]; exact ⟨b4, b5⟩
      · have h9 := e4 zw (by omega)
        refine ⟨by rw [b2 _ (by omega)]; exact h9.1, fun hs => ?_⟩
        have h8 := h9.2 hs
        unfold q_bar at h8 ⊢
        rw [b2 _ (by omega)]
        exact h8
    · unfold B_X2_build_23 p_cs
      dsimp only
      rw [b1, Option.bind_some, hnx]
  · rintro ⟨zr, X⟩ ⟨e1, e2, e3, e4⟩
    dsimp only at e1 e2 e3 e4
    have ecs : zr = none := by rw [e1]; rfl
    subst ecs
    refine ⟨X, ⟨e2, e3, e4⟩, fun zrec => ?_⟩
    unfold B_X2_build_23 p_cs
    rfl
/-- after refresh and forgets the invariant stands again -/
theorem IV.fresh (h : IV zk N P I) (hk : zk < 512) (hJ : ∀ zq, 19 < zq → (zq < 47 ∨ zq = 65 ∨ zq = 68 ∨ zq = 69 ∨ 85 < zq) → J zq = I zq) (hS : SR N P (q_r68 J T) 1 0) (hT : ∀ zj, 1160 ≤ zj → T zj = I 68 zj) {zn : Nat} (hn : 16 < zn) : ∃ K, f_X11_refresh zn N J P 0 = some K ∧ K 68 = I 68 ∧ (∀ zq, 44 < zq ∨ zq < 20 → K zq = J zq) ∧ ∀ M : pI, (∀ zq, zq ≠ 68 → (zq < 47 ∨ zq = 65 ∨ zq = 69 ∨ 85 < zq) → M zq = K zq) → M 68 = T → (∀ zj, zj < 2646 → M 77 zj = -1) → IV (zk + 1) N P M := by
  obtain ⟨h1, h2, h3, h4, h5, h6, h7⟩ := h
  obtain ⟨b1, b2, b3, ⟨zr, b4⟩, b5⟩ := h4
  obtain ⟨K, k1, k2, k3, k4, k5, k6, k7⟩ := c_build h1 hS (fun zw hw => by rw [hJ _ (by omega) (by omega)]; exact b5 zw hw) hn
  refine ⟨p_u (p_u K 44 6 (K 44 6 + nI 1)) 44 7 (-1), ?_, ?_, ?_, ?_⟩
  · unfold f_X11_refresh f_X3_forget
    simp only [gp_0_2 h1, gp_0_0 h1, gp_0_3 h1, Option.bind_some, k1, n_let]
  · rw [p_u_ne (by decide), p_u_ne (by decide), k2 68 (by decide) (by decide), hJ 68 (by decide) (by decide)]
  · intro zq a
    rw [p_u_ne (by omega), p_u_ne (by omega), k2 zq (by omega) (by omega)]
  · intro M m1 m2 m3
    have mK : ∀ zq, zq ≠ 44 → zq ≠ 68 → (zq < 47 ∨ zq = 65 ∨ zq = 69 ∨ 85 < zq) → M zq = K zq := fun zq a b c => by rw [m1 zq b c, p_u_ne a, p_u_ne a]
    have m44 : ∀ zj, zj ≠ 6 → zj ≠ 7 → M 44 zj = I 44 zj := fun zj a b => by rw [m1 44 (by decide) (by decide), p_u_nk b, p_u_nk a, k2 44 (by decide) (by decide), hJ 44 (by decide) (by decide)]
    have m446 : M 44 6 = I 44 6 + nI 1 := by rw [m1 44 (by decide) (by decide), p_u_nk (by decide), p_u_self, k2 44 (by decide) (by decide), hJ 44 (by decide) (by decide)]
    have m447 : M 44 7 = -1 := by rw [m1 44 (by decide) (by decide), p_u_self]
    obtain ⟨⟨zs, s1, s2, s3⟩, _, _⟩ := h5
    have e6 : M 44 6 = nI (zs + 1 + 1) := by rw [m446, s2, nI_add]
    have m46 : M 46 = I 46 := by rw [mK 46 (by decide) (by decide) (by decide), k2 46 (by decide) (by decide), hJ 46 (by decide) (by decide)]
    have hno : ∀ zt, zt < 2710 → ¬ M 46 zt = M 44 6 := fun zt ht e => by
      obtain ⟨zv, v1, v2⟩ := s3 zt ht
      rw [m46, v2, e6] at e
      have := (nI_eq (by omega) (by omega)).mp e
      omega
    have hSM : SR N P M 1 0 := hS.of (fun zq a b => by rw [mK zq (by omega) (by omega) (by omega), k2 zq (by omega) (by omega), q_r68_n (by omega)]) (fun zj _ => by rw [m2, q_r68_s])
    refine ⟨h1, hSM, h3.of (fun zq a => by rw [mK zq (by omega) (by omega) (by omega), k2 zq (by omega) (by omega), hJ zq (by omega) (by omega)]) (fun zj a => by rw [m2]; exact hT zj a) (by rw [mK 69 (by decide) (by decide) (by decide), k2 69 (by decide) (by decide), hJ 69 (by decide) (by decide)]), ?_, ?_, ?_, Or.inl m447, h7.2.of (by rw [mK 65 (by decide) (by decide) (by decide), k2 65 (by decide) (by decide), hJ 65 (by decide) (by decide)])⟩
    · refine ⟨?_, ?_, ?_, ⟨zr, ?_⟩, ?_⟩
      · intro zw hw
        have h9 := k6 zw hw
        rw [m2, mK (43 - zw) (by omega) (by omega) (by omega)]
        refine ⟨h9.1, fun hs => ?_⟩
        have h8 := h9.2 hs
        unfold q_bar at h8 ⊢
        rw [mK (43 - zw) (by omega) (by omega) (by omega)]
        exact h8
      · rw [m2, mK 21 (by decide) (by decide) (by decide)]; exact Or.inr k3
      · rw [m2, mK 21 (by decide) (by decide) (by decide)]; exact k4
      · exact b4.of (fun zi => by rw [mK 29 (by decide) (by decide) (by decide), k2 29 (by decide) (by decide), hJ 29 (by decide) (by decide)])
      · intro zw hw
        rw [mK (43 - zw) (by omega) (by omega) (by omega)]; exact k7 zw hw
    · refine ⟨⟨zs + 1, by omega, e6, fun zt ht => ?_⟩, fun as ax ay g1 g2 g3 g4 => ?_, fun ai aj g1 g2 g4 => ?_⟩
      · obtain ⟨zv, v1, v2⟩ := s3 zt ht
        exact ⟨zv, by omega, by rw [m46]; exact v2⟩
      · have n1 : nv (M 68 1) ≤ 6 := hSM.rs.1.2
        exact absurd g4 (hno _ (by omega))
      · have n2 : nv (M 68 2) ≤ 8 := hSM.ri.1.2
        have n3 : nv (M 68 3) ≤ 8 := hSM.rn.1.2
        exact absurd g4 (hno _ (by omega))
    · intro as ax ay g1 g2 g3
      exact Or.inl (m3 _ (by omega))
end Fresh
theorem sp_day {n zk : Nat} (hk : zk < 512) (hn : 3000 < n) : Sp_day n (Ivv zk) (Ivv (zk + 1)) := by
  intro N I L P h x1
  have h : IV zk N P I := h
  have hG := h.gw
  have i4 : p_ib N 68 (nI 4) = true := ib_68 hG (by decide)
  have k4 : (nI 4).toNatClampNeg = 4 := by decide
  obtain ⟨f9, f10, f11, f12, r4, r5⟩ := h.sr.rf
  have f9 : I 1 9 = I 68 9 := f9
  have f10 : I 1 10 = I 68 10 := f10
  have f11 : I 1 11 = I 68 4 := f11
  have f12 : I 1 12 = I 68 5 := f12
  have r4 : rg (I 68 4) 999 := r4
  have r5 : I 68 5 = -1 ∨ rg (I 68 5) 999 := r5
  by_cases h1 : x1 < I 68 4
  · have h1b : x1 < I 1 11 := by rw [f11]; exact h1
    refine ⟨(nI 0, I), (nI 0, I), ?_, ?_, rfl, h.up⟩
    · unfold f_X11_day
      simp only [gp_0_0 hG, Option.bind_some, if_pos h1b]
    · unfold f_X12_day
      simp only [gp_67_0 hG, Option.bind_some, n_ck i4, k4, m_isIn, decide_eq_true h1, Bool.not_true, Bool.false_and, bI_iff]
  · have h1b : ¬ x1 < I 1 11 := by rw [f11]; exact h1
    by_cases h2 : x1 ≤ nI 999
    · have h2b : ¬ nI 999 < x1 := by
        intro h3
        have a1 := Int32.le_iff_toInt_le.mp h2
        have a2 := Int32.lt_iff_toInt_lt.mp h3
        omega
      have hx0 : ¬ x1 < 0 := by
        intro h3
        have a1 := Int32.lt_iff_toInt_lt.mp h3
        have a2 : ¬ x1.toInt < (I 68 4).toInt := fun h4 => h1 (Int32.lt_iff_toInt_lt.mpr h4)
        have a3 : (I 68 4).toInt = (nv (I 68 4) : Int) := by
          rw [r4.1, nv_nI (by have := r4.2; omega)]
          exact nI_toInt (by have := r4.2; omega)
        have a4 : (0 : Int32).toInt = 0 := rfl
        omega
      have rx : rg x1 999 := by
        obtain ⟨zx, hx1, hx2⟩ := nI_of2 (M := nI 999) (n := 999) (by decide) hx0 h2
        rw [hx2]; exact rg.of hx1 (by decide)
      have hSx : SR N P (q_r68 (p_u I 1 11 x1) (p_u I 68 4 x1 68)) 1 0 := by
        refine h.sr.w_flds ?_ (fun zq a b c => by rw [q_r68_n (by omega), p_u_ne c]) (fun zj a b c d e => by rw [q_r68_s, p_u_nk b])
        refine ⟨?_, ?_, ?_, ?_, ?_, ?_⟩
        · show p_u I 1 11 x1 1 9 = p_u I 68 4 x1 68 9
          rw [p_u_nk (by decide), p_u_nk (by decide)]; exact f9
        · show p_u I 1 11 x1 1 10 = p_u I 68 4 x1 68 10
          rw [p_u_nk (by decide), p_u_nk (by decide)]; exact f10
        · show p_u I 1 11 x1 1 11 = p_u I 68 4 x1 68 4
          rw [p_u_self, p_u_self]
        · show p_u I 1 11 x1 1 12 = p_u I 68 4 x1 68 5
          rw [p_u_nk (by decide), p_u_nk (by decide)]; exact f12
        · show rg (p_u I 68 4 x1 68 4) 999
          rw [p_u_self]; exact rx
        · show p_u I 68 4 x1 68 5 = -1 ∨ rg (p_u I 68 4 x1 68 5) 999
          rw [p_u_nk (by decide)]; exact r5
      obtain ⟨K, a1, a2, a3, a4⟩ := h.fresh hk (J := p_u I 1 11 x1) (T := p_u I 68 4 x1 68) (fun zq a b => p_u_ne (by omega)) hSx (fun zj a => p_u_nk (by omega)) (zn := n) (by omega)
      obtain ⟨M, m1, m2, m3⟩ := m_forgets (I := p_u K 68 4 x1) hG hn
      refine ⟨(nI 1, K), (nI 1, M), ?_, ?_, rfl, ?_⟩
      · unfold f_X11_day
        simp only [gp_0_0 hG, Option.bind_some, if_neg h1b, if_pos h2, n_let, a1]
      · unfold f_X12_day
        simp only [gp_67_0 hG, Option.bind_some, n_ck i4, k4, a2, m_isIn, decide_eq_false h1, decide_eq_false h2b, Bool.not_false, Bool.true_and, bI_ift, n_let, m1]
      · exact a4 M (fun zq a b => by rw [m2 zq (by omega), p_u_ne a]) (by rw [m2 68 (by decide), p_u_68 a2]) m3
    · have h2b : nI 999 < x1 := by
        have a1 : ¬ x1.toInt ≤ (nI 999).toInt := fun h4 => h2 (Int32.le_iff_toInt_le.mpr h4)
        exact Int32.lt_iff_toInt_lt.mpr (by omega)
      refine ⟨(nI 0, I), (nI 0, I), ?_, ?_, rfl, h.up⟩
      · unfold f_X11_day
        simp only [gp_0_0 hG, Option.bind_some, if_neg h1b, if_neg h2]
      · unfold f_X12_day
        simp only [gp_67_0 hG, Option.bind_some, n_ck i4, k4, m_isIn, decide_eq_true h2b, Bool.not_true, Bool.and_false, bI_iff]
