/-! the class takes a town's line -/
theorem q_row34 : ∀ k, k < 20 → (p_row 3).getD k 0 = nI (q_tlo.getD k 0) ∧ (p_row 4).getD k 0 = nI (q_thg.getD k 0) ∧ p_rb 3 (nI k) = true ∧ p_rb 4 (nI k) = true := by decide +kernel
theorem q_row_b : ∀ k, k < 20 → q_tlo.getD k 0 ≤ 9999 ∧ q_thg.getD k 0 ≤ 9999 := by decide +kernel
theorem c_numbersOf {w : Nat} (h1 : 1 ≤ w) (h4 : w ≤ 4) : f_X10_numbersOf (nI (w - 1)) = some (nI (q_nn w)) := by
  have g : w = 1 ∨ w = 2 ∨ w = 3 ∨ w = 4 := by omega
  rcases g with g | g | g | g <;> subst g <;> decide +kernel
section Take
variable {B : Nat → Nat} {s i w : Nat} {N : pN} {P : pR} {K : pI} {A : Nat → Int32} {zn : Nat}
theorem q_nf_stay {c : Nat} (h : ¬ (q_nf B s i w c).1 = nI 0) : ∀ d, q_nf B s i w (c + d) = q_nf B s i w c := by
  intro d
  induction d with
  | zero => rfl
  | succ d ih =>
    show q_nf B s i w (c + d + 1) = _
    rw [q_nf_s, ih, if_neg (fun g => h g.1)]
theorem q_nf_0 {c : Nat} (h : (q_nf B s i w c).1 = nI 0) : q_nf B s i w c = (nI 0, -1) ∧ ∀ d, d < c → q_tmb w d (q_v B s i d) = true := by
  induction c with
  | zero => exact ⟨rfl, fun d hd => absurd hd (by omega)⟩
  | succ c ih =>
    rw [q_nf_s] at h ⊢
    by_cases hc : (q_nf B s i w c).1 = nI 0 ∧ q_tmb w c (q_v B s i c) = false
    · rw [if_pos hc] at h
      exact absurd h (show ¬ nI 2 = nI 0 by decide)
    · rw [if_neg hc] at h ⊢
      obtain ⟨a1, a2⟩ := ih h
      refine ⟨a1, fun d hd => ?_⟩
      by_cases e : d = c
      · rw [e]
        cases hb : q_tmb w c (q_v B s i c) with
        | true => rfl
        | false => exact absurd ⟨h, hb⟩ hc
      · exact a2 d (by omega)
/-- the numbers of a line, and where they stand, as the class keeps them -/
def q_cn (K : pI) (B : Nat → Nat) (s i c : Nat) : Prop := ∀ d, d < c → K 59 d = nI (q_v B s i d) ∧ K 60 d = nI (q_pc B s i d) ∧ q_v B s i d ≤ 9999
theorem c_fine (hG : GW N P) (hc : q_cn K B s i (q_nn w)) (h1 : 1 ≤ w) (h4 : w ≤ 4) (hf : K 56 4 = nI 0) (hn : 600 < zn) : f_X10_areNumbersFine zn N K P 55 (nI (w - 1)) = some (if (q_nf B s i w (q_nn w)).1 = nI 0 then (nI 1, K) else (nI 0, p_u (p_u K 56 4 (q_nf B s i w (q_nn w)).1) 56 5 (q_nf B s i w (q_nn w)).2)) := by
  have hnn := q_nn_b w
  have hloop := p_loopI (B := B_X10_areNumbersFine_2 N K P 55 (nI (w - 1))) (zJ := fun zm (zc : Int32) => zc = nI zm ∧ (q_nf B s i w zm).1 = nI 0) (zE := fun (zt : Int32 × pI) => zt = if (q_nf B s i w (q_nn w)).1 = nI 0 then (nI 1, K) else (nI 0, p_u (p_u K 56 4 (q_nf B s i w (q_nn w)).1) 56 5 (q_nf B s i w (q_nn w)).2)) (zm := q_nn w) (zn := zn) (by omega) ?_ ?_ (nI 0) ⟨rfl, rfl⟩
  · obtain ⟨t, t1, t2⟩ := hloop
    unfold f_X10_areNumbersFine
    rw [t1, t2]
  · rintro c hcn zc ⟨m1, m2⟩
    subst m1
    obtain ⟨v1, v2, v3⟩ := hc c hcn
    have hidx : (w - 1) * 5 + c < 20 := by omega
    obtain ⟨r3, r4, r5, r6⟩ := q_row34 _ hidx
    have hrb := q_row_b _ hidx
    have a1 : ¬ nI (q_nn w) ≤ nI c := nI_ge hcn (by omega)
    have a2 : ¬ nI 5 ≤ nI c := nI_ge (by omega) (by omega)
    have a3 : ¬ nI ((w - 1) * 5 + c) < 0 := nI_pos (by omega)
    have a4 : ¬ nI 20 ≤ nI ((w - 1) * 5 + c) := nI_ge hidx (by omega)
    have a5 : nI ((w - 1) * 5 + c) < nI 20 := nI_lt hidx (by omega)
    have i59 : p_ib N 59 (nI c) = true := n_ib (gn_59 hG) (by omega) (by decide)
    have i60 : p_ib N 60 (nI c) = true := n_ib (gn_60 hG) (by omega) (by decide)
    have k1 : (nI c).toNatClampNeg = c := nI_clamp (by omega)
    have k2 : (nI ((w - 1) * 5 + c)).toNatClampNeg = (w - 1) * 5 + c := nI_clamp (by omega)
    have hf0 : K 56 4 = 0 := hf
    have hnote : f_X9_note K 56 (nI 2) (nI (q_pc B s i c)) = some (p_u (p_u K 56 4 (nI 2)) 56 5 (nI (q_pc B s i c))) := by
      unfold f_X9_note
      rw [if_neg (show ¬ nI 2 = nI 1 by decide), if_pos hf0, n_let, n_let]
    have hbad : q_tmb w c (q_v B s i c) = false → q_nf B s i w (q_nn w) = (nI 2, nI (q_pc B s i c)) := fun hb => by
      have e1 : q_nf B s i w (c + 1) = (nI 2, nI (q_pc B s i c)) := by rw [q_nf_s, if_pos ⟨m2, hb⟩]
      have e2 := q_nf_stay (B := B) (s := s) (i := i) (w := w) (c := c + 1) (by rw [e1]; exact (show ¬ nI 2 = nI 0 by decide)) (q_nn w - (c + 1))
      rw [show c + 1 + (q_nn w - (c + 1)) = q_nn w by omega] at e2
      rw [e2, e1]
    by_cases hl : q_v B s i c < q_tlo.getD ((w - 1) * 5 + c) 0
    · right
      have hb : q_tmb w c (q_v B s i c) = false := by
        unfold q_tmb
        rw [decide_eq_false (by omega), Bool.false_and]
      have hcond : nI (q_v B s i c) < nI (q_tlo.getD ((w - 1) * 5 + c) 0) := nI_lt hl (by omega)
      refine ⟨(nI 0, p_u (p_u K 56 4 (nI 2)) 56 5 (nI (q_pc B s i c))), ?_, fun zrec => ?_⟩
      · rw [hbad hb, if_neg (show ¬ nI 2 = nI 0 by decide)]
      · unfold B_X10_areNumbersFine_2
        simp only [c_numbersOf h1 h4, Option.bind_some, if_neg a1, if_neg a2, pk_mul, nI_add, if_neg a3, if_neg a4, if_pos a5, gp_55_0 hG, gp_55_1 hG, gp_55_2 hG, n_ck i59, n_ck i60, n_ck r5, k1, k2, v1, v2, r3, if_pos hcond, hnote]
    · have hcond : ¬ nI (q_v B s i c) < nI (q_tlo.getD ((w - 1) * 5 + c) 0) := nI_nlt (by omega) (by omega)
      by_cases hh : q_v B s i c ≤ q_thg.getD ((w - 1) * 5 + c) 0
      · left
        have hb : q_tmb w c (q_v B s i c) = true := by
          unfold q_tmb
          rw [decide_eq_true (show q_tlo.getD ((w - 1) * 5 + c) 0 ≤ q_v B s i c by omega), decide_eq_true hh]; rfl
        have hcond2 : nI (q_v B s i c) ≤ nI (q_thg.getD ((w - 1) * 5 + c) 0) := nI_le hh (by omega)
        refine ⟨nI (c + 1), ⟨rfl, ?_⟩, fun zrec => ?_⟩
        · rw [q_nf_s, if_neg (fun g => by rw [hb] at g; cases g.2)]; exact m2
        · unfold B_X10_areNumbersFine_2
          simp only [c_numbersOf h1 h4, Option.bind_some, if_neg a1, if_neg a2, pk_mul, nI_add, if_neg a3, if_neg a4, if_pos a5, gp_55_1 hG, n_ck i59, n_ck r5, n_ck r6, k1, k2, v1, r3, r4, if_neg hcond, if_pos hcond2]
      · right
        have hb : q_tmb w c (q_v B s i c) = false := by
          unfold q_tmb
          rw [decide_eq_false hh, Bool.and_false]
        have hcond2 : ¬ nI (q_v B s i c) ≤ nI (q_thg.getD ((w - 1) * 5 + c) 0) := nI_ge (by omega) (by omega)
        refine ⟨(nI 0, p_u (p_u K 56 4 (nI 2)) 56 5 (nI (q_pc B s i c))), ?_, fun zrec => ?_⟩
        · rw [hbad hb, if_neg (show ¬ nI 2 = nI 0 by decide)]
        · unfold B_X10_areNumbersFine_2
          simp only [c_numbersOf h1 h4, Option.bind_some, if_neg a1, if_neg a2, pk_mul, nI_add, if_neg a3, if_neg a4, if_pos a5, gp_55_0 hG, gp_55_1 hG, gp_55_2 hG, n_ck i59, n_ck i60, n_ck r5, n_ck r6, k1, k2, v1, v2, r3, r4, if_neg hcond, if_neg hcond2, hnote]
  · rintro zc ⟨m1, m2⟩
    subst m1
    refine ⟨(nI 1, K), ?_, fun zrec => ?_⟩
    · rw [if_pos m2]
    · unfold B_X10_areNumbersFine_2
      simp only [c_numbersOf h1 h4, Option.bind_some, if_pos (nI_le (Nat.le_refl (q_nn w)) (show q_nn w < 2 ^ 31 by omega))]
/-- the numbers go into a new row -/
theorem c_addN (hG : GW N P) (hc : q_cn K B s i (q_nn w)) (h1 : 1 ≤ w) (h4 : w ≤ 4) {t c m wd r : Nat} (hT : TB N P K t c m wd (r + 1)) (hw : q_nn w ≤ wd) (htc : c ≠ t) (hc9 : c < 20) (hn : 600 < zn) : ∃ J, p_it (B_X10_addTo_14 N P (nI r) 55 t (nI (w - 1))) zn (nI 0, K) = some J ∧ (∀ x, x ≠ c → J x = K x) ∧ (∀ d, d < q_nn w → J c (r * wd + d) = nI (q_v B s i d)) ∧ (∀ j, j < r * wd ∨ r * wd + q_nn w ≤ j → J c j = K c j) := by
  have hnn := q_nn_b w
  have hloop := p_loopI (B := B_X10_addTo_14 N P (nI r) 55 t (nI (w - 1))) (zJ := fun zm (zc : Int32 × pI) => zc.1 = nI zm ∧ (∀ x, x ≠ c → zc.2 x = K x) ∧ (∀ d, d < zm → zc.2 c (r * wd + d) = nI (q_v B s i d)) ∧ (∀ j, j < r * wd ∨ r * wd + zm ≤ j → zc.2 c j = K c j)) (zE := fun (J : pI) => (∀ x, x ≠ c → J x = K x) ∧ (∀ d, d < q_nn w → J c (r * wd + d) = nI (q_v B s i d)) ∧ (∀ j, j < r * wd ∨ r * wd + q_nn w ≤ j → J c j = K c j)) (zm := q_nn w) (zn := zn) (by omega) ?_ ?_ (nI 0, K) ⟨rfl, fun x hx => rfl, fun d hd => absurd hd (by omega), fun j hj => rfl⟩
  · exact hloop
  · rintro d hd ⟨zi, J⟩ ⟨m1, m2, m3, m5⟩
    dsimp only at m1 m2 m3 m5
    subst m1
    left
    have a1 : ¬ nI (q_nn w) ≤ nI d := nI_ge hd (by omega)
    have a2 : ¬ nI 5 ≤ nI d := nI_ge (by omega) (by omega)
    have i59 : p_ib N 59 (nI d) = true := n_ib (gn_59 hG) (by omega) (by decide)
    have k1 : (nI d).toNatClampNeg = d := nI_clamp (by omega)
    have hT2 : TB N P J t c m wd (r + 1) := hT.of (fun j => by rw [m2 t (fun e => htc e.symm)])
    have e59 : J 59 d = nI (q_v B s i d) := by rw [m2 59 (by omega)]; exact (hc d hd).1
    have hp := tb_put (v := nI (q_v B s i d)) hT2 (show r < r + 1 by omega) (show d < wd by omega)
    refine ⟨(nI (d + 1), p_u J c (r * wd + d) (nI (q_v B s i d))), ⟨rfl, fun x hx => by dsimp only; rw [p_u_ne hx]; exact m2 x hx, fun e he => ?_, fun j hj => ?_⟩, fun zrec => ?_⟩
    · dsimp only
      by_cases ee : e = d
      · rw [ee, p_u_self]
      · rw [p_u_nk (by omega)]; exact m3 e (by omega)
    · dsimp only
      rw [p_u_nk (by omega)]; exact m5 j (by omega)
    · unfold B_X10_addTo_14
      simp only [c_numbersOf h1 h4, Option.bind_some, if_neg a1, if_neg a2, gp_55_1 hG, n_ck i59, k1, e59, hp, nI_add]
  · rintro ⟨zi, J⟩ ⟨m1, m2, m3, m5⟩
    dsimp only at m1 m2 m3 m5
    subst m1
    refine ⟨J, ⟨m2, m3, m5⟩, fun zrec => ?_⟩
    unfold B_X10_addTo_14
    simp only [c_numbersOf h1 h4, Option.bind_some, if_pos (nI_le (Nat.le_refl (q_nn w)) (show q_nn w < 2 ^ 31 by omega))]
end Take
