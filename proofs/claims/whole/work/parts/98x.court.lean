/-! the law: which line speaks -/
def q_grf (A : Nat → Int32) (s n : Nat) (acc : Int32) : Int32 := if q_sgN A s n ≤ acc then acc else q_sgN A s n
def q_gr (A : Nat → Int32) (s : Nat) : Int32 := q_fold (q_grf A s) (nv (A 3)) (nI 0)
def q_lou (A : Nat → Int32) (s : Nat) : Int32 := if nI 9999 ≤ q_gr A s then nI 9999 else q_gr A s
def q_al1 (A : Nat → Int32) (s t : Nat) : Bool := decide (t = s) || (!q_st A (nI t) || !decide (A (120 + 8 * t + 2) = A (120 + 8 * s + 2)))
def q_al (A : Nat → Int32) (s : Nat) : Bool := q_fold (fun t b => b && q_al1 A s t) (nv (A 1)) true
def q_val (A : Nat → Int32) (za s : Nat) (hour : Int32) : Int32 := if za = 1 then A (120 + 8 * s + 2) else if za = 2 then A (120 + 8 * s + 3) else if za = 3 then A (120 + 8 * s + 0) else if za = 4 then A (120 + 8 * s + 1) else if za = 5 then hour else q_lou A s
def q_r (A : Nat → Int32) (l t k : Nat) : Int32 := A (340 + 20 * l + (1 + 4 * t + k))
def q_cmpv (v g n : Int32) : Bool := if g = nI 60 then !decide (n ≤ v) else if g = nI 62 then !decide (v ≤ n) else decide (v = n)
def q_tst (A : Nat → Int32) (l t s : Nat) (hour : Int32) : Bool := if nv (q_r A l t 1) = 10 then q_al A s else q_cmpv (q_val A (nv (q_r A l t 1) - 10) s hour) (q_r A l t 2) (q_r A l t 3)
def q_hl1 (A : Nat → Int32) (l s : Nat) (hour : Int32) (t : Nat) : Bool := q_tst A l t s hour != decide (q_r A l t 0 = nI 1)
def q_hl (A : Nat → Int32) (l s : Nat) (hour : Int32) : Bool := q_fold (fun t b => b && q_hl1 A l s hour t) (nv (A (340 + 20 * l + 0))) true
def q_ln (A : Nat → Int32) (s : Nat) (hour : Int32) : Nat → Nat → Int32
  | 0, _ => -1
  | zd + 1, zl => if q_hl A zl s hour = true then nI zl else q_ln A s hour zd (zl + 1)
theorem q_ln_s {A : Nat → Int32} {s zd zl : Nat} {hour : Int32} : q_ln A s hour (zd + 1) zl = if q_hl A zl s hour = true then nI zl else q_ln A s hour zd (zl + 1) := rfl
theorem q_ln_i {A : Nat → Int32} {s : Nat} {hour : Int32} : ∀ zd zl, q_ln A s hour zd zl = -1 ∨ ∃ zj, zl ≤ zj ∧ zj < zl + zd ∧ q_ln A s hour zd zl = nI zj := by
  intro zd
  induction zd with
  | zero => intro zl; exact Or.inl rfl
  | succ zd ih =>
    intro zl
    rw [q_ln_s]
    split
    · exact Or.inr ⟨zl, Nat.le_refl _, by omega, rfl⟩
    · rcases ih (zl + 1) with e | ⟨zj, h1, h2, h3⟩
      · exact Or.inl e
      · exact Or.inr ⟨zj, by omega, by omega, h3⟩
def q_line (A : Nat → Int32) (s : Nat) (hour : Int32) : Int32 := q_ln A s hour (nv (A 6)) 0
theorem bI_eq {a b : Bool} : (bI a = bI b) ↔ a = b := by cases a <;> cases b <;> decide
section Court
variable {N : pN} {P : pR} {I J : pI} {L : pL} {zk : Nat}
theorem c_hearSenders (h : cK zk N P I J) {zn : Nat} (hn : 200 < zn) : ∃ J2 K2, f_X1_hearSenders zn N J L P 53 = some (J2, K2) ∧ cK zk N P I J2 ∧ (∀ zi, zi < 6 → q_st (I 68) (nI zi) = true → J2 54 zi = q_lou (I 68) zi) ∧ J2 53 = J 53 := by
  have hG := h.gw
  have r3 : rg (I 68 3) 8 := by rw [← h.2.e68]; exact h.1.n3
  have h3 := r3.2
  have hinner : ∀ zi, zi < 6 → ∀ X Y, cK zk N P I X → ∃ v X2 Y2, p_it (B_X1_hearSenders_15 zn N P 53 (nI zi)) zn (nI 0, nI 0, X, Y) = some (v, X2, Y2) ∧ (q_st (I 68) (nI zi) = true → v = q_gr (I 68) zi) ∧ cK zk N P I X2 ∧ c_gF X X2 := by
    intro zi hi X Y hX
    have hloop := p_loopI (B := B_X1_hearSenders_15 zn N P 53 (nI zi)) (zJ := fun zj (zc : Int32 × Int32 × pI × pL) => (q_st (I 68) (nI zi) = true → zc.1 = q_fold (q_grf (I 68) zi) zj (nI 0)) ∧ zc.2.1 = nI zj ∧ cK zk N P I zc.2.2.1 ∧ c_gF X zc.2.2.1) (zE := fun (zt : Int32 × pI × pL) => (q_st (I 68) (nI zi) = true → zt.1 = q_gr (I 68) zi) ∧ cK zk N P I zt.2.1 ∧ c_gF X zt.2.1) (zm := nv (I 68 3)) (zn := zn) (by omega) ?_ ?_ (nI 0, nI 0, X, Y) ⟨fun _ => rfl, rfl, hX, c_gF.rf⟩
    · obtain ⟨⟨zt, X2, Y2⟩, k1, k2, k3⟩ := hloop
      exact ⟨zt, X2, Y2, k1, k2, k3⟩
    · rintro zj hj ⟨za, zb, J, K⟩ ⟨e0, e1, e3, e4⟩
      dsimp only at e0 e1 e3 e4
      subst e1
      left
      have tbn : TB N P J 10 11 8 2 (nv (I 68 3)) := by
        have h9 := e3.sr.rn.2.1
        rw [e3.2.e68] at h9; exact h9
      have hcn := e3.sr.rn.2.2 zj (by rw [e3.2.e68]; exact hj)
      have c0 : J 11 (zj * 2 + 0) = nI (nv (I 68 (202 + 2 * zj))) ∧ nv (I 68 (202 + 2 * zj)) ≤ 20 := by
        have h8 : J 11 (zj * 2 + 0) = J 68 (202 + 2 * zj) ∧ rg (J 68 (202 + 2 * zj)) 20 := hcn 0 (by decide)
        rw [e3.2.e68] at h8
        exact ⟨h8.1.trans h8.2.1, h8.2.2⟩
      have c1 : J 11 (zj * 2 + 1) = nI (nv (I 68 (202 + 2 * zj + 1))) ∧ nv (I 68 (202 + 2 * zj + 1)) ≤ 20 := by
        have h8 : J 11 (zj * 2 + 1) = J 68 (202 + 2 * zj + 1) ∧ rg (J 68 (202 + 2 * zj + 1)) 20 := hcn 1 (by decide)
        rw [e3.2.e68] at h8
        exact ⟨h8.1.trans h8.2.1, h8.2.2⟩
      have hc : ¬ nI (nv (I 68 3)) ≤ nI zj := nI_ge hj (by omega)
      obtain ⟨J2, K2, j1, j2, j3⟩ := e3.sg (L := K) (zn := zn) (by omega) (nI zi) (nI (nv (I 68 (202 + 2 * zj)))) (nI (nv (I 68 (202 + 2 * zj + 1))))
      refine ⟨(if za < q_sgv (I 68) (nI zi) (nI (nv (I 68 (202 + 2 * zj)))) (nI (nv (I 68 (202 + 2 * zj + 1)))) then q_sgv (I 68) (nI zi) (nI (nv (I 68 (202 + 2 * zj)))) (nI (nv (I 68 (202 + 2 * zj + 1)))) else za, nI (zj + 1), J2, K2), ⟨fun hst => ?_, rfl, j2, e4.tr j3⟩, fun zrec => ?_⟩
      · dsimp only
        rw [q_sgv_n hst (by omega) c0.2 c1.2, e0 hst]
        show (if q_fold (q_grf (I 68) zi) zj (nI 0) < q_sgN (I 68) zi zj then q_sgN (I 68) zi zj else q_fold (q_grf (I 68) zi) zj (nI 0)) = q_grf (I 68) zi zj (q_fold (q_grf (I 68) zi) zj (nI 0))
        generalize q_fold (q_grf (I 68) zi) zj (nI 0) = zv
        unfold q_grf
        by_cases hl : q_sgN (I 68) zi zj ≤ zv
        · rw [if_pos hl, if_neg (Int32.not_lt.mpr hl)]
        · rw [if_neg hl, if_pos (Int32.not_le.mp hl)]
      · unfold B_X1_hearSenders_15
        simp only [gp_53_0 hG, gp_53_1 hG, gp_1_4 hG, Option.bind_some, tb_size tbn, if_neg hc, tb_get tbn hj (show 0 < 2 by decide), tb_get tbn hj (show 1 < 2 by decide), c0.1, c1.1, j1, n_let, nI_add]
    · rintro ⟨za, zb, J, K⟩ ⟨e0, e1, e3, e4⟩
      dsimp only at e0 e1 e3 e4
      subst e1
      have tbn : TB N P J 10 11 8 2 (nv (I 68 3)) := by
        have h9 := e3.sr.rn.2.1
        rw [e3.2.e68] at h9; exact h9
      refine ⟨(za, J, K), ⟨e0, e3, e4⟩, fun zrec => ?_⟩
      unfold B_X1_hearSenders_15
      simp only [gp_53_0 hG, gp_1_4 hG, Option.bind_some, tb_size tbn, if_pos (Int32.le_refl (nI (nv (I 68 3))))]
  have hloop := p_loopI (B := B_X1_hearSenders_2 zn N P 53) (zJ := fun zj (zc : Int32 × pI × pL) => zc.1 = nI zj ∧ cK zk N P I zc.2.1 ∧ (∀ zi, zi < zj → q_st (I 68) (nI zi) = true → zc.2.1 54 zi = q_lou (I 68) zi) ∧ zc.2.1 53 = J 53) (zE := fun (zt : pI × pL) => cK zk N P I zt.1 ∧ (∀ zi, zi < 6 → q_st (I 68) (nI zi) = true → zt.1 54 zi = q_lou (I 68) zi) ∧ zt.1 53 = J 53) (zm := 6) (zn := zn) (by omega) ?_ ?_ (nI 0, J, L) ⟨rfl, h, fun zi hi => absurd hi (Nat.not_lt_zero zi), rfl⟩
  · obtain ⟨⟨J2, K2⟩, k1, k2⟩ := hloop
    refine ⟨J2, K2, ?_, k2⟩
    unfold f_X1_hearSenders
    rw [k1, Option.bind_some]
  · rintro zj hj ⟨zb, X, K⟩ ⟨e1, e3, e4, e5⟩
    dsimp only at e1 e3 e4 e5
    subst e1
    left
    have hc : ¬ nI (N.2 54).2 ≤ nI zj := by rw [gn_54 hG]; exact nI_ge hj (by decide)
    have hib : p_ib N 54 (nI zj) = true := n_ib (gn_54 hG) hj (by decide)
    have kcl : (nI zj).toNatClampNeg = zj := nI_clamp (by omega)
    obtain ⟨v, X2, Y2, x1, x0, x2, x3⟩ := hinner zj hj X K e3
    refine ⟨(nI (zj + 1), p_u X2 54 zj (if v < nI 9999 then v else nI 9999), Y2), ⟨rfl, ⟨x2.1.scratch (fun zq hq => p_u_ne (by omega)), x2.2.tr (fun zq a b c d e => p_u_ne (by omega))⟩, fun zi hi hst => ?_, ?_⟩, fun zrec => ?_⟩
    · dsimp only
      by_cases hz : zi = zj
      · subst hz
        rw [p_u_self, x0 hst]
        unfold q_lou
        by_cases hl : nI 9999 ≤ q_gr (I 68) zi
        · rw [if_pos hl, if_neg (Int32.not_lt.mpr hl)]
        · rw [if_neg hl, if_pos (Int32.not_le.mp hl)]
      · rw [p_u_nk hz, x3 54 (by decide) (by decide) (by decide) (by decide) (by decide) (by decide) (by decide)]; exact e4 zi (by omega) hst
    · dsimp only
      rw [p_u_ne (by decide), x3 53 (by decide) (by decide) (by decide) (by decide) (by decide) (by decide) (by decide)]; exact e5
    · unfold B_X1_hearSenders_2
      simp only [gp_53_2 hG, Option.bind_some, if_neg hc, x1, n_ck hib, kcl, n_let, nI_add]
  · rintro ⟨zb, X, K⟩ ⟨e1, e3, e4, e5⟩
    dsimp only at e1 e3 e4 e5
    subst e1
    have hc : nI (N.2 54).2 ≤ nI 6 := by rw [gn_54 hG]; decide
    refine ⟨(X, K), ⟨e3, e4, e5⟩, fun zrec => ?_⟩
    unfold B_X1_hearSenders_2
    simp only [gp_53_2 hG, Option.bind_some, if_pos hc]
theorem c_isAlone (hG : GW N P) (hS : SR N P I 1 0) {zs zn : Nat} (hs : zs < nv (I 68 1)) (hn : 200 < zn) : f_X1_isAlone zn N I P 53 (nI zs) = some (bI (q_al (I 68) zs)) := by
  have r1 : rg (I 68 1) 6 := hS.rs.1
  have h6 := r1.2
  have tb := hS.tbs
  have ec : ∀ zt, zt < nv (I 68 1) → I 7 (zt * 8 + 2) = I 68 (120 + 8 * zt + 2) := fun zt ht => (hS.sn ht).1 2 (by decide)
  have hloop := p_loopI (B := B_X1_isAlone_15 N I P (I 68 (120 + 8 * zs + 2)) 53 (nI zs)) (zJ := fun zj (zc : Int32) => zc = nI zj ∧ q_fold (fun t b => b && q_al1 (I 68) zs t) zj true = true) (zE := fun zt => zt = bI (q_al (I 68) zs)) (zm := nv (I 68 1)) (zn := zn) (by omega) ?_ ?_ (nI 0) ⟨rfl, rfl⟩
  · obtain ⟨zt, k1, k2⟩ := hloop
    unfold f_X1_isAlone
    simp only [gp_53_0 hG, gp_1_2 hG, Option.bind_some, tb_get tb hs (show 2 < 8 by decide), ec zs hs, k1, k2]
  · rintro zj hj _ ⟨rfl, e2⟩
    have hc : ¬ nI (nv (I 68 1)) ≤ nI zj := nI_ge hj (by omega)
    have hq : q_fold (fun t b => b && q_al1 (I 68) zs t) (zj + 1) true = q_al1 (I 68) zs zj := by
      show (q_fold (fun t b => b && q_al1 (I 68) zs t) zj true && _) = _
      rw [e2, Bool.true_and]
    by_cases hjs : zj = zs
    · left
      have hjs2 : nI zj = nI zs := by rw [hjs]
      refine ⟨nI (zj + 1), ⟨rfl, ?_⟩, fun zrec => ?_⟩
      · rw [hq]; unfold q_al1; rw [decide_eq_true hjs]; rfl
      · unfold B_X1_isAlone_15
        simp only [gp_53_0 hG, gp_1_2 hG, Option.bind_some, tb_size tb, if_neg hc, tb_get tb hj (show 2 < 8 by decide), ec zj hj, n_let, if_pos hjs2, nI_add]
    · have hjs2 : ¬ nI zj = nI zs := fun e => hjs ((nI_eq (by omega) (by omega)).mp e)
      by_cases hcol : I 68 (120 + 8 * zj + 2) = I 68 (120 + 8 * zs + 2)
      · cases hst : q_st (I 68) (nI zj) with
        | false =>
          left
          refine ⟨nI (zj + 1), ⟨rfl, ?_⟩, fun zrec => ?_⟩
          · rw [hq]; unfold q_al1; rw [hst, Bool.not_false, Bool.true_or, Bool.or_true]
          · unfold B_X1_isAlone_15
            simp only [gp_53_0 hG, gp_1_2 hG, Option.bind_some, tb_size tb, if_neg hc, tb_get tb hj (show 2 < 8 by decide), ec zj hj, n_let, if_neg hjs2, if_pos hcol, n_10, if_false, c_st hG hS, hst, bI_iff, nI_add]
        | true =>
          right
          refine ⟨nI 0, ?_, fun zrec => ?_⟩
          · have hf : q_al1 (I 68) zs zj = false := by unfold q_al1; rw [decide_eq_false hjs, hst, decide_eq_true hcol]; rfl
            unfold q_al
            rw [q_all_to hf hj]; rfl
          · unfold B_X1_isAlone_15
            simp only [gp_53_0 hG, gp_1_2 hG, Option.bind_some, tb_size tb, if_neg hc, tb_get tb hj (show 2 < 8 by decide), ec zj hj, n_let, if_neg hjs2, if_pos hcol, n_10, if_false, c_st hG hS, hst, bI_ift]
      · left
        refine ⟨nI (zj + 1), ⟨rfl, ?_⟩, fun zrec => ?_⟩
        · rw [hq]; unfold q_al1; rw [decide_eq_false hcol, Bool.not_false, Bool.or_true, Bool.or_true]
        · unfold B_X1_isAlone_15
          simp only [gp_53_0 hG, gp_1_2 hG, Option.bind_some, tb_size tb, if_neg hc, tb_get tb hj (show 2 < 8 by decide), ec zj hj, n_let, if_neg hjs2, if_neg hcol, n_00, if_true, nI_add]
  · rintro _ ⟨rfl, e2⟩
    refine ⟨nI 1, ?_, fun zrec => ?_⟩
    · unfold q_al; rw [e2]; rfl
    · unfold B_X1_isAlone_15
      simp only [gp_53_0 hG, gp_1_2 hG, Option.bind_some, tb_size tb, if_pos (Int32.le_refl (nI (nv (I 68 1))))]
theorem c_valueOf (hG : GW N P) (hS : SR N P I 1 0) {zs za : Nat} (hs : zs < nv (I 68 1)) (h1 : 0 < za) (h7 : za ≤ 6) (h54 : I 54 zs = q_lou (I 68) zs) (hour : Int32) : f_X1_valueOf N I P 53 (nI za) (nI zs) hour = some (q_val (I 68) za zs hour) := by
  have r1 : rg (I 68 1) 6 := hS.rs.1
  have h6 := r1.2
  have tb := hS.tbs
  have ec : ∀ zj, zj < 7 → I 7 (zs * 8 + zj) = I 68 (120 + 8 * zs + zj) := (hS.sn hs).1
  have hc : ¬ nI (N.2 54).2 ≤ nI zs := by rw [gn_54 hG]; exact nI_ge (by omega) (by decide)
  have hib : p_ib N 54 (nI zs) = true := n_ib (gn_54 hG) (show zs < 6 by omega) (by decide)
  have kcl : (nI zs).toNatClampNeg = zs := nI_clamp (by omega)
  have h9 : za = 1 ∨ za = 2 ∨ za = 3 ∨ za = 4 ∨ za = 5 ∨ za = 6 := by omega
  unfold f_X1_valueOf q_val
  rcases h9 with h9 | h9 | h9 | h9 | h9 | h9 <;> subst h9
  · simp only [if_true, gp_53_0 hG, gp_1_2 hG, Option.bind_some, tb_get tb hs (show 2 < 8 by decide), ec 2 (by decide)]
  · simp only [show ¬ nI 2 = nI 1 from by decide, show ¬ (2 : Nat) = 1 from by decide, if_false, if_true, gp_53_0 hG, gp_1_2 hG, Option.bind_some, tb_get tb hs (show 3 < 8 by decide), ec 3 (by decide)]
  · simp only [show ¬ nI 3 = nI 1 from by decide, show ¬ nI 3 = nI 2 from by decide, show ¬ (3 : Nat) = 1 from by decide, show ¬ (3 : Nat) = 2 from by decide, if_false, if_true, gp_53_0 hG, gp_1_2 hG, Option.bind_some, tb_get tb hs (show 0 < 8 by decide), ec 0 (by decide)]
  · simp only [show ¬ nI 4 = nI 1 from by decide, show ¬ nI 4 = nI 2 from by decide, show ¬ nI 4 = nI 3 from by decide, show ¬ (4 : Nat) = 1 from by decide, show ¬ (4 : Nat) = 2 from by decide, show ¬ (4 : Nat) = 3 from by decide, if_false, if_true, gp_53_0 hG, gp_1_2 hG, Option.bind_some, tb_get tb hs (show 1 < 8 by decide), ec 1 (by decide)]
  · simp only [show ¬ nI 5 = nI 1 from by decide, show ¬ nI 5 = nI 2 from by decide, show ¬ nI 5 = nI 3 from by decide, show ¬ nI 5 = nI 4 from by decide, show ¬ (5 : Nat) = 1 from by decide, show ¬ (5 : Nat) = 2 from by decide, show ¬ (5 : Nat) = 3 from by decide, show ¬ (5 : Nat) = 4 from by decide, if_false, if_true]
  · simp only [show ¬ nI 6 = nI 1 from by decide, show ¬ nI 6 = nI 2 from by decide, show ¬ nI 6 = nI 3 from by decide, show ¬ nI 6 = nI 4 from by decide, show ¬ nI 6 = nI 5 from by decide, show ¬ (6 : Nat) = 1 from by decide, show ¬ (6 : Nat) = 2 from by decide, show ¬ (6 : Nat) = 3 from by decide, show ¬ (6 : Nat) = 4 from by decide, show ¬ (6 : Nat) = 5 from by decide, if_false, if_neg (nI_pos (show zs < 2 ^ 31 by omega)), gp_53_2 hG, Option.bind_some, if_neg hc, n_ck hib, kcl, h54]
theorem q_cmp_c {v g n : Int32} : (if g = nI 60 then (if n ≤ v then some (nI 0) else some (nI 1)) else (if g = nI 62 then (if v ≤ n then some (nI 0) else some (nI 1)) else (if v = n then some (nI 1) else some (nI 0)))) = some (bI (q_cmpv v g n)) := by
  unfold q_cmpv
  by_cases h1 : g = nI 60
  · rw [if_pos h1, if_pos h1]
    by_cases h2 : n ≤ v
    · rw [if_pos h2, decide_eq_true h2]; rfl
    · rw [if_neg h2, decide_eq_false h2]; rfl
  · rw [if_neg h1, if_neg h1]
    by_cases h3 : g = nI 62
    · rw [if_pos h3, if_pos h3]
      by_cases h2 : v ≤ n
      · rw [if_pos h2, decide_eq_true h2]; rfl
      · rw [if_neg h2, decide_eq_false h2]; rfl
    · rw [if_neg h3, if_neg h3]
      by_cases h2 : v = n
      · rw [if_pos h2, decide_eq_true h2]; rfl
      · rw [if_neg h2, decide_eq_false h2]; rfl
theorem sr_law (hS : SR N P I 1 0) {zl : Nat} (hl : zl < nv (I 68 6)) : rg (I 68 (340 + 20 * zl + 0)) 4 ∧ I 17 (zl * 18 + 1) = I 68 (340 + 20 * zl + 0) ∧ ((I 17 (zl * 18 + 0) = nI 1 ∧ I 68 (340 + 20 * zl + 17) = nI 20) ∨ (I 17 (zl * 18 + 0) = nI 0 ∧ I 68 (340 + 20 * zl + 17) = nI 21)) ∧ ∀ zt, zt < nv (I 68 (340 + 20 * zl + 0)) → R_test (fun zk => I 17 (zl * 18 + (2 + 4 * zt + zk))) (fun zk => q_r (I 68) zl zt zk) := hS.rl.2.2 zl hl
theorem c_holds (hG : GW N P) (hS : SR N P I 1 0) {zl zt zs zn : Nat} (hl : zl < nv (I 68 6)) (ht : zt < nv (I 68 (340 + 20 * zl + 0))) (hs : zs < nv (I 68 1)) (h54 : I 54 zs = q_lou (I 68) zs) (hn : 200 < zn) (hour : Int32) : f_X1_holds zn N I P 53 (nI zl) (nI (2 + 4 * zt)) (nI zs) hour = some (bI (q_tst (I 68) zl zt zs hour)) := by
  have r6 : rg (I 68 6) 16 := hS.rl.1
  have h16 := r6.2
  have tb : TB N P I 16 17 16 18 (nv (I 68 6)) := hS.rl.2.1
  obtain ⟨d1, d2, d3, d4⟩ := sr_law hS hl
  have h4 := d1.2
  obtain ⟨t0, t1, za, t2, t3, t4, t5⟩ := d4 zt ht
  have t3 : I 17 (zl * 18 + (2 + 4 * zt + 1)) = nI za := t3
  have t4 : q_r (I 68) zl zt 1 = nI (10 + za) := t4
  have env : nv (q_r (I 68) zl zt 1) = 10 + za := by rw [t4]; exact nI_clamp (by omega)
  have g1 := tb_get tb hl (show 2 + 4 * zt + 1 < 18 by omega)
  have g2 := tb_get tb hl (show 2 + 4 * zt + 2 < 18 by omega)
  have g3 := tb_get tb hl (show 2 + 4 * zt + 3 < 18 by omega)
  rw [t3] at g1
  unfold f_X1_holds q_tst
  rw [env]
  rcases t5 with ⟨t6, _, _⟩ | ⟨t6, t7, t8, t9, t10⟩
  · subst t6
    simp only [gp_53_0 hG, gp_1_7 hG, Option.bind_some, nI_add, g1, n_00, if_true, c_isAlone hG hS hs hn, n_ck (bI_ck _)]
  · have hz : ¬ nI za = 0 := nI_ne0 t6 (by omega)
    have hz2 : ¬ 10 + za = 10 := by omega
    have t7 : I 17 (zl * 18 + (2 + 4 * zt + 2)) = q_r (I 68) zl zt 2 := t7
    have t8 : I 17 (zl * 18 + (2 + 4 * zt + 3)) = q_r (I 68) zl zt 3 := t8
    rw [t7] at g2
    rw [t8] at g3
    have hval := c_valueOf hG hS hs t6 t2 h54 hour
    simp only [gp_53_0 hG, gp_1_7 hG, Option.bind_some, nI_add, g1, if_neg hz, if_neg hz2, hval, g2, g3, Nat.add_sub_cancel_left]
    exact q_cmp_c
theorem c_isFitting (hG : GW N P) (hS : SR N P I 1 0) {zl zs zn : Nat} (hl : zl < nv (I 68 6)) (hs : zs < nv (I 68 1)) (h54 : I 54 zs = q_lou (I 68) zs) (hn : 200 < zn) (hour : Int32) : f_X1_isFitting zn N I P 53 (nI zl) (nI zs) hour = some (bI (q_hl (I 68) zl zs hour)) := by
  have r6 : rg (I 68 6) 16 := hS.rl.1
  have h16 := r6.2
  have tb : TB N P I 16 17 16 18 (nv (I 68 6)) := hS.rl.2.1
  obtain ⟨d1, d2, d3, d4⟩ := sr_law hS hl
  have h4 := d1.2
  have gc := tb_get tb hl (show 1 < 18 by decide)
  rw [d2, d1.1] at gc
  have hloop := p_loopI (B := B_X1_isFitting_17 zn N I P (nI (nv (I 68 (340 + 20 * zl + 0)))) 53 (nI zl) (nI zs) hour) (zJ := fun zj (zc : Int32) => zc = nI zj ∧ q_fold (fun t b => b && q_hl1 (I 68) zl zs hour t) zj true = true) (zE := fun zt => zt = bI (q_hl (I 68) zl zs hour)) (zm := nv (I 68 (340 + 20 * zl + 0))) (zn := zn) (by omega) ?_ ?_ (nI 0) ⟨rfl, rfl⟩
  · obtain ⟨zt, k1, k2⟩ := hloop
    unfold f_X1_isFitting
    simp only [gp_53_0 hG, gp_1_7 hG, Option.bind_some, gc, k1, k2]
  · rintro zj hj _ ⟨rfl, e2⟩
    have hc : ¬ nI (nv (I 68 (340 + 20 * zl + 0))) ≤ nI zj := nI_ge hj (by omega)
    have hq : q_fold (fun t b => b && q_hl1 (I 68) zl zs hour t) (zj + 1) true = q_hl1 (I 68) zl zs hour zj := by
      show (q_fold (fun t b => b && q_hl1 (I 68) zl zs hour t) zj true && _) = _
      rw [e2, Bool.true_and]
    obtain ⟨t0, t1, _⟩ := d4 zj hj
    have t0 : I 17 (zl * 18 + (2 + 4 * zj + 0)) = q_r (I 68) zl zj 0 := t0
    have g0 := tb_get tb hl (show 2 + 4 * zj + 0 < 18 by omega)
    rw [t0] at g0
    have hh := c_holds hG hS hl hj hs h54 hn hour
    have ecol : f_X4_columnOf (nI zj) = some (nI (2 + 4 * zj)) := by
      unfold f_X4_columnOf
      rw [pk_mul, nI_add]
    have et : (if q_r (I 68) zl zj 0 = nI 1 then nI 1 else nI 0) = bI (decide (q_r (I 68) zl zj 0 = nI 1)) := by
      by_cases g : q_r (I 68) zl zj 0 = nI 1
      · rw [if_pos g, decide_eq_true g]; rfl
      · rw [if_neg g, decide_eq_false g]; rfl
    by_cases he : q_tst (I 68) zl zj zs hour = decide (q_r (I 68) zl zj 0 = nI 1)
    · right
      refine ⟨nI 0, ?_, fun zrec => ?_⟩
      · have hf : q_hl1 (I 68) zl zs hour zj = false := by unfold q_hl1; rw [he]; cases decide (q_r (I 68) zl zj 0 = nI 1) <;> rfl
        unfold q_hl
        rw [q_all_to hf hj]; rfl
      · unfold B_X1_isFitting_17
        simp only [if_neg hc, ecol, gp_53_0 hG, gp_1_7 hG, Option.bind_some, nI_add, g0, n_let, et, hh, if_pos (bI_eq.mpr he)]
    · left
      refine ⟨nI (zj + 1), ⟨rfl, ?_⟩, fun zrec => ?_⟩
      · rw [hq]
        unfold q_hl1
        exact bne_iff_ne.mpr he
      · unfold B_X1_isFitting_17
        simp only [if_neg hc, ecol, gp_53_0 hG, gp_1_7 hG, Option.bind_some, nI_add, g0, n_let, et, hh, if_neg (fun e => he (bI_eq.mp e))]
  · rintro _ ⟨rfl, e2⟩
    refine ⟨nI 1, ?_, fun zrec => ?_⟩
    · unfold q_hl; rw [e2]; rfl
    · unfold B_X1_isFitting_17
      simp only [if_pos (Int32.le_refl (nI (nv (I 68 (340 + 20 * zl + 0)))))]
theorem c_lineFor (hG : GW N P) (hS : SR N P I 1 0) {zs zn : Nat} (hs : zs < nv (I 68 1)) (h54 : I 54 zs = q_lou (I 68) zs) (hn : 200 < zn) (hour : Int32) : f_X1_lineFor zn N I P 53 (nI zs) hour = some (q_line (I 68) zs hour) := by
  have r6 : rg (I 68 6) 16 := hS.rl.1
  have h16 := r6.2
  have tb : TB N P I 16 17 16 18 (nv (I 68 6)) := hS.rl.2.1
  have hloop := p_loopI (B := B_X1_lineFor_2 zn N I P 53 (nI zs) hour) (zJ := fun zj (zc : Int32) => zc = nI zj ∧ q_line (I 68) zs hour = q_ln (I 68) zs hour (nv (I 68 6) - zj) zj) (zE := fun zt => zt = q_line (I 68) zs hour) (zm := nv (I 68 6)) (zn := zn) (by omega) ?_ ?_ (nI 0) ⟨rfl, rfl⟩
  · obtain ⟨zt, k1, k2⟩ := hloop
    unfold f_X1_lineFor
    rw [k1, k2]
  · rintro zj hj _ ⟨rfl, e2⟩
    have hc : ¬ nI (nv (I 68 6)) ≤ nI zj := nI_ge hj (by omega)
    rw [show nv (I 68 6) - zj = (nv (I 68 6) - (zj + 1)) + 1 by omega, q_ln_s] at e2
    have hh := c_isFitting hG hS hj hs h54 hn hour
    cases hq : q_hl (I 68) zj zs hour with
    | false =>
      rw [hq] at hh
      rw [hq, if_neg (by decide)] at e2
      left
      refine ⟨nI (zj + 1), ⟨rfl, e2⟩, fun zrec => ?_⟩
      unfold B_X1_lineFor_2
      simp only [gp_53_0 hG, gp_1_7 hG, Option.bind_some, tb_size tb, if_neg hc, hh, bI_iff, nI_add]
    | true =>
      rw [hq] at hh
      rw [hq, if_pos rfl] at e2
      right
      refine ⟨nI zj, e2.symm, fun zrec => ?_⟩
      unfold B_X1_lineFor_2
      simp only [gp_53_0 hG, gp_1_7 hG, Option.bind_some, tb_size tb, if_neg hc, hh, bI_ift]
  · rintro _ ⟨rfl, e2⟩
    rw [Nat.sub_self] at e2
    refine ⟨-1, e2.symm, fun zrec => ?_⟩
    unfold B_X1_lineFor_2
    simp only [gp_53_0 hG, gp_1_7 hG, Option.bind_some, tb_size tb, if_pos (Int32.le_refl (nI (nv (I 68 6))))]
end Court
