/-! which sites are chosen -/
def q_rcf (A : Nat → Int32) (i j : Nat) (acc : Int32) : Int32 := acc ||| (if q_sgI A i j < A 15 then nI 0 else nI 1 <<< (nI j &&& 31))
def q_rc (A : Nat → Int32) (i : Nat) : Int32 := q_fold (q_rcf A i) (nv (A 3)) (nI 0)
def q_rc8 (A : Nat → Int32) (i : Nat) : Int32 := if i < nv (A 2) then q_rc A i else nI 0
def q_bit (set i : Nat) : Bool := decide ((nI set >>> (nI i &&& 31)) &&& nI 1 = nI 1)
def q_cnt (set ns : Nat) : Nat := q_fold (fun i c => if q_bit set i = true then c + 1 else c) ns 0
theorem q_bitc : ∀ ns, ns < 9 → ∀ set, set < 2 ^ ns → f_J6_bitCount_0f7a4 (nI set) = some (nI (q_cnt set ns)) := by decide +kernel
theorem q_bit_f {set i : Nat} (h : q_bit set i = false) : (nI set >>> (nI i &&& 31)) &&& nI 1 = 0 := by
  obtain ⟨j, h1, h2⟩ := pk_andE (nI set >>> (nI i &&& 31)) (m := nI 1) 1 (by decide)
  unfold q_bit at h
  rw [h2] at h ⊢
  have h3 : j = 0 ∨ j = 1 := by omega
  rcases h3 with h3 | h3
  · rw [h3]; rfl
  · rw [h3] at h; exact absurd h (by decide)
theorem q_bit_t {set i : Nat} (h : q_bit set i = true) : (nI set >>> (nI i &&& 31)) &&& nI 1 = nI 1 := of_decide_eq_true h
def q_rof (A : Nat → Int32) (set i : Nat) (acc : Int32) : Int32 := if q_bit set i = true then acc ||| q_rc A i else acc
def q_ro (A : Nat → Int32) (set : Nat) : Int32 := q_fold (q_rof A set) (nv (A 2)) (nI 0)
def q_cof (A : Nat → Int32) (set i : Nat) (acc : Int32) : Int32 := if q_bit set i = true then acc + A (170 + 4 * i + 3) else acc
def q_co (A : Nat → Int32) (set : Nat) : Int32 := q_fold (q_cof A set) (nv (A 2)) (nI 0)
def q_all1 (A : Nat → Int32) : Int32 := (nI 1 <<< (A 3 &&& 31)) - nI 1
abbrev qC : Type := Bool × Int32 × Int32 × Int32
def q_cvf (A : Nat → Int32) (set : Nat) (s : qC) : qC := if q_ro A set = q_all1 A then (if s.1 = false then (true, q_co A set, nI (q_cnt set (nv (A 2))), nI set) else if q_co A set < s.2.1 then (true, q_co A set, nI (q_cnt set (nv (A 2))), nI set) else if q_co A set = s.2.1 then (if nI (q_cnt set (nv (A 2))) < s.2.2.1 then (true, q_co A set, nI (q_cnt set (nv (A 2))), nI set) else s) else s) else s
def q_cvs (A : Nat → Int32) (k : Nat) : qC := q_fold (q_cvf A) k (false, -1, -1, -1)
theorem q_cvs_s {A : Nat → Int32} {k : Nat} : q_cvs A (k + 1) = q_cvf A k (q_cvs A k) := rfl
theorem q_shl1 : ∀ ns, ns < 9 → (nI 1 <<< (nI ns &&& 31)) = nI (2 ^ ns) := by decide +kernel
theorem q_pow8 {ns : Nat} (h : ns ≤ 8) : 2 ^ ns ≤ 256 := Nat.pow_le_pow_right (by decide) h
section Cover
variable {N : pN} {P : pR} {I J : pI} {L : pL} {zk : Nat}
theorem q_co_rg {A : Nat → Int32} (h2 : nv (A 2) ≤ 8) (hc : ∀ zi, zi < nv (A 2) → rg (A (170 + 4 * zi + 3)) 999) (set : Nat) : ∃ zc, zc ≤ 7992 ∧ q_co A set = nI zc := by
  have h9 : ∀ zm, zm ≤ nv (A 2) → ∃ zc, zc ≤ 999 * zm ∧ q_fold (q_cof A set) zm (nI 0) = nI zc := by
    intro zm
    induction zm with
    | zero => intro _; exact ⟨0, Nat.le_refl _, rfl⟩
    | succ zm ih =>
      intro hm
      obtain ⟨zc, c1, c2⟩ := ih (by omega)
      show ∃ zc, zc ≤ 999 * (zm + 1) ∧ q_cof A set zm (q_fold (q_cof A set) zm (nI 0)) = nI zc
      unfold q_cof
      have hr := hc zm (by omega)
      split
      · refine ⟨zc + nv (A (170 + 4 * zm + 3)), by have := hr.2; omega, ?_⟩
        rw [← nI_add, ← hr.1]
        congr 1
      · exact ⟨zc, by omega, c2⟩
  obtain ⟨zc, c1, c2⟩ := h9 (nv (A 2)) (Nat.le_refl _)
  exact ⟨zc, by omega, c2⟩
theorem q_cvs_i {A : Nat → Int32} (h2 : nv (A 2) ≤ 8) (hc : ∀ zi, zi < nv (A 2) → rg (A (170 + 4 * zi + 3)) 999) : ∀ k, ((q_cvs A k).1 = false ∧ q_cvs A k = (false, -1, -1, -1)) ∨ ((q_cvs A k).1 = true ∧ ¬ (q_cvs A k).2.1 = -1) := by
  intro k
  induction k with
  | zero => exact Or.inl ⟨rfl, rfl⟩
  | succ k ih =>
    rw [q_cvs_s]
    obtain ⟨zc, c1, c2⟩ := q_co_rg h2 hc k
    have hne : ¬ q_co A k = -1 := by rw [c2]; exact n_neg1 (by omega)
    generalize q_cvs A k = zs at ih
    unfold q_cvf
    split
    · split
      · exact Or.inr ⟨rfl, hne⟩
      · split
        · exact Or.inr ⟨rfl, hne⟩
        · split
          · split
            · exact Or.inr ⟨rfl, hne⟩
            · exact ih
          · exact ih
    · exact ih
theorem c_siteReaches (h : cK zk N P I J) {zn : Nat} (hn : 200 < zn) : ∃ J2 K2, f_X5_findSiteReaches zn N J L P 49 = some (J2, K2) ∧ cK zk N P I J2 ∧ ∀ zi, zi < 8 → J2 50 zi = q_rc8 (I 68) zi := by
  have hG := h.gw
  have r2 : rg (I 68 2) 8 := by rw [← h.2.e68]; exact h.1.n2
  have r3 : rg (I 68 3) 8 := by rw [← h.2.e68]; exact h.1.n3
  have h2 := r2.2
  have h3 := r3.2
  have r15 : rg (I 68 15) 9999 := by rw [← h.2.e68]; exact (h.sr.rg.2.1 4 (by decide)).2
  have n15 : ¬ I 68 15 = 0 := by rw [← h.2.e68]; exact h.sr.rg.2.2.1
  have hinner : ∀ zi, zi < 8 → ∀ X Y, cK zk N P I X → ∃ X2 Y2, p_it (B_X5_findSiteReaches_15 zn N P 49 (nI zi)) zn (nI 0, nI 0, X, Y) = some (q_rc8 (I 68) zi, X2, Y2) ∧ cK zk N P I X2 ∧ c_gF X X2 := by
    intro zi hi X Y hX
    have hloop := p_loopI (B := B_X5_findSiteReaches_15 zn N P 49 (nI zi)) (zJ := fun zj (zc : Int32 × Int32 × pI × pL) => zc.1 = (if zi < nv (I 68 2) then q_fold (q_rcf (I 68) zi) zj (nI 0) else nI 0) ∧ zc.2.1 = nI zj ∧ cK zk N P I zc.2.2.1 ∧ c_gF X zc.2.2.1) (zE := fun (zt : Int32 × pI × pL) => zt.1 = q_rc8 (I 68) zi ∧ cK zk N P I zt.2.1 ∧ c_gF X zt.2.1) (zm := nv (I 68 3)) (zn := zn) (by omega) ?_ ?_ (nI 0, nI 0, X, Y) ⟨by dsimp only; split <;> rfl, rfl, hX, c_gF.rf⟩
    · obtain ⟨⟨zt, X2, Y2⟩, k1, k2, k3⟩ := hloop
      dsimp only at k2 k3
      subst k2
      exact ⟨X2, Y2, k1, k3⟩
    · rintro zj hj ⟨za, zb, J, K⟩ ⟨e0, e1, e3, e4⟩
      dsimp only at e0 e1 e3 e4
      subst e1
      left
      have tbn : TB N P J 10 11 8 2 (nv (I 68 3)) := by
        have h9 := e3.sr.rn.2.1
        rw [e3.2.e68] at h9; exact h9
      have hc : ¬ nI (nv (I 68 3)) ≤ nI zj := nI_ge hj (by omega)
      obtain ⟨J2, K2, j1, j2, j3⟩ := e3.ss (L := K) (zn := zn) (by omega) (nI zi) (nI zj)
      have e15 : f_X7_setting N J2 P 1 (nI 4) = some (I 68 15) := by
        have h9 := c_setting hG j2.sr (zw := 4) (by decide)
        rw [j2.2.e68] at h9; exact h9
      refine ⟨((if zi < nv (I 68 2) then q_fold (q_rcf (I 68) zi) (zj + 1) (nI 0) else nI 0), nI (zj + 1), J2, K2), ⟨rfl, rfl, j2, e4.tr j3⟩, fun zrec => ?_⟩
      unfold B_X5_findSiteReaches_15
      simp only [gp_49_0 hG, gp_49_1 hG, gp_1_4 hG, Option.bind_some, tb_size tbn, if_neg hc, j1, e15, n_let, nI_add]
      by_cases hz : zi < nv (I 68 2)
      · have hv : q_sgIv (I 68) (nI zi) (nI zj) = q_sgI (I 68) zi zj := by
          unfold q_sgIv q_of
          rw [q_of_ok (nI_pos (by omega)) (by rw [r2.1]; exact nI_ge hz (by omega)), q_of_ok (nI_pos (by omega)) (by rw [r3.1]; exact nI_ge hj (by omega)), Bool.and_self, if_pos rfl, nv_nI (zk := zi) (by omega), nv_nI (zk := zj) (by omega)]
        rw [if_pos hz] at e0 ⊢
        rw [hv, e0]
        rfl
      · have hv : q_sgIv (I 68) (nI zi) (nI zj) = -1 := by
          unfold q_sgIv q_of
          rw [q_of_in (x := nI zi) (Or.inr (by rw [r2.1]; exact nI_le (by omega) (by omega))), Bool.false_and]; rfl
        have hlt : (-1 : Int32) < I 68 15 := by
          rw [r15.1]
          refine Int32.lt_of_lt_of_le (b := 0) (by decide) (nI_pos' (by have := r15.2; omega))
        rw [if_neg hz] at e0 ⊢
        rw [hv, if_pos hlt, e0]
        rfl
    · rintro ⟨za, zb, J, K⟩ ⟨e0, e1, e3, e4⟩
      dsimp only at e0 e1 e3 e4
      subst e1
      have tbn : TB N P J 10 11 8 2 (nv (I 68 3)) := by
        have h9 := e3.sr.rn.2.1
        rw [e3.2.e68] at h9; exact h9
      refine ⟨(za, J, K), ⟨e0, e3, e4⟩, fun zrec => ?_⟩
      unfold B_X5_findSiteReaches_15
      simp only [gp_49_0 hG, gp_1_4 hG, Option.bind_some, tb_size tbn, if_pos (Int32.le_refl (nI (nv (I 68 3))))]
  have hloop := p_loopI (B := B_X5_findSiteReaches_2 zn N P 49) (zJ := fun zj (zc : Int32 × pI × pL) => zc.1 = nI zj ∧ cK zk N P I zc.2.1 ∧ ∀ zi, zi < zj → zc.2.1 50 zi = q_rc8 (I 68) zi) (zE := fun (zt : pI × pL) => cK zk N P I zt.1 ∧ ∀ zi, zi < 8 → zt.1 50 zi = q_rc8 (I 68) zi) (zm := 8) (zn := zn) (by omega) ?_ ?_ (nI 0, J, L) ⟨rfl, h, fun zi hi => absurd hi (Nat.not_lt_zero zi)⟩
  · obtain ⟨⟨J2, K2⟩, k1, k2⟩ := hloop
    refine ⟨J2, K2, ?_, k2⟩
    unfold f_X5_findSiteReaches
    rw [k1, Option.bind_some]
  · rintro zj hj ⟨zb, J, K⟩ ⟨e1, e3, e4⟩
    dsimp only at e1 e3 e4
    subst e1
    left
    have hc : ¬ nI (N.2 50).2 ≤ nI zj := by rw [gn_50 hG]; exact nI_ge hj (by decide)
    have hib : p_ib N 50 (nI zj) = true := n_ib (gn_50 hG) hj (by decide)
    have kcl : (nI zj).toNatClampNeg = zj := nI_clamp (by omega)
    obtain ⟨X2, Y2, x1, x2, x3⟩ := hinner zj hj J K e3
    refine ⟨(nI (zj + 1), p_u X2 50 zj (q_rc8 (I 68) zj), Y2), ⟨rfl, ⟨x2.1.scratch (fun zq hq => p_u_ne (by omega)), x2.2.tr (fun zq a b c d e => p_u_ne (by omega))⟩, fun zi hi => ?_⟩, fun zrec => ?_⟩
    · dsimp only
      by_cases hz : zi = zj
      · rw [hz, p_u_self]
      · rw [p_u_nk hz, x3 50 (by decide) (by decide) (by decide) (by decide) (by decide) (by decide) (by decide)]; exact e4 zi (by omega)
    · unfold B_X5_findSiteReaches_2
      simp only [gp_49_2 hG, Option.bind_some, if_neg hc, x1, n_ck hib, kcl, n_let, nI_add]
  · rintro ⟨zb, J, K⟩ ⟨e1, e3, e4⟩
    dsimp only at e1 e3 e4
    subst e1
    have hc : nI (N.2 50).2 ≤ nI 8 := by rw [gn_50 hG]; decide
    refine ⟨(J, K), ⟨e3, e4⟩, fun zrec => ?_⟩
    unfold B_X5_findSiteReaches_2
    simp only [gp_49_2 hG, Option.bind_some, if_pos hc]
theorem c_reachOf (hG : GW N P) {A : Nat → Int32} (h2 : nv (A 2) ≤ 8) (h50 : ∀ zi, zi < 8 → I 50 zi = q_rc8 A zi) {set zn : Nat} (hn : 200 < zn) : f_X5_reachOf zn N I P 49 (nI set) = some (q_ro A set) := by
  have hloop := p_loopI (B := B_X5_reachOf_4 N I P 49 (nI set)) (zJ := fun zj (zc : Int32 × Int32) => zc.1 = q_fold (fun i acc => if q_bit set i = true then acc ||| q_rc8 A i else acc) zj (nI 0) ∧ zc.2 = nI zj) (zE := fun zt => zt = q_ro A set) (zm := 8) (zn := zn) (by omega) ?_ ?_ (nI 0, nI 0) ⟨rfl, rfl⟩
  · obtain ⟨zt, k1, k2⟩ := hloop
    unfold f_X5_reachOf
    rw [k1, Option.bind_some, k2]
  · rintro zj hj ⟨za, zb⟩ ⟨e0, e1⟩
    dsimp only at e0 e1
    subst e1
    left
    have hc : ¬ nI (N.2 50).2 ≤ nI zj := by rw [gn_50 hG]; exact nI_ge hj (by decide)
    have hib : p_ib N 50 (nI zj) = true := n_ib (gn_50 hG) hj (by decide)
    have kcl : (nI zj).toNatClampNeg = zj := nI_clamp (by omega)
    refine ⟨(if q_bit set zj = true then za ||| q_rc8 A zj else za, nI (zj + 1)), ⟨by rw [e0]; rfl, rfl⟩, fun zrec => ?_⟩
    unfold B_X5_reachOf_4
    cases hb : q_bit set zj with
    | true => simp only [gp_49_2 hG, Option.bind_some, if_neg hc, if_pos (q_bit_t hb), n_ck hib, kcl, h50 zj hj, nI_add, if_true]
    | false =>
      have hb2 : ¬ (nI set >>> (nI zj &&& 31)) &&& nI 1 = nI 1 := by rw [q_bit_f hb]; decide
      simp only [gp_49_2 hG, Option.bind_some, if_neg hc, if_neg hb2, nI_add, Bool.false_eq_true, if_false]
      rw [nI_0, Int32.or_zero]
  · rintro ⟨za, zb⟩ ⟨e0, e1⟩
    dsimp only at e0 e1
    subst e1
    have hc : nI (N.2 50).2 ≤ nI 8 := by rw [gn_50 hG]; decide
    refine ⟨za, ?_, fun zrec => ?_⟩
    · rw [e0]
      unfold q_ro
      rw [q_fold_to (zn := nv (A 2)) (zm := 8) h2 (fun zj a b za => by
        have hz : ¬ zj < nv (A 2) := by omega
        unfold q_rc8
        rw [if_neg hz, nI_0, Int32.or_zero, ite_self])]
      have h9 : ∀ zm, zm ≤ nv (A 2) → q_fold (fun i acc => if q_bit set i = true then acc ||| q_rc8 A i else acc) zm (nI 0) = q_fold (q_rof A set) zm (nI 0) := by
        intro zm
        induction zm with
        | zero => intro _; rfl
        | succ zm ih =>
          intro hm
          show (if q_bit set zm = true then q_fold (fun i acc => if q_bit set i = true then acc ||| q_rc8 A i else acc) zm (nI 0) ||| q_rc8 A zm else q_fold (fun i acc => if q_bit set i = true then acc ||| q_rc8 A i else acc) zm (nI 0)) = q_rof A set zm (q_fold (q_rof A set) zm (nI 0))
          rw [ih (by omega)]
          unfold q_rof q_rc8
          rw [if_pos (show zm < nv (A 2) by omega)]
      exact h9 _ (Nat.le_refl _)
    · unfold B_X5_reachOf_4
      simp only [gp_49_2 hG, Option.bind_some, if_pos hc]
theorem c_costOf (hG : GW N P) (hS : SR N P I 1 0) {set zn : Nat} (hn : 200 < zn) : f_X5_costOf zn N I P 49 (nI set) = some (q_co (I 68) set) := by
  have tb : TB N P I 8 9 8 4 (nv (I 68 2)) := hS.ri.2.1
  have r2 : rg (I 68 2) 8 := hS.ri.1
  have h2 := r2.2
  have hloop := p_loopI (B := B_X5_costOf_4 N I P 49 (nI set)) (zJ := fun zj (zc : Int32 × Int32) => zc.1 = q_fold (q_cof (I 68) set) zj (nI 0) ∧ zc.2 = nI zj) (zE := fun zt => zt = q_co (I 68) set) (zm := nv (I 68 2)) (zn := zn) (by omega) ?_ ?_ (nI 0, nI 0) ⟨rfl, rfl⟩
  · obtain ⟨zt, k1, k2⟩ := hloop
    unfold f_X5_costOf
    rw [k1, Option.bind_some, k2]
  · rintro zj hj ⟨za, zb⟩ ⟨e0, e1⟩
    dsimp only at e0 e1
    subst e1
    left
    have hc : ¬ nI (nv (I 68 2)) ≤ nI zj := nI_ge hj (by omega)
    have ec : I 9 (zj * 4 + 3) = I 68 (170 + 4 * zj + 3) := (hS.ri.2.2 zj hj).1 3 (by decide)
    refine ⟨(q_cof (I 68) set zj za, nI (zj + 1)), ⟨by rw [e0]; rfl, rfl⟩, fun zrec => ?_⟩
    unfold B_X5_costOf_4 q_cof
    cases hb : q_bit set zj with
    | true => simp only [gp_49_0 hG, gp_1_3 hG, Option.bind_some, tb_size tb, if_neg hc, if_pos (q_bit_t hb), tb_get tb hj (show 3 < 4 by decide), ec, nI_add, if_true]
    | false =>
      have hb2 : ¬ (nI set >>> (nI zj &&& 31)) &&& nI 1 = nI 1 := by rw [q_bit_f hb]; decide
      simp only [gp_49_0 hG, gp_1_3 hG, Option.bind_some, tb_size tb, if_neg hc, if_neg hb2, nI_add, Bool.false_eq_true, if_false]
      rw [nI_0, Int32.add_zero]
  · rintro ⟨za, zb⟩ ⟨e0, e1⟩
    dsimp only at e0 e1
    subst e1
    refine ⟨za, e0, fun zrec => ?_⟩
    unfold B_X5_costOf_4
    simp only [gp_49_0 hG, gp_1_3 hG, Option.bind_some, tb_size tb, if_pos (Int32.le_refl (nI (nv (I 68 2))))]
theorem c_offer {s : qC} {zc zm : Int32} {set : Nat} (h5 : I 49 5 = s.2.1) (h6 : I 49 6 = s.2.2.1) (h7 : I 49 7 = s.2.2.2) (hs : (s.1 = false ∧ s = (false, -1, -1, -1)) ∨ (s.1 = true ∧ ¬ s.2.1 = -1)) : ∃ J, f_X5_offer I 49 (nI set) zc zm = some J ∧ (∀ zq, zq ≠ 49 → J zq = I zq) ∧ ∀ t : qC, t = (if s.1 = false then (true, zc, zm, nI set) else if zc < s.2.1 then (true, zc, zm, nI set) else if zc = s.2.1 then (if zm < s.2.2.1 then (true, zc, zm, nI set) else s) else s) → J 49 5 = t.2.1 ∧ J 49 6 = t.2.2.1 ∧ J 49 7 = t.2.2.2 := by
  have hput : ∀ t : qC, t = (true, zc, zm, nI set) → p_u (p_u (p_u I 49 5 zc) 49 6 zm) 49 7 (nI set) 49 5 = t.2.1 ∧ p_u (p_u (p_u I 49 5 zc) 49 6 zm) 49 7 (nI set) 49 6 = t.2.2.1 ∧ p_u (p_u (p_u I 49 5 zc) 49 6 zm) 49 7 (nI set) 49 7 = t.2.2.2 := fun t ht => by
    rw [ht, p_u_nk (by decide), p_u_nk (by decide), p_u_self, p_u_nk (by decide), p_u_self, p_u_self]
    exact ⟨rfl, rfl, rfl⟩
  have hfr : ∀ zq, zq ≠ 49 → p_u (p_u (p_u I 49 5 zc) 49 6 zm) 49 7 (nI set) zq = I zq := fun zq h => by rw [p_u_ne h, p_u_ne h, p_u_ne h]
  unfold f_X5_offer
  simp only [n_let, h5, h6]
  rcases hs with ⟨s1, s2⟩ | ⟨s1, s2⟩
  · have e : s.2.1 = -1 := by rw [s2]
    rw [if_pos e]
    refine ⟨_, rfl, hfr, fun t ht => hput t ?_⟩
    rw [ht, if_pos s1]
  · have s3 : ¬ s.1 = false := by rw [s1]; decide
    rw [if_neg s2, if_neg s3]
    by_cases g1 : zc < s.2.1
    · rw [if_pos g1, if_pos g1]
      exact ⟨_, rfl, hfr, hput⟩
    · rw [if_neg g1, if_neg g1]
      by_cases g2 : zc = s.2.1
      · rw [if_pos g2, if_pos g2]
        by_cases g3 : zm < s.2.2.1
        · rw [if_neg (Int32.not_le.mpr g3), if_pos g3]
          exact ⟨_, rfl, hfr, hput⟩
        · rw [if_pos (Int32.not_lt.mp g3), if_neg g3]
          exact ⟨_, rfl, fun _ _ => rfl, fun t ht => by rw [ht]; exact ⟨h5, h6, h7⟩⟩
      · rw [if_neg g2, if_neg g2]
        exact ⟨_, rfl, fun _ _ => rfl, fun t ht => by rw [ht]; exact ⟨h5, h6, h7⟩⟩
theorem c_choose (h : IV zk N P I) {zn : Nat} (hn : 3000 < zn) : ∃ J K, f_X5_chooseSites zn N I L P 49 = some (J, K) ∧ cK zk N P I J ∧ J 49 5 = (q_cvs (I 68) (2 ^ nv (I 68 2))).2.1 ∧ J 49 6 = (q_cvs (I 68) (2 ^ nv (I 68 2))).2.2.1 ∧ J 49 7 = (q_cvs (I 68) (2 ^ nv (I 68 2))).2.2.2 := by
  have hG := h.gw
  have r2 := h.n2
  have r3 := h.n3
  have h2 := r2.2
  have h3 := r3.2
  have hcs : ∀ zi, zi < nv (I 68 2) → rg (I 68 (170 + 4 * zi + 3)) 999 := fun zi hi => (h.sr.ri.2.2 zi hi).2.2.2.2
  obtain ⟨J0, K0, a1, a2, a3⟩ := c_siteReaches (L := L) (cK.rf h) (zn := zn) (by omega)
  have hpw := q_pow8 h2
  have hsh := q_shl1 (nv (I 68 2)) (by omega)
  have hJ7 : cK zk N P I (p_u (p_u (p_u J0 49 5 (-1)) 49 6 (-1)) 49 7 (-1)) := ⟨a2.1.scratch (fun zq hq => by rw [p_u_ne (by omega), p_u_ne (by omega), p_u_ne (by omega)]), a2.2.tr (fun zq a b c d e => by rw [p_u_ne (by omega), p_u_ne (by omega), p_u_ne (by omega)])⟩
  have hloop := p_loopI (B := B_X5_chooseSites_36 zn N P (q_all1 (I 68)) 49) (zJ := fun zj (zc : Int32 × pI) => zc.1 = nI zj ∧ cK zk N P I zc.2 ∧ (∀ zi, zi < 8 → zc.2 50 zi = q_rc8 (I 68) zi) ∧ zc.2 49 5 = (q_cvs (I 68) zj).2.1 ∧ zc.2 49 6 = (q_cvs (I 68) zj).2.2.1 ∧ zc.2 49 7 = (q_cvs (I 68) zj).2.2.2) (zE := fun (J : pI) => cK zk N P I J ∧ J 49 5 = (q_cvs (I 68) (2 ^ nv (I 68 2))).2.1 ∧ J 49 6 = (q_cvs (I 68) (2 ^ nv (I 68 2))).2.2.1 ∧ J 49 7 = (q_cvs (I 68) (2 ^ nv (I 68 2))).2.2.2) (zm := 2 ^ nv (I 68 2)) (zn := zn) (by omega) ?_ ?_ (nI 0, p_u (p_u (p_u J0 49 5 (-1)) 49 6 (-1)) 49 7 (-1)) ⟨rfl, hJ7, fun zi hi => by dsimp only; rw [p_u_ne (by decide), p_u_ne (by decide), p_u_ne (by decide)]; exact a3 zi hi, by dsimp only; rw [p_u_nk (by decide), p_u_nk (by decide), p_u_self]; rfl, by dsimp only; rw [p_u_nk (by decide), p_u_self]; rfl, by dsimp only; rw [p_u_self]; rfl⟩
  · obtain ⟨J, k1, k2⟩ := hloop
    refine ⟨J, K0, ?_, k2⟩
    have tbn : TB N P (p_u (p_u (p_u J0 49 5 (-1)) 49 6 (-1)) 49 7 (-1)) 10 11 8 2 (nv (I 68 3)) := by
      have h9 := hJ7.sr.rn.2.1
      rw [hJ7.2.e68] at h9; exact h9
    have eall : (nI 1 <<< (nI (nv (I 68 3)) &&& 31)) - nI 1 = q_all1 (I 68) := by unfold q_all1; rw [← r3.1]
    unfold f_X5_chooseSites
    simp only [a1, Option.bind_some, n_let, gp_49_0 hG, gp_1_4 hG, tb_size tbn, eall, k1]
  · rintro zj hj ⟨zb, J⟩ ⟨e1, e3, e50, e5, e6, e7⟩
    dsimp only at e1 e3 e50 e5 e6 e7
    subst e1
    left
    have tbi : TB N P J 8 9 8 4 (nv (I 68 2)) := by
      have h9 := e3.sr.ri.2.1
      rw [e3.2.e68] at h9; exact h9
    have hc : ¬ nI (2 ^ nv (I 68 2)) ≤ nI zj := nI_ge hj (by omega)
    have hro := c_reachOf hG (A := I 68) h2 e50 (set := zj) (zn := zn) (by omega)
    have hco : f_X5_costOf zn N J P 49 (nI zj) = some (q_co (I 68) zj) := by rw [c_costOf hG e3.sr (by omega), e3.2.e68]
    have hbc := q_bitc (nv (I 68 2)) (by omega) zj hj
    have hnx := q_cvs_s (A := I 68) (k := zj)
    unfold q_cvf at hnx
    by_cases hall : q_ro (I 68) zj = q_all1 (I 68)
    · obtain ⟨J2, o1, o2, o3⟩ := c_offer (zc := q_co (I 68) zj) (zm := nI (q_cnt zj (nv (I 68 2)))) (set := zj) e5 e6 e7 (q_cvs_i h2 hcs zj)
      rw [if_pos hall] at hnx
      refine ⟨(nI (zj + 1), J2), ⟨rfl, ⟨e3.1.scratch (fun zq hq => o2 zq (by omega)), e3.2.tr (fun zq a b c d e => o2 zq (by omega))⟩, fun zi hi => by dsimp only; rw [o2 50 (by decide)]; exact e50 zi hi, o3 _ hnx⟩, fun zrec => ?_⟩
      unfold B_X5_chooseSites_36
      simp only [gp_49_0 hG, gp_1_3 hG, Option.bind_some, tb_size tbi, hsh, if_neg hc, hro, if_pos hall, hco, hbc, o1, nI_add]
    · rw [if_neg hall] at hnx
      refine ⟨(nI (zj + 1), J), ⟨rfl, e3, e50, by rw [hnx]; exact e5, by rw [hnx]; exact e6, by rw [hnx]; exact e7⟩, fun zrec => ?_⟩
      unfold B_X5_chooseSites_36
      simp only [gp_49_0 hG, gp_1_3 hG, Option.bind_some, tb_size tbi, hsh, if_neg hc, hro, if_neg hall, nI_add]
  · rintro ⟨zb, J⟩ ⟨e1, e3, e50, e5, e6, e7⟩
    dsimp only at e1 e3 e50 e5 e6 e7
    subst e1
    have tbi : TB N P J 8 9 8 4 (nv (I 68 2)) := by
      have h9 := e3.sr.ri.2.1
      rw [e3.2.e68] at h9; exact h9
    refine ⟨J, ⟨e3, e5, e6, e7⟩, fun zrec => ?_⟩
    unfold B_X5_chooseSites_36
    simp only [gp_49_0 hG, gp_1_3 hG, Option.bind_some, tb_size tbi, hsh, if_pos (Int32.le_refl (nI (2 ^ nv (I 68 2))))]
end Cover
