/-! which senders clash -/
def q_mkf (p : Nat → Bool) (j : Nat) (acc : Int32) : Int32 := acc ||| (if p j = true then nI 1 <<< (nI j &&& 31) else nI 0)
def q_mk (p : Nat → Bool) (k : Nat) : Int32 := q_fold (q_mkf p) k (nI 0)
theorem q_mk_bit {p : Nat → Bool} : ∀ k, k ≤ 8 → ∀ i, (q_mk p k).toBitVec.getLsbD i = (decide (i < k) && p i) := by
  intro k
  induction k with
  | zero =>
    intro _ i
    show (nI 0).toBitVec.getLsbD i = _
    have h0 : (nI 0).toBitVec = BitVec.ofNat 32 0 := rfl
    rw [h0, BitVec.getLsbD_ofNat, Nat.zero_testBit, Bool.and_false]
    rfl
  | succ k ih =>
    intro hk i
    show (q_mkf p k (q_mk p k)).toBitVec.getLsbD i = _
    unfold q_mkf
    rw [Int32.toBitVec_or, BitVec.getLsbD_or, ih (by omega)]
    cases hp : p k with
    | false =>
      rw [if_neg (by decide)]
      have h0 : (nI 0).toBitVec = BitVec.ofNat 32 0 := rfl
      rw [h0, BitVec.getLsbD_ofNat, Nat.zero_testBit, Bool.and_false, Bool.or_false]
      by_cases hi : i = k
      · rw [hi, hp, Bool.and_false, Bool.and_false]
      · have h1 : decide (i < k) = decide (i < k + 1) := decide_eq_decide.mpr (by omega)
        rw [h1]
    | true =>
      rw [if_pos rfl, q_shl1 k (by omega)]
      have h0 : (nI (2 ^ k)).toBitVec = BitVec.ofNat 32 (2 ^ k) := rfl
      rw [h0, BitVec.getLsbD_ofNat, Nat.testBit_two_pow]
      by_cases hi : i = k
      · rw [hi, hp, decide_eq_true (show k < 32 by omega), decide_eq_true (rfl : k = k), decide_eq_true (show k < k + 1 by omega)]
        cases decide (k < k) <;> rfl
      · have h1 : decide (i < k) = decide (i < k + 1) := decide_eq_decide.mpr (by omega)
        rw [h1, decide_eq_false (show ¬ k = i from fun e => hi e.symm), Bool.and_false, Bool.or_false]
theorem q_mk_neg {p : Nat → Bool} {k : Nat} (hk : k ≤ 8) : ¬ q_mk p k = -1 := by
  intro e
  have h1 := q_mk_bit (p := p) k hk 31
  rw [e, decide_eq_false (show ¬ 31 < k by omega), Bool.false_and] at h1
  exact absurd h1 (by decide)
theorem q_mk_and {p r : Nat → Bool} {k : Nat} (hk : k ≤ 8) : (q_mk p k &&& q_mk r k = 0) ↔ ∀ j, j < k → (p j && r j) = false := by
  constructor
  · intro e j hj
    have h1 : (q_mk p k &&& q_mk r k).toBitVec.getLsbD j = false := by
      rw [e]
      have h0 : (0 : Int32).toBitVec = BitVec.ofNat 32 0 := rfl
      rw [h0, BitVec.getLsbD_ofNat, Nat.zero_testBit, Bool.and_false]
    rw [Int32.toBitVec_and, BitVec.getLsbD_and, q_mk_bit k hk, q_mk_bit k hk, decide_eq_true hj, Bool.true_and, Bool.true_and] at h1
    exact h1
  · intro h
    apply Int32.toBitVec_inj.mp
    apply BitVec.eq_of_getLsbD_eq
    intro i _
    have h0 : (0 : Int32).toBitVec = BitVec.ofNat 32 0 := rfl
    rw [Int32.toBitVec_and, BitVec.getLsbD_and, q_mk_bit k hk, q_mk_bit k hk, h0, BitVec.getLsbD_ofNat, Nat.zero_testBit, Bool.and_false]
    by_cases hi : i < k
    · rw [decide_eq_true hi, Bool.true_and, Bool.true_and, h i hi]
    · rw [decide_eq_false hi]; rfl
def q_sgN (A : Nat → Int32) (s n : Nat) : Int32 := q_sgS A s (nv (A (202 + 2 * n))) (nv (A (202 + 2 * n + 1)))
def q_ls (A : Nat → Int32) (s n : Nat) : Bool := !decide (q_sgN A s n < A 15)
def q_cl (A : Nat → Int32) (a b : Nat) : Bool := q_fold (fun n c => c || (q_ls A a n && q_ls A b n)) (nv (A 3)) false
def q_rs (A : Nat → Int32) (s : Nat) : Int32 := if q_st A (nI s) = true then q_mk (q_ls A s) (nv (A 3)) else -1
theorem q_any_f {g : Nat → Bool} : ∀ k, (q_fold (fun n c => c || g n) k false = false) ↔ ∀ j, j < k → g j = false := by
  intro k
  induction k with
  | zero => exact ⟨fun _ j hj => absurd hj (Nat.not_lt_zero j), fun _ => rfl⟩
  | succ k ih =>
    show ((q_fold (fun n c => c || g n) k false || g k) = false) ↔ _
    rw [Bool.or_eq_false_iff, ih]
    constructor
    · rintro ⟨h1, h2⟩ j hj
      by_cases hz : j = k
      · rw [hz]; exact h2
      · exact h1 j (by omega)
    · intro h
      exact ⟨fun j hj => h j (by omega), h k (by omega)⟩
theorem q_cl_mk {A : Nat → Int32} (h3 : nv (A 3) ≤ 8) {a b : Nat} : (q_mk (q_ls A a) (nv (A 3)) &&& q_mk (q_ls A b) (nv (A 3)) = 0) ↔ q_cl A a b = false := by
  rw [q_mk_and h3]
  unfold q_cl
  exact (q_any_f (g := fun n => q_ls A a n && q_ls A b n) _).symm
theorem q_cl_comm {A : Nat → Int32} {a b : Nat} : q_cl A a b = q_cl A b a := by
  unfold q_cl
  have h : (fun n c => c || (q_ls A a n && q_ls A b n)) = fun n c => c || (q_ls A b n && q_ls A a n) := by
    funext n c
    rw [Bool.and_comm (q_ls A a n)]
  rw [h]
section Clash
variable {N : pN} {P : pR} {I J : pI} {L : pL} {zk : Nat}
theorem c_findReaches (h : cK zk N P I J) {zn : Nat} (hn : 200 < zn) : ∃ J2 K2, f_X5_findReaches zn N J L P 49 = some (J2, K2) ∧ cK zk N P I J2 ∧ ∀ zi, zi < 6 → J2 51 zi = q_rs (I 68) zi := by
  have hG := h.gw
  have r3 : rg (I 68 3) 8 := by rw [← h.2.e68]; exact h.1.n3
  have h3 := r3.2
  have r15 : rg (I 68 15) 9999 := by rw [← h.2.e68]; exact (h.sr.rg.2.1 4 (by decide)).2
  have hinner : ∀ zi, zi < 6 → ∀ X Y, cK zk N P I X → ∃ X2 Y2, p_it (B_X5_findReaches_30 zn N P 49 (nI zi)) zn (if q_st (I 68) (nI zi) = true then nI 0 else -1, nI 0, X, Y) = some (q_rs (I 68) zi, X2, Y2) ∧ cK zk N P I X2 ∧ c_gF X X2 := by
    intro zi hi X Y hX
    have hloop := p_loopI (B := B_X5_findReaches_30 zn N P 49 (nI zi)) (zJ := fun zj (zc : Int32 × Int32 × pI × pL) => zc.1 = (if q_st (I 68) (nI zi) = true then q_mk (q_ls (I 68) zi) zj else -1) ∧ zc.2.1 = nI zj ∧ cK zk N P I zc.2.2.1 ∧ c_gF X zc.2.2.1) (zE := fun (zt : Int32 × pI × pL) => zt.1 = q_rs (I 68) zi ∧ cK zk N P I zt.2.1 ∧ c_gF X zt.2.1) (zm := nv (I 68 3)) (zn := zn) (by omega) ?_ ?_ (if q_st (I 68) (nI zi) = true then nI 0 else -1, nI 0, X, Y) ⟨rfl, rfl, hX, c_gF.rf⟩
    · obtain ⟨⟨zt, X2, Y2⟩, k1, k2, k3⟩ := hloop
      dsimp only at k2 k3
      subst k2
      exact ⟨X2, Y2, k1, k3⟩
    · rintro zj hj ⟨za, zb, J, K⟩ ⟨e0, e1, e3, e4⟩
      dsimp only at e0 e1 e3 e4
      subst e1
      left
      have tbn : TB N P J 10 11 8 2 (nv (I 68 3)) := by
        have h9 := e3.sr.rn.2.1
        rw [e3.2.e68] at h9; exact h9
      have hcn := e3.sr.rn.2.2 zj (by rw [e3.2.e68]; exact hj)
      have c0 : J 11 (zj * 2 + 0) = nI (nv (I 68 (202 + 2 * zj))) ∧ nv (I 68 (202 + 2 * zj)) ≤ 20 := by
        have h8 : J 11 (zj * 2 + 0) = J 68 (202 + 2 * zj) ∧ rg (J 68 (202 + 2 * zj)) 20 := hcn 0 (by decide)
        rw [e3.2.e68] at h8
        exact ⟨h8.1.trans h8.2.1, h8.2.2⟩
      have c1 : J 11 (zj * 2 + 1) = nI (nv (I 68 (202 + 2 * zj + 1))) ∧ nv (I 68 (202 + 2 * zj + 1)) ≤ 20 := by
        have h8 : J 11 (zj * 2 + 1) = J 68 (202 + 2 * zj + 1) ∧ rg (J 68 (202 + 2 * zj + 1)) 20 := hcn 1 (by decide)
        rw [e3.2.e68] at h8
        exact ⟨h8.1.trans h8.2.1, h8.2.2⟩
      have hc : ¬ nI (nv (I 68 3)) ≤ nI zj := nI_ge hj (by omega)
      obtain ⟨J2, K2, j1, j2, j3⟩ := e3.sg (L := K) (zn := zn) (by omega) (nI zi) (nI (nv (I 68 (202 + 2 * zj)))) (nI (nv (I 68 (202 + 2 * zj + 1))))
      have e15 : f_X7_setting N J2 P 1 (nI 4) = some (I 68 15) := by
        have h9 := c_setting hG j2.sr (zw := 4) (by decide)
        rw [j2.2.e68] at h9; exact h9
      refine ⟨((if q_st (I 68) (nI zi) = true then q_mk (q_ls (I 68) zi) (zj + 1) else -1), nI (zj + 1), J2, K2), ⟨rfl, rfl, j2, e4.tr j3⟩, fun zrec => ?_⟩
      unfold B_X5_findReaches_30
      simp only [gp_49_0 hG, gp_49_1 hG, gp_1_4 hG, Option.bind_some, tb_size tbn, if_neg hc, tb_get tbn hj (show 0 < 2 by decide), tb_get tbn hj (show 1 < 2 by decide), c0.1, c1.1, j1, e15, n_let, nI_add]
      cases hst : q_st (I 68) (nI zi) with
      | true =>
        rw [hst] at e0
        rw [if_pos rfl] at e0 ⊢
        rw [q_sgv_n hst (by omega) c0.2 c1.2, e0]
        show zrec (q_mk (q_ls (I 68) zi) zj ||| (if q_sgN (I 68) zi zj < I 68 15 then nI 0 else nI 1 <<< (nI zj &&& 31)), _, _, _) = zrec (q_mk (q_ls (I 68) zi) zj ||| (if q_ls (I 68) zi zj = true then nI 1 <<< (nI zj &&& 31) else nI 0), _, _, _)
        unfold q_ls
        by_cases hl : q_sgN (I 68) zi zj < I 68 15
        · rw [if_pos hl, decide_eq_true hl]; rfl
        · rw [if_neg hl, decide_eq_false hl]; rfl
      | false =>
        have hv : q_sgv (I 68) (nI zi) (nI (nv (I 68 (202 + 2 * zj)))) (nI (nv (I 68 (202 + 2 * zj + 1)))) = -1 := by
          unfold q_sgv
          rw [hst, Bool.false_and]; rfl
        have hlt : (-1 : Int32) < I 68 15 := by
          rw [r15.1]
          exact Int32.lt_of_lt_of_le (b := 0) (by decide) (nI_pos' (by have := r15.2; omega))
        rw [hst] at e0
        simp only [Bool.false_eq_true, if_false] at e0 ⊢
        rw [hv, if_pos hlt, e0]
        rfl
    · rintro ⟨za, zb, J, K⟩ ⟨e0, e1, e3, e4⟩
      dsimp only at e0 e1 e3 e4
      subst e1
      have tbn : TB N P J 10 11 8 2 (nv (I 68 3)) := by
        have h9 := e3.sr.rn.2.1
        rw [e3.2.e68] at h9; exact h9
      refine ⟨(za, J, K), ⟨e0, e3, e4⟩, fun zrec => ?_⟩
      unfold B_X5_findReaches_30
      simp only [gp_49_0 hG, gp_1_4 hG, Option.bind_some, tb_size tbn, if_pos (Int32.le_refl (nI (nv (I 68 3))))]
  have hloop := p_loopI (B := B_X5_findReaches_2 zn N P 49) (zJ := fun zj (zc : Int32 × pI × pL) => zc.1 = nI zj ∧ cK zk N P I zc.2.1 ∧ ∀ zi, zi < zj → zc.2.1 51 zi = q_rs (I 68) zi) (zE := fun (zt : pI × pL) => cK zk N P I zt.1 ∧ ∀ zi, zi < 6 → zt.1 51 zi = q_rs (I 68) zi) (zm := 6) (zn := zn) (by omega) ?_ ?_ (nI 0, J, L) ⟨rfl, h, fun zi hi => absurd hi (Nat.not_lt_zero zi)⟩
  · obtain ⟨⟨J2, K2⟩, k1, k2⟩ := hloop
    refine ⟨J2, K2, ?_, k2⟩
    unfold f_X5_findReaches
    rw [k1, Option.bind_some]
  · rintro zj hj ⟨zb, J, K⟩ ⟨e1, e3, e4⟩
    dsimp only at e1 e3 e4
    subst e1
    left
    have hc : ¬ nI (N.2 51).2 ≤ nI zj := by rw [gn_51 hG]; exact nI_ge hj (by decide)
    have hib : p_ib N 51 (nI zj) = true := n_ib (gn_51 hG) hj (by decide)
    have kcl : (nI zj).toNatClampNeg = zj := nI_clamp (by omega)
    obtain ⟨X2, Y2, x1, x2, x3⟩ := hinner zj hj J K e3
    have hini : (if bI (q_st (I 68) (nI zj)) = 0 then (-1 : Int32) else nI 0) = (if q_st (I 68) (nI zj) = true then nI 0 else -1) := by rw [bI_if]
    refine ⟨(nI (zj + 1), p_u X2 51 zj (q_rs (I 68) zj), Y2), ⟨rfl, ⟨x2.1.scratch (fun zq hq => p_u_ne (by omega)), x2.2.tr (fun zq a b c d e => p_u_ne (by omega))⟩, fun zi hi => ?_⟩, fun zrec => ?_⟩
    · dsimp only
      by_cases hz : zi = zj
      · rw [hz, p_u_self]
      · rw [p_u_nk hz, x3 51 (by decide) (by decide) (by decide) (by decide) (by decide) (by decide) (by decide)]; exact e4 zi (by omega)
    · unfold B_X5_findReaches_2
      simp only [gp_49_0 hG, gp_49_3 hG, Option.bind_some, if_neg hc, e3.stands, hini, n_let, x1, n_ck hib, kcl, nI_add]
  · rintro ⟨zb, J, K⟩ ⟨e1, e3, e4⟩
    dsimp only at e1 e3 e4
    subst e1
    have hc : nI (N.2 51).2 ≤ nI 6 := by rw [gn_51 hG]; decide
    refine ⟨(J, K), ⟨e3, e4⟩, fun zrec => ?_⟩
    unfold B_X5_findReaches_2
    simp only [gp_49_3 hG, Option.bind_some, if_pos hc]
def q_clS (A : Nat → Int32) (a b : Nat) : Bool := q_st A (nI a) && (q_st A (nI b) && q_cl A a b)
theorem c_areClashing (hG : GW N P) {A : Nat → Int32} (h3 : nv (A 3) ≤ 8) (h51 : ∀ zi, zi < 6 → I 51 zi = q_rs A zi) {za zb : Nat} (ha : za < 6) (hb : zb < 6) : f_X5_areClashing N I 51 (nI za) (nI zb) = some (bI (q_clS A za zb)) := by
  have hc1 : ¬ nI (N.2 51).2 ≤ nI za := by rw [gn_51 hG]; exact nI_ge ha (by decide)
  have hc2 : nI zb < nI (N.2 51).2 := by rw [gn_51 hG]; exact nI_lt hb (by decide)
  have hib1 : p_ib N 51 (nI za) = true := n_ib (gn_51 hG) ha (by decide)
  have hib2 : p_ib N 51 (nI zb) = true := n_ib (gn_51 hG) hb (by decide)
  have k1 : (nI za).toNatClampNeg = za := nI_clamp (by omega)
  have k2 : (nI zb).toNatClampNeg = zb := nI_clamp (by omega)
  unfold f_X5_areClashing q_clS
  simp only [if_neg (nI_pos (show za < 2 ^ 31 by omega)), if_neg (nI_pos (show zb < 2 ^ 31 by omega)), if_neg hc1, if_pos hc2, n_ck hib1, n_ck hib2, k1, k2, h51 za ha, h51 zb hb]
  unfold q_rs
  cases hsa : q_st A (nI za) with
  | false => simp only [Bool.false_eq_true, if_false, if_true]; rfl
  | true =>
    cases hsb : q_st A (nI zb) with
    | false =>
      simp only [Bool.false_eq_true, if_false, if_true, if_neg (q_mk_neg (p := q_ls A za) h3)]
      rfl
    | true =>
      simp only [if_true, if_neg (q_mk_neg (p := q_ls A za) h3), if_neg (q_mk_neg (p := q_ls A zb) h3)]
      cases hcl : q_cl A za zb with
      | false => rw [if_pos ((q_cl_mk h3).mpr hcl)]; rfl
      | true => rw [if_neg (fun e => by have := (q_cl_mk h3).mp e; rw [hcl] at this; cases this)]; rfl
theorem m_clashes (h : mK zk N P I J) {za zb : Nat} (ha : za < nv (I 68 1)) (hb : zb < nv (I 68 1)) {zn : Nat} (hn : 200 < zn) : ∃ J2 K2, f_X12_clashes zn N J L P 67 (nI za) (nI zb) = some (bI (q_cl (I 68) za zb), J2, K2) ∧ mK zk N P I J2 ∧ m_gF J J2 := by
  have hG := h.gw
  have r3 : rg (I 68 3) 8 := by rw [← h.2.e68]; exact h.1.n3
  have h3 := r3.2
  have i3 : p_ib N 68 (nI 3) = true := ib_68 hG (by decide)
  have k3 : (nI 3).toNatClampNeg = 3 := by decide
  have i15 : p_ib N 68 (nI 15) = true := ib_68 hG (by decide)
  have k15 : (nI 15).toNatClampNeg = 15 := by decide
  have hloop := p_loopI (B := B_X12_clashes_5 zn N P 67 (nI za) (nI zb)) (zJ := fun zj (zc : Int32 × Int32 × pI × pL) => zc.1 = bI (q_fold (fun n c => c || (q_ls (I 68) za n && q_ls (I 68) zb n)) zj false) ∧ zc.2.1 = nI zj ∧ mK zk N P I zc.2.2.1 ∧ m_gF J zc.2.2.1) (zE := fun (zt : Int32 × pI × pL) => zt.1 = bI (q_cl (I 68) za zb) ∧ mK zk N P I zt.2.1 ∧ m_gF J zt.2.1) (zm := nv (I 68 3)) (zn := zn) (by omega) ?_ ?_ (nI 0, nI 0, J, L) ⟨rfl, rfl, h, m_gF.rf⟩
  · obtain ⟨⟨zt, J2, K2⟩, k1, k2, k3⟩ := hloop
    dsimp only at k2 k3
    subst k2
    refine ⟨J2, K2, ?_, k3⟩
    unfold f_X12_clashes
    rw [k1, Option.bind_some]
    exact n_ck (bI_ck _)
  · rintro zj hj ⟨zc, zi, J, K⟩ ⟨e0, e1, e3, e4⟩
    dsimp only at e0 e1 e3 e4
    subst e1
    have hc : ¬ J 68 3 ≤ nI zj := by rw [e3.2.e68, r3.1]; exact nI_ge hj (by omega)
    have hs : (q_fold (fun n c => c || (q_ls (I 68) za n && q_ls (I 68) zb n)) (zj + 1) false) = (q_fold (fun n c => c || (q_ls (I 68) za n && q_ls (I 68) zb n)) zj false || (q_ls (I 68) za zj && q_ls (I 68) zb zj)) := rfl
    cases hb1 : q_fold (fun n c => c || (q_ls (I 68) za n && q_ls (I 68) zb n)) zj false with
    | true =>
      rw [hb1] at e0 hs
      right
      refine ⟨(zc, J, K), ⟨?_, e3, e4⟩, fun zrec => ?_⟩
      · show zc = bI (q_cl (I 68) za zb)
        have hz : q_fold (fun n c => c || (q_ls (I 68) za n && q_ls (I 68) zb n)) (zj + (nv (I 68 3) - zj)) false = true := by
          generalize nv (I 68 3) - zj = zd
          induction zd with
          | zero => exact hb1
          | succ zd ih => show (q_fold (fun n c => c || (q_ls (I 68) za n && q_ls (I 68) zb n)) (zj + zd) false || _) = true; rw [ih, Bool.true_or]
        rw [show zj + (nv (I 68 3) - zj) = nv (I 68 3) by omega] at hz
        unfold q_cl
        rw [hz]; exact e0
      · subst e0
        unfold B_X12_clashes_5
        simp only [gp_67_0 hG, Option.bind_some, n_ck i3, k3, if_neg hc, bI_ift]
    | false =>
      rw [hb1] at e0
      rw [hb1, Bool.false_or] at hs
      left
      subst e0
      have hcn := e3.sr.rn.2.2 zj (by rw [e3.2.e68]; exact hj)
      have c0 : J 68 (202 + 2 * zj) = nI (nv (I 68 (202 + 2 * zj))) ∧ nv (I 68 (202 + 2 * zj)) ≤ 20 := by
        have h8 : rg (J 68 (202 + 2 * zj)) 20 := (hcn 0 (by decide)).2
        rw [e3.2.e68] at h8 ⊢
        exact h8
      have c1 : J 68 (202 + 2 * zj + 1) = nI (nv (I 68 (202 + 2 * zj + 1))) ∧ nv (I 68 (202 + 2 * zj + 1)) ≤ 20 := by
        have h8 : rg (J 68 (202 + 2 * zj + 1)) 20 := (hcn 1 (by decide)).2
        rw [e3.2.e68] at h8 ⊢
        exact h8
      have ia0 : nI 202 + nI 2 * nI zj = nI (202 + 2 * zj) := by rw [pk_mul, nI_add]
      have ia1 : nI (202 + 2 * zj) + nI 1 = nI (202 + 2 * zj + 1) := nI_add _ _
      have ib0 : p_ib N 68 (nI (202 + 2 * zj)) = true := ib_68 hG (by omega)
      have ib1 : p_ib N 68 (nI (202 + 2 * zj + 1)) = true := ib_68 hG (by omega)
      have ic0 : (nI (202 + 2 * zj)).toNatClampNeg = 202 + 2 * zj := nI_clamp (by omega)
      have ic1 : (nI (202 + 2 * zj + 1)).toNatClampNeg = 202 + 2 * zj + 1 := nI_clamp (by omega)
      obtain ⟨J2, K2, j1, j2, j3⟩ := e3.sg (L := K) ha c0.2 c1.2 hn
      have e15 : J2 68 15 = I 68 15 := by rw [j2.2.e68]
      have hla : q_ls (I 68) za zj = !decide (q_sgS (I 68) za (nv (I 68 (202 + 2 * zj))) (nv (I 68 (202 + 2 * zj + 1))) < I 68 15) := rfl
      have hlb : q_ls (I 68) zb zj = !decide (q_sgS (I 68) zb (nv (I 68 (202 + 2 * zj))) (nv (I 68 (202 + 2 * zj + 1))) < I 68 15) := rfl
      by_cases g1 : q_sgS (I 68) za (nv (I 68 (202 + 2 * zj))) (nv (I 68 (202 + 2 * zj + 1))) < I 68 15
      · rw [hla, decide_eq_true g1, Bool.not_true, Bool.false_and] at hs
        refine ⟨(nI 0, nI (zj + 1), J2, K2), ⟨by dsimp only; rw [hs]; rfl, rfl, j2, e4.tr j3⟩, fun zrec => ?_⟩
        unfold B_X12_clashes_5
        simp only [gp_67_0 hG, Option.bind_some, n_ck i3, k3, if_neg hc, bI_iff, ia0, ia1, n_ck ib0, n_ck ib1, ic0, ic1, n_let, c0.1, c1.1, j1, n_ck i15, k15, e15, if_pos g1, nI_add]
      · rw [hla, decide_eq_false g1, Bool.not_false, Bool.true_and] at hs
        obtain ⟨J3, K3, t1, t2, t3⟩ := j2.sg (L := K2) hb c0.2 c1.2 hn
        have f15 : J3 68 15 = I 68 15 := by rw [t2.2.e68]
        by_cases g2 : q_sgS (I 68) zb (nv (I 68 (202 + 2 * zj))) (nv (I 68 (202 + 2 * zj + 1))) < I 68 15
        · rw [hlb, decide_eq_true g2, Bool.not_true] at hs
          refine ⟨(nI 0, nI (zj + 1), J3, K3), ⟨by dsimp only; rw [hs]; rfl, rfl, t2, e4.tr (j3.tr t3)⟩, fun zrec => ?_⟩
          unfold B_X12_clashes_5
          simp only [gp_67_0 hG, Option.bind_some, n_ck i3, k3, if_neg hc, bI_iff, ia0, ia1, n_ck ib0, n_ck ib1, ic0, ic1, n_let, c0.1, c1.1, j1, n_ck i15, k15, e15, if_neg g1, t1, f15, if_pos g2, nI_add]
        · rw [hlb, decide_eq_false g2, Bool.not_false] at hs
          refine ⟨(nI 1, nI (zj + 1), J3, K3), ⟨by dsimp only; rw [hs]; rfl, rfl, t2, e4.tr (j3.tr t3)⟩, fun zrec => ?_⟩
          unfold B_X12_clashes_5
          simp only [gp_67_0 hG, Option.bind_some, n_ck i3, k3, if_neg hc, bI_iff, ia0, ia1, n_ck ib0, n_ck ib1, ic0, ic1, n_let, c0.1, c1.1, j1, n_ck i15, k15, e15, if_neg g1, t1, f15, if_neg g2, nI_add]
  · rintro ⟨zc, zi, J, K⟩ ⟨e0, e1, e3, e4⟩
    dsimp only at e0 e1 e3 e4
    subst e1
    have hc : J 68 3 ≤ nI (nv (I 68 3)) := by rw [e3.2.e68, ← r3.1]; exact Int32.le_refl _
    refine ⟨(zc, J, K), ⟨e0, e3, e4⟩, fun zrec => ?_⟩
    unfold B_X12_clashes_5
    simp only [gp_67_0 hG, Option.bind_some, n_ck i3, k3, if_pos hc]
end Clash
theorem sp_clash {n zk : Nat} (hn : 200 < n) : Sp_clash n (Ivv zk) (Ivv (zk + 1)) := by
  intro N I L P h x1 x2
  have h : IV zk N P I := h
  have hG := h.gw
  have h6 := h.n1.2
  by_cases he : x1 = x2
  · refine ⟨(nI 0, I, L), (nI 0, I, L), ?_, ?_, rfl, h.up⟩
    · unfold f_X11_clash; rw [if_pos he]
    · unfold f_X12_clash; rw [if_pos he]
  · cases h1 : q_st (I 68) x1 with
    | false =>
      refine ⟨(nI 0, I, L), (nI 0, I, L), ?_, ?_, rfl, h.up⟩
      · unfold f_X11_clash
        simp only [if_neg he, gp_0_0 hG, Option.bind_some, c_st hG h.sr, h1, bI_iff]
      · unfold f_X12_clash
        simp only [if_neg he, Option.bind_some, m_st hG h.sr, h1, bI_iff]
    | true =>
      cases h2 : q_st (I 68) x2 with
      | false =>
        refine ⟨(nI 0, I, L), (nI 0, I, L), ?_, ?_, rfl, h.up⟩
        · unfold f_X11_clash
          simp only [if_neg he, gp_0_0 hG, Option.bind_some, c_st hG h.sr, h1, h2, bI_iff, bI_ift]
        · unfold f_X12_clash
          simp only [if_neg he, Option.bind_some, m_st hG h.sr, h1, h2, bI_iff, bI_ift]
      | true =>
        rcases q_st_x h.n1 (by decide) x1 with ⟨e, _⟩ | ⟨za, ha, ea, _⟩
        · rw [h1] at e; cases e
        · rcases q_st_x h.n1 (by decide) x2 with ⟨e, _⟩ | ⟨zb, hb, eb, _⟩
          · rw [h2] at e; cases e
          · obtain ⟨J, K, k1, k2, k3⟩ := c_findReaches (L := L) (cK.rf h) hn
            obtain ⟨J2, K2, m1, m2, m3⟩ := m_clashes (L := K) (mK.rf k2.1) (za := za) (zb := zb) (by rw [k2.2.e68]; exact ha) (by rw [k2.2.e68]; exact hb) hn
            have hcl := c_areClashing hG (A := I 68) h.n3.2 k3 (za := za) (zb := zb) (by omega) (by omega)
            have hq : q_clS (I 68) za zb = q_cl (I 68) za zb := by
              unfold q_clS
              rw [← ea, ← eb, h1, h2]; rfl
            rw [hq] at hcl
            rw [k2.2.e68] at m1
            have hm1 : f_X12_seesSender N J P 67 x1 = some (bI true) := by rw [m_st hG k2.sr, k2.2.e68, h1]
            have hm2 : f_X12_seesSender N J P 67 x2 = some (bI true) := by rw [m_st hG k2.sr, k2.2.e68, h2]
            refine ⟨(bI (q_cl (I 68) za zb), J, K), (bI (q_cl (I 68) za zb), J2, K2), ?_, ?_, rfl, m2.1.up⟩
            · unfold f_X11_clash f_X5_clashing
              simp only [if_neg he, gp_0_0 hG, gp_0_4 hG, gp_49_3 hG, Option.bind_some, c_st hG h.sr, h1, h2, bI_ift, k1]
              rw [ea, eb, hcl]
              simp only [Option.bind_some, n_ck (bI_ck _)]
            · unfold f_X12_clash
              simp only [if_neg he, Option.bind_some, hm1, hm2, bI_ift]
              rw [ea, eb, m1]
              cases q_cl (I 68) za zb <;> rfl
