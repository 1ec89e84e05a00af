/-! the class: strengths, small numbers, what is found -/
theorem q_leg_b {T : Nat → Int32} {za zb : qP} {zs : Int64 × Bool} (h1 : zs.2 = true) : (q_leg T za zb zs).2 = true := by
  have h2 := q_fold_b (T := T) (za := za) (zb := zb) (zs := zs) (zk := 0) h1 (nv (T 0))
  rw [Nat.zero_add] at h2
  exact h2
theorem c_carryS {N : pN} {P : pR} {I : pI} {L : pL} {T : Nat → Int32} (hG : GW N P) (hB : q_bars I T) (h0 : nv (T 0) ≤ 12) {zs : Int64 × Bool} (hs : q_ok zs) {a2 a3 : Nat} (h2 : a2 ≠ 28) (h3 : a3 ≠ 28) {zn : Nat} (hn : 12 < zn) : ∃ zL, f_X2_carry zn I L P 21 (c_res zs) a2 a3 = some (c_res (q_leg T (c_pt L a2) (c_pt L a3) zs), zL) ∧ (∀ zq, zq ≠ 28 → zL zq = L zq) ∧ q_ok (q_leg T (c_pt L a2) (c_pt L a3) zs) := by
  cases hz : zs.2 with
  | true =>
    have h4 := q_leg_b (T := T) (za := c_pt L a2) (zb := c_pt L a3) hz
    have e1 : c_res zs = -1 := by unfold c_res; rw [if_pos hz]
    have e2 : c_res (q_leg T (c_pt L a2) (c_pt L a3) zs) = -1 := by unfold c_res; rw [if_pos h4]
    refine ⟨L, ?_, fun _ _ => rfl, Or.inl h4⟩
    rw [e1, e2]
    obtain ⟨zn2, rfl⟩ : ∃ zn2, zn = zn2 + 1 := ⟨zn - 1, by omega⟩
    have hp : P 21 0 = some 43 := gp_21_0 hG
    unfold f_X2_carry
    rw [hp]
    have hit : p_it (B_X2_carry_9 I P 21 a2 a3) (zn2 + 1) (-1, some 43, L) = some (-1, L) := by
      show B_X2_carry_9 I P 21 a2 a3 _ (-1, some 43, L) = _
      unfold B_X2_carry_9 p_cs
      dsimp only
      rw [if_pos rfl]
    rw [hit, Option.bind_some]
  | false =>
    obtain ⟨zm, hm1, hm2⟩ : ∃ zm : Nat, zm ≤ 9999000 ∧ zs.1 = lN zm := hs.resolve_left (by rw [hz]; decide)
    have ez : zs = (lN zm, false) := Prod.ext hm2 hz
    have e1 : c_res zs = nI zm := by unfold c_res; rw [hz, if_neg (by decide), hm2, lN_i]
    obtain ⟨K, k1, k2, k3⟩ := c_carry (L := L) (zx := nI zm) hG hB (rg.of hm1 (by decide)) h2 h3 hn
    rw [nI_l (by omega), ← ez, q_leg_12 h0] at k1 k3
    exact ⟨K, by rw [e1]; exact k1, k2, k3⟩
/-- a small long -/
def sb (x : Int64) (m : Int) : Prop := -m ≤ x.toInt ∧ x.toInt ≤ m
theorem sb_add {x y : Int64} {m n : Int} (h1 : sb x m) (h2 : sb y n) (hm : m + n < 2 ^ 62) : (x + y).toInt = x.toInt + y.toInt ∧ sb (x + y) (m + n) := by
  obtain ⟨a1, a2⟩ := h1
  obtain ⟨b1, b2⟩ := h2
  have e : (x + y).toInt = x.toInt + y.toInt := by
    rw [Int64.toInt_add, Int.bmod_def]
    omega
  exact ⟨e, by unfold sb; rw [e]; omega⟩
theorem sb_sub {x y : Int64} {m n : Int} (h1 : sb x m) (h2 : sb y n) (hm : m + n < 2 ^ 62) : (x - y).toInt = x.toInt - y.toInt ∧ sb (x - y) (m + n) := by
  obtain ⟨a1, a2⟩ := h1
  obtain ⟨b1, b2⟩ := h2
  have e : (x - y).toInt = x.toInt - y.toInt := by
    rw [Int64.toInt_sub, Int.bmod_def]
    omega
  exact ⟨e, by unfold sb; rw [e]; omega⟩
theorem sb_rg {x : Int32} {m : Nat} (h1 : rg x m) (hm : m < 2 ^ 31) : x.toInt64.toInt = (nv x : Int) ∧ sb x.toInt64 m := by
  have h2 := h1.2
  have e : x.toInt64.toInt = (nv x : Int) := by
    rw [rg_l h1 hm]
    exact pk_lT (by omega)
  exact ⟨e, by unfold sb; rw [e]; omega⟩
theorem sb_mul {x y : Int64} {m n : Int} (h1 : sb x m) (h2 : sb y n) (hm : 0 ≤ m) (hn : 0 ≤ n) (hmn : m * n < 2 ^ 62) : (x * y).toInt = x.toInt * y.toInt ∧ sb (x * y) (m * n) := by
  obtain ⟨a1, a2⟩ := h1
  obtain ⟨b1, b2⟩ := h2
  have habs : (x.toInt * y.toInt).natAbs ≤ (m * n).natAbs := by
    rw [Int.natAbs_mul, Int.natAbs_mul]
    exact Nat.mul_le_mul (by omega) (by omega)
  have h0 : 0 ≤ m * n := Int.mul_nonneg hm hn
  have e : (x * y).toInt = x.toInt * y.toInt := by
    rw [Int64.toInt_mul, Int.bmod_def]
    generalize x.toInt * y.toInt = zz at habs
    omega
  refine ⟨e, ?_⟩
  unfold sb
  rw [e]
  generalize x.toInt * y.toInt = zz at habs
  omega
theorem i_sqn (za : Int) : 0 ≤ za * za := by
  by_cases h1 : 0 ≤ za
  · exact Int.mul_nonneg h1 h1
  · rw [← Int.neg_mul_neg]
    exact Int.mul_nonneg (by omega) (by omega)
theorem q_sqS {x y : Int64} {m : Int} (h1 : sb x m) (h2 : sb y m) (hm : 0 ≤ m) (hm2 : m ≤ 10000) : ∃ zs : Nat, (zs : Int) ≤ 2 * (m * m) ∧ q_sq x y = lN zs := by
  have hmm : m * m ≤ 10000 * 10000 := Int.mul_le_mul hm2 hm2 hm (by decide)
  have hm0 : 0 ≤ m * m := Int.mul_nonneg hm hm
  obtain ⟨e1, b1⟩ := sb_mul h1 h1 hm hm (by omega)
  obtain ⟨e2, b2⟩ := sb_mul h2 h2 hm hm (by omega)
  obtain ⟨e3, b3⟩ := sb_add b1 b2 (by omega)
  have p1 : 0 ≤ x.toInt * x.toInt := i_sqn _
  have p2 : 0 ≤ y.toInt * y.toInt := i_sqn _
  have e4 : (q_sq x y).toInt = x.toInt * x.toInt + y.toInt * y.toInt := by
    unfold q_sq
    rw [e3, e1, e2]
  have b4 : (q_sq x y).toInt ≤ m * m + m * m := b3.2
  have hz : ¬ q_sq x y < 0 := by
    rw [Int64.lt_iff_toInt_lt, e4]
    show ¬ _ < (0 : Int)
    omega
  obtain ⟨zs, hs1, hs2⟩ := pk_lOf hz
  refine ⟨zs, ?_, hs2⟩
  rw [hs2, pk_lT hs1] at b4
  omega
/-- what a search begins with -/
theorem c_spread {I : pI} {zp zd : Nat} (hp : I 21 12 = nI zp) (hp2 : zp ≤ 9999) (hd : zd < 2 ^ 31) : f_X2_spread I 21 (nI zd) = some (c_res (q_beg (nI zp) (lN zd), false)) ∧ q_ok (q_beg (nI zp) (lN zd), false) := by
  have e1 : (if nI 1 < nI zd then nI zd else nI 1) = nI (if zd = 0 then 1 else zd) := by
    by_cases h0 : zd = 0
    · subst h0; decide
    · rw [if_neg h0]
      by_cases h1 : zd = 1
      · subst h1; decide
      · rw [if_pos (nI_lt (by omega) hd)]
  have e2 : (if lN zd = 0 then (1 : Int64) else lN zd) = lN (if zd = 0 then 1 else zd) := by
    by_cases h0 : zd = 0
    · subst h0; decide
    · have h1 : ¬ lN zd = 0 := fun h => h0 ((pk_lEQ (b := 0) (by omega) (by decide)).mp h)
      rw [if_neg h0, if_neg h1]
  have hz : 0 < (if zd = 0 then 1 else zd) ∧ (if zd = 0 then 1 else zd) < 2 ^ 31 := by
    by_cases h0 : zd = 0
    · rw [if_pos h0]; omega
    · rw [if_neg h0]; omega
  unfold f_X2_spread q_beg
  rw [e1, e2, hp]
  generalize (if zd = 0 then 1 else zd) = zc at hz
  have e3 : nI zp * nI 1000 / nI zc = nI (zp * 1000 / zc) := by
    rw [pk_mul]
    exact pk_div (by omega) hz.1 hz.2
  have e4 : (nI zp).toInt64 * 1000 / lN zc = lN (zp * 1000 / zc) := by
    rw [nI_l (by omega)]
    show lN zp * lN 1000 / lN zc = _
    rw [lN_mul]
    exact pk_lDiv (by omega) hz.1 (by omega)
  have hle : zp * 1000 / zc ≤ 9999000 := Nat.le_trans (Nat.div_le_self _ _) (by omega)
  refine ⟨?_, Or.inr ⟨_, hle, e4⟩⟩
  rw [n_ck (decide_eq_true (nI_ne0 hz.1 hz.2)), e3]
  unfold c_res
  dsimp only
  rw [if_neg (by decide), e4, lN_i]
/-- weakened by a percentage -/
theorem c_weak {zs : Int64 × Bool} (hs : q_ok zs) (hb : zs.2 = false) {zt : Int32} (ht : rg zt 100) : c_res zs * zt / nI 100 = c_res (zs.1 * zt.toInt64 / 100, false) ∧ q_ok (zs.1 * zt.toInt64 / 100, false) := by
  obtain ⟨zm, hm1, hm2⟩ : ∃ zm : Nat, zm ≤ 9999000 ∧ zs.1 = lN zm := hs.resolve_left (by rw [hb]; decide)
  have hd := q_div hm1 ht.2
  have e1 : c_res zs = nI zm := by unfold c_res; rw [hb, if_neg (by decide), hm2, lN_i]
  have e2 : zs.1 * zt.toInt64 / 100 = lN (zm * nv zt / 100) := by
    rw [hm2]
    conv => lhs; rw [ht.1]
    exact hd.1
  refine ⟨?_, Or.inr ⟨_, hd.2.2, e2⟩⟩
  rw [e1, e2]
  unfold c_res
  dsimp only
  rw [if_neg (by decide), lN_i]
  conv => lhs; rw [ht.1]
  exact hd.2.1
