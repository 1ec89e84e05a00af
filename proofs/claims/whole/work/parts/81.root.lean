/-! roots, cut -/
def q_rt : Nat → Nat
  | 0 => 0
  | v + 1 => if (q_rt v + 1) * (q_rt v + 1) ≤ v + 1 then q_rt v + 1 else q_rt v
theorem q_rt_is : ∀ zv, q_rt zv * q_rt zv ≤ zv ∧ zv < (q_rt zv + 1) * (q_rt zv + 1) := by
  intro zv
  induction zv with
  | zero => decide
  | succ zv ih =>
    obtain ⟨h1, h2⟩ := ih
    unfold q_rt
    by_cases hc : (q_rt zv + 1) * (q_rt zv + 1) ≤ zv + 1
    · rw [if_pos hc]
      refine ⟨hc, ?_⟩
      have h3 : (q_rt zv + 1 + 1) * (q_rt zv + 1 + 1) = (q_rt zv + 1) * (q_rt zv + 1) + 2 * (q_rt zv + 1) + 1 := by
        rw [Nat.add_mul, Nat.mul_add]; omega
      omega
    · rw [if_neg hc]
      omega
theorem q_rt_un {zv zr : Nat} (h1 : zr * zr ≤ zv) (h2 : zv < (zr + 1) * (zr + 1)) : zr = q_rt zv := by
  obtain ⟨g1, g2⟩ := q_rt_is zv
  rcases Nat.lt_trichotomy zr (q_rt zv) with hlt | heq | hgt
  · have h3 : (zr + 1) * (zr + 1) ≤ q_rt zv * q_rt zv := Nat.mul_le_mul hlt hlt
    omega
  · exact heq
  · have h3 : (q_rt zv + 1) * (q_rt zv + 1) ≤ zr * zr := Nat.mul_le_mul hgt hgt
    omega
theorem m_root {zv zn : Nat} (hv : zv < 20001 * 20001) (hn : 15 < zn) : f_X12_root zn (lN zv) = some (lN (q_rt zv)) := by
  have hloop := p_loopI (B := B_X12_root_7 (lN zv)) (zJ := fun zk (zs : Int64 × Int64) => ∃ za zb : Nat, zs = (lN za, lN zb) ∧ za ≤ zb ∧ zb ≤ 20000 ∧ za * za ≤ zv ∧ zv < (zb + 1) * (zb + 1) ∧ zb - za < 2 ^ (15 - zk)) (zE := fun zt => zt = lN (q_rt zv)) (zm := 15) (zn := zn) hn ?_ ?_ (0, 20000) ⟨0, 20000, rfl, by decide, by decide, by omega, hv, by decide⟩
  · obtain ⟨zt, ht1, ht2⟩ := hloop
    unfold f_X12_root
    rw [ht1, Option.bind_some, ht2]
  · rintro zk hk zs ⟨za, zb, e1, e2, e3, e4, e5, e6⟩
    subst e1
    by_cases hend : zb ≤ za
    · right
      have hab : za = zb := by omega
      subst hab
      refine ⟨lN za, by rw [← q_rt_un e4 e5], fun zrec => ?_⟩
      unfold B_X12_root_7
      dsimp only
      rw [if_pos ((pk_lLE (by omega) (by omega)).mpr (Nat.le_refl _))]
    · left
      have hlt : za < zb := by omega
      have hmid : (lN za + lN zb + 1) / 2 = lN ((za + zb + 1) / 2) := by
        rw [lN_add, lN_1]
        exact pk_lDiv (by omega) (by decide) (by decide)
      have hpw : 2 ^ (15 - zk) = 2 * 2 ^ (15 - (zk + 1)) := by
        rw [show 15 - zk = (15 - (zk + 1)) + 1 by omega, Nat.pow_succ, Nat.mul_comm]
      generalize hzm : (za + zb + 1) / 2 = zm at hmid
      have hm1 : za < zm := by omega
      have hm2 : zm ≤ zb := by omega
      have hmm : zm * zm ≤ 20000 * 20000 := Nat.mul_le_mul (by omega) (by omega)
      by_cases hc : zv < zm * zm
      · refine ⟨(lN za, lN (zm - 1)), ⟨za, zm - 1, rfl, by omega, by omega, e4, ?_, by omega⟩, fun zrec => ?_⟩
        · rw [show zm - 1 + 1 = zm by omega]; exact hc
        · unfold B_X12_root_7
          dsimp only
          rw [if_neg (fun h => hend ((pk_lLE (by omega) (by omega)).mp h)), hmid, lN_mul, if_pos ((pk_lLT (by omega) (by omega)).mpr hc), n_let]
          have hs1 : lN zm - 1 = lN (zm - 1) := lN_sub (b := 1) (by omega)
          rw [hs1]
      · refine ⟨(lN zm, lN zb), ⟨zm, zb, rfl, hm2, e3, by omega, e5, by omega⟩, fun zrec => ?_⟩
        unfold B_X12_root_7
        dsimp only
        rw [if_neg (fun h => hend ((pk_lLE (by omega) (by omega)).mp h)), hmid, lN_mul, if_neg (fun h => hc ((pk_lLT (by omega) (by omega)).mp h))]
  · rintro zs ⟨za, zb, e1, e2, e3, e4, e5, e6⟩
    subst e1
    have e7 : zb - za < 1 := e6
    have hab : za = zb := by omega
    subst hab
    refine ⟨lN za, by rw [← q_rt_un e4 e5], fun zrec => ?_⟩
    unfold B_X12_root_7
    dsimp only
    rw [if_pos ((pk_lLE (by omega) (by omega)).mpr (Nat.le_refl _))]
