/-! the reference: all ways from a place to a place -/
def q_cat (f : Nat → List qW) : Nat → List qW
  | 0 => []
  | k + 1 => q_cat f k ++ f k
theorem q_cat_len {f : Nat → List qW} {zc : Nat} : ∀ zm, (∀ zw, zw < zm → (f zw).length ≤ zc) → (q_cat f zm).length ≤ zc * zm := by
  intro zm
  induction zm with
  | zero => intro _; exact Nat.zero_le _
  | succ zm ih =>
    intro h1
    show (q_cat f zm ++ f zm).length ≤ _
    rw [List.length_append, Nat.mul_succ]
    exact Nat.add_le_add (ih (fun zw hw => h1 zw (by omega))) (h1 zm (by omega))
theorem q_add_len {zk zf zg : Int32} {za zc : Int64} {zs : Int64 × Bool} : (q_add [] zk zf zg za zc zs).length ≤ 1 := by
  unfold q_add
  by_cases h1 : zs.2 = true
  · rw [if_pos h1]; exact Nat.zero_le _
  · rw [if_neg h1]; exact Nat.le_refl _
section Model7
variable {N : pN} {P : pR} {I : pI} {L : pL} {T : Nat → Int32} {fx fy pw tx ty : Int32}
theorem q_M_len {zw : Nat} : (q_M T fx fy pw tx ty zw).length ≤ 1 := by
  unfold q_M
  split
  · split
    · exact q_add_len
    · exact Nat.zero_le _
  · exact Nat.zero_le _
theorem q_P_len {zw zv : Nat} : (q_P T fx fy pw tx ty zw zv).length ≤ 1 := by
  unfold q_P
  split
  · split
    · split
      · split
        · exact q_add_len
        · exact Nat.zero_le _
      · exact Nat.zero_le _
    · exact Nat.zero_le _
  · exact Nat.zero_le _
theorem q_C_len {zw ze : Nat} : (q_C T fx fy pw tx ty zw ze).length ≤ 1 := by
  unfold q_C
  split
  · exact Nat.zero_le _
  · exact q_add_len
end Model7
def q_P1 (T : Nat → Int32) (fx fy pw tx ty : Int32) (w v : Nat) : List qW := if v = w then [] else if q_seeW T v = true then q_P T fx fy pw tx ty w v else []
def q_Ps (T : Nat → Int32) (fx fy pw tx ty : Int32) (w : Nat) : List qW := if T 11 ≤ nI 1 then [] else q_cat (q_P1 T fx fy pw tx ty w) (nv (T 0))
def q_MPs (T : Nat → Int32) (fx fy pw tx ty : Int32) (w : Nat) : List qW := if q_seeW T w = true then q_M T fx fy pw tx ty w ++ q_Ps T fx fy pw tx ty w else []
def q_Cs (T : Nat → Int32) (fx fy pw tx ty : Int32) (w : Nat) : List qW := if q_seeW T w = true then q_C T fx fy pw tx ty w 0 ++ q_C T fx fy pw tx ty w 1 else []
def q_sg (T : Nat → Int32) (fx fy pw tx ty : Int32) : Int64 × Bool := q_leg T (fx.toInt64, fy.toInt64, 1) (tx.toInt64, ty.toInt64, 1) (q_beg pw (q_sq (fx - tx).toInt64 (fy - ty).toInt64), false)
def q_S (T : Nat → Int32) (fx fy pw tx ty : Int32) : List qW := q_add [] (nI 0) (-1) (-1) (q_sq (fx - tx).toInt64 (fy - ty).toInt64) 0 (q_sg T fx fy pw tx ty)
def q_all (T : Nat → Int32) (fx fy pw tx ty : Int32) : List qW := (q_S T fx fy pw tx ty ++ (if T 11 ≤ 0 then [] else q_cat (q_MPs T fx fy pw tx ty) (nv (T 0)))) ++ (if (q_sg T fx fy pw tx ty).2 = false ∨ T 12 ≤ 0 then [] else q_cat (q_Cs T fx fy pw tx ty) (nv (T 0)))
section Model8
variable {N : pN} {P : pR} {I : pI} {L : pL} {T : Nat → Int32} {fx fy pw tx ty : Int32}
theorem q_see_of {zw : Nat} (hw : zw < nv (T 0)) : q_there T (q_w T zw 5) (q_w T zw 6) = q_seeW T zw := by
  unfold q_seeW
  rw [decide_eq_true hw]
  rfl
theorem m_pairs (hG : GW N P) (hwf : q_wf4 T) {zn : Nat} (hn : 12 < zn) (hs : q_ms I T fx fy pw tx ty) {l : List qW} (hM : q_MR I l) (hlen : l.length ≤ 160) {zw : Nat} (hw : zw < nv (T 0)) : ∃ J K, p_it (B_X12_tries_118 zn N P 67 (nI zw)) zn (nI 0, I, L) = some (J, K) ∧ q_MR J (l ++ q_Ps T fx fy pw tx ty zw) ∧ q_mFr I J ∧ ∀ zq, zq ≠ 67 → K zq = L zq := by
  have h12 : nv (T 0) ≤ 12 := hwf.1.2
  have c0 : Int32.toNatClampNeg (nI 0) = 0 := by decide
  have c11 : Int32.toNatClampNeg (nI 11) = 11 := by decide
  have i0 : p_ib N 68 (nI 0) = true := ib_68 hG (by decide)
  have i11 : p_ib N 68 (nI 11) = true := ib_68 hG (by decide)
  have hp : P 67 0 = some 68 := gp_67_0 hG
  by_cases hd : T 11 ≤ nI 1
  · have hloop := p_loopI (B := B_X12_tries_118 zn N P 67 (nI zw)) (zJ := fun _ (zs : Int32 × pI × pL) => zs = (nI 0, I, L)) (zE := fun (zt : pI × pL) => zt = (I, L)) (zm := 0) (zn := zn) (by omega) (fun zk hk => absurd hk (Nat.not_lt_zero _)) ?_ (nI 0, I, L) rfl
    · obtain ⟨zt, h1, h2⟩ := hloop
      subst h2
      refine ⟨I, L, h1, ?_, q_mFr.rf, fun _ _ => rfl⟩
      unfold q_Ps
      rw [if_pos hd, List.append_nil]
      exact hM
    · rintro zs e1
      subst e1
      refine ⟨(I, L), rfl, fun zrec => ?_⟩
      have hd2 : I 68 11 ≤ nI 1 := by rw [hs.1]; exact hd
      unfold B_X12_tries_118
      dsimp only
      rw [hp, Option.bind_some, n_ck i0, Option.bind_some, n_ck i11, c11, if_pos hd2, ite_self]
  · have hloop := p_loopI (B := B_X12_tries_118 zn N P 67 (nI zw)) (zJ := fun zk (zs : Int32 × pI × pL) => zs.1 = nI zk ∧ q_MR zs.2.1 (l ++ q_cat (q_P1 T fx fy pw tx ty zw) zk) ∧ q_mFr I zs.2.1 ∧ ∀ zq, zq ≠ 67 → zs.2.2 zq = L zq) (zE := fun (zt : pI × pL) => q_MR zt.1 (l ++ q_cat (q_P1 T fx fy pw tx ty zw) (nv (T 0))) ∧ q_mFr I zt.1 ∧ ∀ zq, zq ≠ 67 → zt.2 zq = L zq) (zm := nv (T 0)) (zn := zn) (by omega) ?_ ?_ (nI 0, I, L) ⟨rfl, by show q_MR I (l ++ []); rw [List.append_nil]; exact hM, q_mFr.rf, fun _ _ => rfl⟩
    · obtain ⟨⟨J, K⟩, h1, h2, h3, h4⟩ := hloop
      refine ⟨J, K, h1, ?_, h3, h4⟩
      unfold q_Ps
      rw [if_neg hd]
      exact h2
    · rintro zk hk ⟨z1, J, K⟩ ⟨e1, e2, e3, e4⟩
      dsimp only at e1 e2 e3 e4
      subst e1
      left
      have hsJ := hs.fr e3
      have hc1 : ¬ J 68 0 ≤ nI zk := by rw [hsJ.1, hwf.1.1]; exact nI_ge hk (by omega)
      have hd2 : ¬ J 68 11 ≤ nI 1 := by rw [hsJ.1]; exact hd
      have hl1 : (q_cat (q_P1 T fx fy pw tx ty zw) zk).length ≤ 1 * zk := q_cat_len zk (fun zv _ => by
        unfold q_P1
        split
        · exact Nat.zero_le _
        · split
          · exact q_P_len
          · exact Nat.zero_le _)
      have hcat : q_cat (q_P1 T fx fy pw tx ty zw) (zk + 1) = q_cat (q_P1 T fx fy pw tx ty zw) zk ++ q_P1 T fx fy pw tx ty zw zk := rfl
      by_cases hkw : nI zk = nI zw
      · have hkw2 : zk = zw := (nI_eq (by omega) (by omega)).mp hkw
        refine ⟨(nI (zk + 1), J, K), ⟨rfl, ?_, e3, e4⟩, fun zrec => ?_⟩
        · rw [hcat]
          unfold q_P1
          rw [if_pos hkw2, List.append_nil]
          exact e2
        · unfold B_X12_tries_118
          dsimp only
          rw [hp, Option.bind_some, n_ck i0, c0, if_neg hc1, Option.bind_some, n_ck i11, c11, if_neg hd2, if_pos hkw, Option.bind_some, nI_add]
      · have hkw2 : ¬ zk = zw := fun h => hkw (by rw [h])
        cases hsee : q_seeW T zk with
        | false =>
          refine ⟨(nI (zk + 1), J, K), ⟨rfl, ?_, e3, e4⟩, fun zrec => ?_⟩
          · rw [hcat]
            unfold q_P1
            rw [if_neg hkw2, hsee, if_neg (by decide), List.append_nil]
            exact e2
          · unfold B_X12_tries_118
            dsimp only
            rw [hp, Option.bind_some, n_ck i0, c0, if_neg hc1, Option.bind_some, n_ck i11, c11, if_neg hd2, if_neg hkw, m_seesWallT hG hsJ.1 (by omega), q_see_of hk, hsee, Option.bind_some, bI_iff, Option.bind_some, nI_add]
        | true =>
          obtain ⟨J2, K2, g1, g2, g3, g4⟩ := m_byMirrors (L := K) hG hwf hn hsJ e2 (by rw [List.length_append]; omega) hw hk
          refine ⟨(nI (zk + 1), J2, K2), ⟨rfl, ?_, e3.tr g3, fun zq hq => (g4 zq hq).trans (e4 zq hq)⟩, fun zrec => ?_⟩
          · rw [hcat]
            unfold q_P1
            rw [if_neg hkw2, hsee, if_pos rfl, ← List.append_assoc]
            exact g2
          · unfold B_X12_tries_118
            dsimp only
            rw [hp, Option.bind_some, n_ck i0, c0, if_neg hc1, Option.bind_some, n_ck i11, c11, if_neg hd2, if_neg hkw, m_seesWallT hG hsJ.1 (by omega), q_see_of hk, hsee, Option.bind_some, bI_ift, g1, Option.bind_some, Option.bind_some, nI_add]
    · rintro ⟨z1, J, K⟩ ⟨e1, e2, e3, e4⟩
      dsimp only at e1 e2 e3 e4
      subst e1
      have hsJ := hs.fr e3
      have hc1 : J 68 0 ≤ nI (nv (T 0)) := by rw [hsJ.1, ← hwf.1.1]; exact Int32.le_refl _
      refine ⟨(J, K), ⟨e2, e3, e4⟩, fun zrec => ?_⟩
      unfold B_X12_tries_118
      dsimp only
      rw [hp, Option.bind_some, n_ck i0, c0, if_pos hc1]
end Model8
