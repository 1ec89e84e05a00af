/-! the reference's numbers -/
def p_run {S T : Type} (B : (S → Option T) → S → Option T) (k : Nat) (s s2 : S) : Prop := ∀ m, p_it B (m + k) s = p_it B m s2
theorem p_run0 {S T : Type} {B : (S → Option T) → S → Option T} {s : S} : p_run B 0 s s := fun _ => rfl
theorem p_run1 {S T : Type} {B : (S → Option T) → S → Option T} {s s2 : S} (h : ∀ zrec, B zrec s = zrec s2) : p_run B 1 s s2 := fun m => h (p_it B m)
theorem p_runT {S T : Type} {B : (S → Option T) → S → Option T} {s s1 s2 : S} {k1 k2 : Nat} (h1 : p_run B k1 s s1) (h2 : p_run B k2 s1 s2) : p_run B (k1 + k2) s s2 := fun m => by
  rw [show m + (k1 + k2) = (m + k2) + k1 by omega, h1, h2]
theorem p_runE {S T : Type} {B : (S → Option T) → S → Option T} {s s1 : S} {k n : Nat} {t : T} (h1 : p_run B k s s1) (hk : k < n) (h2 : ∀ zrec, B zrec s1 = some t) : p_it B n s = some t := by
  obtain ⟨m, rfl⟩ : ∃ m, n = (m + 1) + k := ⟨n - k - 1, by omega⟩
  rw [h1]
  exact h2 _
def q_T : Nat → Nat
  | 0 => 0
  | d + 1 => 7 * (q_T d + 2) + 2
theorem q_clS_comm {A : Nat → Int32} {a b : Nat} : q_clS A a b = q_clS A b a := by
  unfold q_clS
  rw [q_cl_comm]
  cases q_st A (nI a) <;> cases q_st A (nI b) <;> rfl
section Colour
variable {N : pN} {P : pR} {I J : pI} {L : pL} {zk : Nat}
def mQ (zk : Nat) (N : pN) (P : pR) (I J : pI) : Prop := mK zk N P I J ∧ ∀ a b, b < a → a < nv (I 68 1) → J 81 (6 * a + b) = bI (q_clS (I 68) a b)
theorem mQ.of {J2 : pI} (h : mQ zk N P I J) (e : ∀ zq, zq ≠ 80 → J2 zq = J zq) : mQ zk N P I J2 := ⟨⟨h.1.1.scratch (fun zq hq => e zq (by omega)), h.1.2.tr (fun zq a => e zq (by omega))⟩, fun a b h1 h2 => by rw [e 81 (by decide)]; exact h.2 a b h1 h2⟩
theorem m_isApart (hG : GW N P) {A : Nat → Int32} {n : Nat} (hn6 : n ≤ 6) (h81 : ∀ a b, b < a → a < n → J 81 (6 * a + b) = bI (q_clS A a b)) {s zn : Nat} (hs : s < n) (hn : 200 < zn) {c : Int32} (hc : J 80 s = c) : f_X12_isApart zn N J P 67 (nI s) = some (bI (q_fr (q_clS A) (J 80) s c)) := by
  have hloop := p_loopI (B := B_X12_isApart_4 N J P 67 (nI s)) (zJ := fun zj (zc : Int32 × Int32) => zc.1 = bI (q_fold (fun o b => b && !(q_clS A o s && decide (J 80 o = c))) zj true) ∧ zc.2 = nI zj) (zE := fun zt => zt = bI (q_fr (q_clS A) (J 80) s c)) (zm := s) (zn := zn) (by omega) ?_ ?_ (nI 1, nI 0) ⟨rfl, rfl⟩
  · obtain ⟨zt, k1, k2⟩ := hloop
    unfold f_X12_isApart
    rw [k1, Option.bind_some, k2]
    exact n_ck (bI_ck _)
  · rintro zj hj ⟨za, zb⟩ ⟨e1, e2⟩
    dsimp only at e1 e2
    subst e2
    have hc1 : ¬ nI s ≤ nI zj := nI_ge hj (by omega)
    cases hb : q_fold (fun o b => b && !(q_clS A o s && decide (J 80 o = c))) zj true with
    | false =>
      rw [hb] at e1
      right
      refine ⟨za, ?_, fun zrec => ?_⟩
      · have hz : q_fold (fun o b => b && !(q_clS A o s && decide (J 80 o = c))) (zj + (s - zj)) true = false := by
          generalize s - zj = zd
          induction zd with
          | zero => exact hb
          | succ zd ih => show (q_fold (fun o b => b && !(q_clS A o s && decide (J 80 o = c))) (zj + zd) true && _) = false; rw [ih, Bool.false_and]
        rw [show zj + (s - zj) = s by omega] at hz
        unfold q_fr
        rw [hz]; exact e1
      · subst e1
        unfold B_X12_isApart_4
        simp only [if_neg hc1, bI_iff]
    | true =>
      rw [hb] at e1
      subst e1
      left
      have ia : nI 6 * nI s + nI zj = nI (6 * s + zj) := by rw [pk_mul, nI_add]
      have ib : p_ib N 81 (nI (6 * s + zj)) = true := n_ib (gn_81 hG) (show 6 * s + zj < 36 by omega) (by decide)
      have ic : (nI (6 * s + zj)).toNatClampNeg = 6 * s + zj := nI_clamp (by omega)
      have ib1 : p_ib N 80 (nI zj) = true := n_ib (gn_80 hG) (show zj < 6 by omega) (by decide)
      have ib2 : p_ib N 80 (nI s) = true := n_ib (gn_80 hG) (show s < 6 by omega) (by decide)
      have k1 : (nI zj).toNatClampNeg = zj := nI_clamp (by omega)
      have k2 : (nI s).toNatClampNeg = s := nI_clamp (by omega)
      have e81 : J 81 (6 * s + zj) = bI (q_clS A zj s) := by rw [h81 s zj hj hs, q_clS_comm]
      refine ⟨(bI (!(q_clS A zj s && decide (J 80 zj = c))), nI (zj + 1)), ⟨?_, rfl⟩, fun zrec => ?_⟩
      · show bI _ = bI (q_fold (fun o b => b && !(q_clS A o s && decide (J 80 o = c))) zj true && _)
        rw [hb, Bool.true_and]
      · unfold B_X12_isApart_4
        cases hcl : q_clS A zj s with
        | false =>
          rw [hcl] at e81
          simp only [if_neg hc1, bI_ift, gp_67_27 hG, gp_67_26 hG, Option.bind_some, ia, n_ck ib, ic, e81, bI_iff, nI_add]
          rfl
        | true =>
          rw [hcl] at e81
          by_cases he : J 80 zj = c
          · simp only [if_neg hc1, bI_ift, gp_67_27 hG, gp_67_26 hG, Option.bind_some, ia, n_ck ib, ic, e81, n_ck ib1, n_ck ib2, k1, k2, hc, if_pos he, nI_add]
            rw [decide_eq_true he]; rfl
          · simp only [if_neg hc1, bI_ift, gp_67_27 hG, gp_67_26 hG, Option.bind_some, ia, n_ck ib, ic, e81, n_ck ib1, n_ck ib2, k1, k2, hc, if_neg he, nI_add]
            rw [decide_eq_false he]; rfl
  · rintro ⟨za, zb⟩ ⟨e1, e2⟩
    dsimp only at e1 e2
    subst e2
    refine ⟨za, e1, fun zrec => ?_⟩
    unfold B_X12_isApart_4
    simp only [if_pos (Int32.le_refl (nI s))]
theorem m_colL (hG : GW N P) (h6 : nv (I 68 1) ≤ 6) {lim zn : Nat} (hl : lim ≤ 6) (hn : 200 < zn) : ∀ d s, s + d = nv (I 68 1) → ∀ (J : pI) (row : Nat → Int32), mQ zk N P I J → (∀ o, o < s → q_stN (I 68) o = true → J 80 o = row o) → (∀ j, s ≤ j → j < nv (I 68 1) → J 80 j = -1) →
    (∃ r J2 k, q_srch (q_stN (I 68)) (q_clS (I 68)) lim d s row = some r ∧ k ≤ q_T d ∧ p_run (B_X12_colours_32 zn N P (nI (nv (I 68 1))) 67 (nI lim)) k (nI s, J) (nI (nv (I 68 1)), J2) ∧ (∀ zq, zq ≠ 80 → J2 zq = J zq) ∧ ∀ o, o < nv (I 68 1) → q_stN (I 68) o = true → J2 80 o = r o) ∨ (∃ J2 k, q_srch (q_stN (I 68)) (q_clS (I 68)) lim d s row = none ∧ k ≤ q_T d ∧ p_run (B_X12_colours_32 zn N P (nI (nv (I 68 1))) 67 (nI lim)) k (nI s, J) (nI s + (-1), J2) ∧ (∀ zq, zq ≠ 80 → J2 zq = J zq) ∧ (∀ o, o < s → J2 80 o = J 80 o) ∧ ∀ j, s ≤ j → j < nv (I 68 1) → J2 80 j = -1) := by
  intro d
  induction d with
  | zero =>
    intro s hs J row hQ hrow hneg
    have hsn : s = nv (I 68 1) := by omega
    subst hsn
    exact Or.inl ⟨row, J, 0, rfl, Nat.le_refl _, p_run0, fun _ _ => rfl, hrow⟩
  | succ d ih =>
    intro s hs J row hQ hrow hneg
    have hc0 : ¬ nI s < 0 := nI_pos (by omega)
    have hc1 : ¬ nI (nv (I 68 1)) ≤ nI s := nI_ge (by omega) (by omega)
    have ib : p_ib N 80 (nI s) = true := n_ib (gn_80 hG) (show s < 6 by omega) (by decide)
    have kcl : (nI s).toNatClampNeg = s := nI_clamp (by omega)
    have hT : q_T (d + 1) = 7 * (q_T d + 2) + 2 := rfl
    have hback : nI (s + 1) + (-1) = nI s := pk_m1 s
    rw [q_srch_s]
    cases hst : q_stN (I 68) s with
    | false =>
      have hst2 : q_st (I 68) (nI s) = false := hst
      rw [if_neg (by decide)]
      have es : J 80 s = -1 := hneg s (Nat.le_refl _) (by omega)
      have h1 : p_run (B_X12_colours_32 zn N P (nI (nv (I 68 1))) 67 (nI lim)) 1 (nI s, J) (nI (s + 1), p_u J 80 s (nI 0)) := p_run1 (fun zrec => by
        have e0 : (-1 : Int32) + nI 1 = nI 0 := by decide
        have e1 : nI 0 ≤ 0 := by decide
        unfold B_X12_colours_32
        simp only [if_neg hc0, if_neg hc1, hQ.1.sees, hst2, Option.bind_some, bI_iff, gp_67_26 hG, n_ck ib, kcl, es, e0, n_let, p_u_self, if_pos e1, nI_add])
      rcases ih (s + 1) (by omega) (p_u J 80 s (nI 0)) row (hQ.of (fun zq hq => p_u_ne hq)) (fun o ho hso => by
        by_cases hz : o = s
        · rw [hz, hst] at hso; cases hso
        · rw [p_u_nk hz]; exact hrow o (by omega) hso) (fun j hj hj2 => by rw [p_u_nk (by omega)]; exact hneg j (by omega) hj2) with ⟨r, J2, k, a1, a2, a3, a4, a5⟩ | ⟨J2, k, a1, a2, a3, a4, a5, a6⟩
      · refine Or.inl ⟨r, J2, 1 + k, a1, by omega, p_runT h1 a3, fun zq hq => by rw [a4 zq hq, p_u_ne hq], a5⟩
      · rw [hback] at a3
        have es2 : J2 80 s = nI 0 := by rw [a5 s (by omega), p_u_self]
        have hQ2 : mQ zk N P I J2 := hQ.of (fun zq hq => by rw [a4 zq hq, p_u_ne hq])
        have h2 : p_run (B_X12_colours_32 zn N P (nI (nv (I 68 1))) 67 (nI lim)) 1 (nI s, J2) (nI s + (-1), p_u (p_u J2 80 s (nI 1)) 80 s (-1)) := p_run1 (fun zrec => by
          have e1 : ¬ nI 1 ≤ 0 := by decide
          have e0 : nI 0 + nI 1 = nI 1 := by decide
          unfold B_X12_colours_32
          simp only [if_neg hc0, if_neg hc1, hQ2.1.sees, hst2, Option.bind_some, bI_iff, gp_67_26 hG, n_ck ib, kcl, es2, e0, n_let, p_u_self, if_neg e1])
        refine Or.inr ⟨p_u (p_u J2 80 s (nI 1)) 80 s (-1), 1 + (k + 1), a1, by omega, p_runT h1 (p_runT a3 h2), fun zq hq => by rw [p_u_ne hq, p_u_ne hq, a4 zq hq, p_u_ne hq], fun o ho => by rw [p_u_nk (by omega), p_u_nk (by omega), a5 o (by omega), p_u_nk (by omega)], fun j hj hj2 => ?_⟩
        by_cases hz : j = s
        · rw [hz, p_u_self]
        · rw [p_u_nk hz, p_u_nk hz]; exact a6 j (by omega) hj2
    | true =>
      have hst2 : q_st (I 68) (nI s) = true := hst
      rw [if_pos rfl]
      have hinner : ∀ e c, c + e = lim → ∀ (X : pI), mQ zk N P I X → (∀ o, o < s → X 80 o = J 80 o) → X 80 s = nI c + (-1) → (∀ j, s < j → j < nv (I 68 1) → X 80 j = -1) →
          (∃ r J2 k, q_try (fun c => q_srch (q_stN (I 68)) (q_clS (I 68)) lim d (s + 1) (q_up1 row s (nI c))) (fun c => q_fr (q_clS (I 68)) row s (nI c)) e c = some r ∧ k ≤ (e + 1) * (q_T d + 2) ∧ p_run (B_X12_colours_32 zn N P (nI (nv (I 68 1))) 67 (nI lim)) k (nI s, X) (nI (nv (I 68 1)), J2) ∧ (∀ zq, zq ≠ 80 → J2 zq = X zq) ∧ ∀ o, o < nv (I 68 1) → q_stN (I 68) o = true → J2 80 o = r o) ∨ (∃ J2 k, q_try (fun c => q_srch (q_stN (I 68)) (q_clS (I 68)) lim d (s + 1) (q_up1 row s (nI c))) (fun c => q_fr (q_clS (I 68)) row s (nI c)) e c = none ∧ k ≤ (e + 1) * (q_T d + 2) ∧ p_run (B_X12_colours_32 zn N P (nI (nv (I 68 1))) 67 (nI lim)) k (nI s, X) (nI s + (-1), J2) ∧ (∀ zq, zq ≠ 80 → J2 zq = X zq) ∧ (∀ o, o < s → J2 80 o = J 80 o) ∧ ∀ j, s ≤ j → j < nv (I 68 1) → J2 80 j = -1) := by
        intro e
        induction e with
        | zero =>
          intro c hcl X hX hXo hXs hXj
          have hcl2 : c = lim := by omega
          subst hcl2
          have es : X 80 s + nI 1 = nI c := by
            rw [hXs, Int32.add_assoc, show (-1 : Int32) + nI 1 = 0 by decide, Int32.add_zero]
          have h1 : p_run (B_X12_colours_32 zn N P (nI (nv (I 68 1))) 67 (nI c)) 1 (nI s, X) (nI s + (-1), p_u (p_u X 80 s (nI c)) 80 s (-1)) := p_run1 (fun zrec => by
            unfold B_X12_colours_32
            simp only [if_neg hc0, if_neg hc1, hX.1.sees, hst2, Option.bind_some, bI_ift, gp_67_26 hG, n_ck ib, kcl, es, n_let, p_u_self, if_true])
          refine Or.inr ⟨p_u (p_u X 80 s (nI c)) 80 s (-1), 1, rfl, by omega, h1, fun zq hq => by rw [p_u_ne hq, p_u_ne hq], fun o ho => by rw [p_u_nk (by omega), p_u_nk (by omega)]; exact hXo o ho, fun j hj hj2 => ?_⟩
          by_cases hz : j = s
          · rw [hz, p_u_self]
          · rw [p_u_nk hz, p_u_nk hz]; exact hXj j (by omega) hj2
        | succ e ihe =>
          intro c hcl X hX hXo hXs hXj
          have es : X 80 s + nI 1 = nI c := by
            rw [hXs, Int32.add_assoc, show (-1 : Int32) + nI 1 = 0 by decide, Int32.add_zero]
          have hne : ¬ nI c = nI lim := fun e => by
            have := (nI_eq (by omega) (by omega)).mp e
            omega
          have hX2 : mQ zk N P I (p_u X 80 s (nI c)) := hX.of (fun zq hq => p_u_ne hq)
          have hap := m_isApart hG (A := I 68) h6 hX2.2 (s := s) (zn := zn) (by omega) hn (c := nI c) p_u_self
          have hfr : q_fr (q_clS (I 68)) (p_u X 80 s (nI c) 80) s (nI c) = q_fr (q_clS (I 68)) row s (nI c) := q_fr_ext (fun o ho hco => by rw [p_u_nk (by omega), hXo o ho]; exact hrow o ho (q_clS_st hco))
          rw [hfr] at hap
          rw [q_try_s]
          have hmul : (e + 1 + 1) * (q_T d + 2) = (e + 1) * (q_T d + 2) + (q_T d + 2) := Nat.succ_mul _ _
          cases hf : q_fr (q_clS (I 68)) row s (nI c) with
          | false =>
            rw [hf] at hap
            rw [if_neg (by decide)]
            have h1 : p_run (B_X12_colours_32 zn N P (nI (nv (I 68 1))) 67 (nI lim)) 1 (nI s, X) (nI s, p_u X 80 s (nI c)) := p_run1 (fun zrec => by
              unfold B_X12_colours_32
              simp only [if_neg hc0, if_neg hc1, hX.1.sees, hst2, Option.bind_some, bI_ift, gp_67_26 hG, n_ck ib, kcl, es, n_let, p_u_self, if_neg hne, hap, bI_iff])
            rcases ihe (c + 1) (by omega) (p_u X 80 s (nI c)) hX2 (fun o ho => by rw [p_u_nk (by omega)]; exact hXo o ho) (by rw [p_u_self, pk_m1]) (fun j hj hj2 => by rw [p_u_nk (by omega)]; exact hXj j hj hj2) with ⟨r, J2, k, a1, a2, a3, a4, a5⟩ | ⟨J2, k, a1, a2, a3, a4, a5, a6⟩
            · exact Or.inl ⟨r, J2, 1 + k, a1, by omega, p_runT h1 a3, fun zq hq => by rw [a4 zq hq, p_u_ne hq], a5⟩
            · exact Or.inr ⟨J2, 1 + k, a1, by omega, p_runT h1 a3, fun zq hq => by rw [a4 zq hq, p_u_ne hq], a5, a6⟩
          | true =>
            rw [hf] at hap
            rw [if_pos rfl]
            have h1 : p_run (B_X12_colours_32 zn N P (nI (nv (I 68 1))) 67 (nI lim)) 1 (nI s, X) (nI (s + 1), p_u X 80 s (nI c)) := p_run1 (fun zrec => by
              unfold B_X12_colours_32
              simp only [if_neg hc0, if_neg hc1, hX.1.sees, hst2, Option.bind_some, bI_ift, gp_67_26 hG, n_ck ib, kcl, es, n_let, p_u_self, if_neg hne, hap, nI_add])
            rcases ih (s + 1) (by omega) (p_u X 80 s (nI c)) (q_up1 row s (nI c)) hX2 (fun o ho hso => by
              unfold q_up1
              by_cases hz : o = s
              · rw [hz, p_u_self, if_pos rfl]
              · rw [p_u_nk hz, if_neg hz, hXo o (by omega)]; exact hrow o (by omega) hso) (fun j hj hj2 => by rw [p_u_nk (by omega)]; exact hXj j (by omega) hj2) with ⟨r, J2, k, a1, a2, a3, a4, a5⟩ | ⟨J2, k, a1, a2, a3, a4, a5, a6⟩
            · refine Or.inl ⟨r, J2, 1 + k, by rw [a1]; rfl, by omega, p_runT h1 a3, fun zq hq => by rw [a4 zq hq, p_u_ne hq], a5⟩
            · rw [hback] at a3
              rcases ihe (c + 1) (by omega) J2 (hX2.of a4) (fun o ho => by rw [a5 o (by omega), p_u_nk (by omega)]; exact hXo o ho) (by rw [a5 s (by omega), p_u_self, pk_m1]) (fun j hj hj2 => a6 j (by omega) hj2) with ⟨r, J3, k3, b1, b2, b3, b4, b5⟩ | ⟨J3, k3, b1, b2, b3, b4, b5, b6⟩
              · refine Or.inl ⟨r, J3, 1 + (k + k3), by rw [a1]; exact b1, by omega, p_runT h1 (p_runT a3 b3), fun zq hq => by rw [b4 zq hq, a4 zq hq, p_u_ne hq], b5⟩
              · refine Or.inr ⟨J3, 1 + (k + k3), by rw [a1]; exact b1, by omega, p_runT h1 (p_runT a3 b3), fun zq hq => by rw [b4 zq hq, a4 zq hq, p_u_ne hq], b5, b6⟩
      have hb : (lim + 1) * (q_T d + 2) ≤ 7 * (q_T d + 2) := Nat.mul_le_mul_right _ (by omega)
      rcases hinner lim 0 (by omega) J hQ (fun _ _ => rfl) (by rw [hneg s (Nat.le_refl _) (by omega)]; decide) (fun j hj hj2 => hneg j (by omega) hj2) with ⟨r, J2, k, a1, a2, a3, a4, a5⟩ | ⟨J2, k, a1, a2, a3, a4, a5, a6⟩
      · exact Or.inl ⟨r, J2, k, a1, by omega, a3, a4, a5⟩
      · exact Or.inr ⟨J2, k, a1, by omega, a3, a4, a5, a6⟩
theorem q_T6 : ∀ d, d < 7 → q_T d ≤ 313728 := by decide +kernel
theorem q_sr_n {A : Nat → Int32} {zh : Nat} (h1 : rg (A 1) zh) (h6 : nv (A 1) ≤ 6) (lim : Nat) : q_sr A lim = q_srch (q_stN A) (q_clS A) lim (nv (A 1)) 0 (fun _ => 0) := by
  unfold q_sr
  have h9 := q_srch_ext (st := q_stN A) (cl := q_clS A) (lim := lim) (e := 6 - nv (A 1)) (nv (A 1)) 0 (fun _ => 0) (fun j hj hj2 => q_st_ge h1 (by omega) (by omega))
  rw [show nv (A 1) + (6 - nv (A 1)) = 6 by omega] at h9
  exact h9
theorem m_colours (hQ : mQ zk N P I J) {lim zn : Nat} (hl : lim ≤ 6) (hn : 400000 < zn) : (∃ r J2, q_sr (I 68) lim = some r ∧ f_X12_colours zn N J P 67 (nI lim) = some (nI 1, J2) ∧ mQ zk N P I J2 ∧ ∀ o, o < nv (I 68 1) → q_stN (I 68) o = true → J2 80 o = r o) ∨ (∃ J2, q_sr (I 68) lim = none ∧ f_X12_colours zn N J P 67 (nI lim) = some (nI 0, J2) ∧ mQ zk N P I J2) := by
  have hG := hQ.1.gw
  have r1 := hQ.1.n1
  have h6 := r1.2
  have i1 : p_ib N 68 (nI 1) = true := ib_68 hG (by decide)
  have k1 : (nI 1).toNatClampNeg = 1 := by decide
  have e1 : J 68 1 = nI (nv (I 68 1)) := by rw [hQ.1.2.e68]; exact r1.1
  have hloop := p_loopI (B := B_X12_colours_12 N P (nI (nv (I 68 1))) 67) (zJ := fun zj (zc : Int32 × pI) => zc.1 = nI zj ∧ (∀ zq, zq ≠ 80 → zc.2 zq = J zq) ∧ ∀ o, o < zj → zc.2 80 o = -1) (zE := fun (X : pI) => (∀ zq, zq ≠ 80 → X zq = J zq) ∧ ∀ o, o < nv (I 68 1) → X 80 o = -1) (zm := nv (I 68 1)) (zn := zn) (by omega) ?_ ?_ (nI 0, J) ⟨rfl, fun _ _ => rfl, fun o ho => absurd ho (Nat.not_lt_zero o)⟩
  · obtain ⟨X, l1, l2, l3⟩ := hloop
    have hX : mQ zk N P I X := hQ.of l2
    have hTn := q_T6 (nv (I 68 1)) (by omega)
    rw [q_sr_n r1 h6]
    rcases m_colL (zk := zk) hG h6 (lim := lim) (zn := zn) hl (by omega) (nv (I 68 1)) 0 (by omega) X (fun _ => 0) hX (fun o ho => absurd ho (Nat.not_lt_zero o)) (fun j _ hj => l3 j hj) with ⟨r, J2, k, a1, a2, a3, a4, a5⟩ | ⟨J2, k, a1, a2, a3, a4, a5, a6⟩
    · have hE : p_it (B_X12_colours_32 zn N P (nI (nv (I 68 1))) 67 (nI lim)) zn (nI 0, X) = some (nI (nv (I 68 1)), J2) := p_runE a3 (by omega) (fun zrec => by
        unfold B_X12_colours_32
        simp only [if_neg (nI_pos (show nv (I 68 1) < 2 ^ 31 by omega)), if_pos (Int32.le_refl (nI (nv (I 68 1))))])
      refine Or.inl ⟨r, J2, a1, ?_, hX.of a4, a5⟩
      unfold f_X12_colours
      simp only [gp_67_0 hG, Option.bind_some, n_ck i1, k1, e1, n_let, l1, hE, if_true]
    · have hm1 : nI 0 + (-1) < 0 := by decide
      have hE : p_it (B_X12_colours_32 zn N P (nI (nv (I 68 1))) 67 (nI lim)) zn (nI 0, X) = some (nI 0 + (-1), J2) := p_runE a3 (by omega) (fun zrec => by
        unfold B_X12_colours_32
        simp only [if_pos hm1])
      have hne : ¬ nI 0 + (-1) = nI (nv (I 68 1)) := fun e => by
        rw [e] at hm1
        exact nI_pos (by omega) hm1
      refine Or.inr ⟨J2, a1, ?_, hX.of a4⟩
      unfold f_X12_colours
      simp only [gp_67_0 hG, Option.bind_some, n_ck i1, k1, e1, n_let, l1, hE, if_neg hne]
  · rintro zj hj ⟨za, X⟩ ⟨g1, g2, g3⟩
    dsimp only at g1 g2 g3
    subst g1
    left
    have hc : ¬ nI (nv (I 68 1)) ≤ nI zj := nI_ge hj (by omega)
    have ib : p_ib N 80 (nI zj) = true := n_ib (gn_80 hG) (show zj < 6 by omega) (by decide)
    have kcl : (nI zj).toNatClampNeg = zj := nI_clamp (by omega)
    refine ⟨(nI (zj + 1), p_u X 80 zj (-1)), ⟨rfl, fun zq hq => by dsimp only; rw [p_u_ne hq, g2 zq hq], fun o ho => ?_⟩, fun zrec => ?_⟩
    · dsimp only
      by_cases hz : o = zj
      · rw [hz, p_u_self]
      · rw [p_u_nk hz]; exact g3 o (by omega)
    · unfold B_X12_colours_12
      simp only [if_neg hc, gp_67_26 hG, Option.bind_some, n_ck ib, kcl, n_let, nI_add]
  · rintro ⟨za, X⟩ ⟨g1, g2, g3⟩
    dsimp only at g1 g2 g3
    subst g1
    refine ⟨X, ⟨g2, g3⟩, fun zrec => ?_⟩
    unfold B_X12_colours_12
    simp only [if_pos (Int32.le_refl (nI (nv (I 68 1))))]
def q_ns (A : Nat → Int32) (k : Nat) : Nat := q_fold (fun j s => s + (if q_st A (nI j) = true then 1 else 0)) k 0
theorem q_ns_le {A : Nat → Int32} : ∀ k, q_ns A k ≤ k := by
  intro k
  induction k with
  | zero => exact Nat.le_refl _
  | succ k ih =>
    show q_ns A k + _ ≤ k + 1
    split <;> omega
theorem q_ns_0 {A : Nat → Int32} : ∀ k, q_ns A k = 0 → ∀ j, j < k → q_st A (nI j) = false := by
  intro k
  induction k with
  | zero => intro _ j hj; omega
  | succ k ih =>
    intro h j hj
    have h : q_ns A k + (if q_st A (nI k) = true then 1 else 0) = 0 := h
    by_cases hz : j = k
    · rw [hz]
      cases hk : q_st A (nI k) with
      | false => rfl
      | true => rw [hk, if_pos rfl] at h; omega
    · exact ih (by omega) j (by omega)
theorem q_ns_1 {A : Nat → Int32} : ∀ k, 0 < q_ns A k → ∃ j, j < k ∧ q_st A (nI j) = true := by
  intro k
  induction k with
  | zero => intro h; exact absurd h (Nat.lt_irrefl 0)
  | succ k ih =>
    intro h
    have h : 0 < q_ns A k + (if q_st A (nI k) = true then 1 else 0) := h
    cases hk : q_st A (nI k) with
    | true => exact ⟨k, by omega, hk⟩
    | false =>
      rw [hk, if_neg (by decide)] at h
      obtain ⟨j, h1, h2⟩ := ih (by omega)
      exact ⟨j, by omega, h2⟩
theorem m_unlike (h : mK zk N P I J) {zn : Nat} (hn : 200 < zn) : ∃ J2 K2, p_it (B_X12_colouring_4 zn N P 67) zn (nI 0, nI 0, J, L) = some (nI (q_ns (I 68) (nv (I 68 1))), J2, K2) ∧ mQ zk N P I J2 := by
  have hG := h.gw
  have r1 := h.n1
  have h6 := r1.2
  have i1 : p_ib N 68 (nI 1) = true := ib_68 hG (by decide)
  have k1 : (nI 1).toNatClampNeg = 1 := by decide
  have hinner : ∀ a, a < nv (I 68 1) → ∀ X Y, mK zk N P I X → ∃ X2 Y2, p_it (B_X12_colouring_32 zn N P 67 (nI a)) zn (nI 0, X, Y) = some (X2, Y2) ∧ mK zk N P I X2 ∧ (∀ b, b < a → X2 81 (6 * a + b) = bI (q_clS (I 68) a b)) ∧ ∀ zj, (zj < 6 * a ∨ 6 * a + 6 ≤ zj) → X2 81 zj = X 81 zj := by
    intro a ha X Y hX
    have hloop := p_loopI (B := B_X12_colouring_32 zn N P 67 (nI a)) (zJ := fun zj (zc : Int32 × pI × pL) => zc.1 = nI zj ∧ mK zk N P I zc.2.1 ∧ (∀ b, b < zj → zc.2.1 81 (6 * a + b) = bI (q_clS (I 68) a b)) ∧ ∀ zl, (zl < 6 * a ∨ 6 * a + 6 ≤ zl) → zc.2.1 81 zl = X 81 zl) (zE := fun (zt : pI × pL) => mK zk N P I zt.1 ∧ (∀ b, b < a → zt.1 81 (6 * a + b) = bI (q_clS (I 68) a b)) ∧ ∀ zl, (zl < 6 * a ∨ 6 * a + 6 ≤ zl) → zt.1 81 zl = X 81 zl) (zm := a) (zn := zn) (by omega) ?_ ?_ (nI 0, X, Y) ⟨rfl, hX, fun b hb => absurd hb (Nat.not_lt_zero b), fun _ _ => rfl⟩
    · obtain ⟨⟨X2, Y2⟩, l1, l2⟩ := hloop
      exact ⟨X2, Y2, l1, l2⟩
    · rintro zj hj ⟨za, J, K⟩ ⟨e1, e3, e4, e5⟩
      dsimp only at e1 e3 e4 e5
      subst e1
      left
      have hc : ¬ nI a ≤ nI zj := nI_ge hj (by omega)
      have ia : nI 6 * nI a + nI zj = nI (6 * a + zj) := by rw [pk_mul, nI_add]
      have ib : p_ib N 81 (nI (6 * a + zj)) = true := n_ib (gn_81 hG) (show 6 * a + zj < 36 by omega) (by decide)
      have ic : (nI (6 * a + zj)).toNatClampNeg = 6 * a + zj := nI_clamp (by omega)
      have hput : ∀ (X2 : pI) (Y2 : pL), mK zk N P I X2 → m_gF J X2 → ∃ zs2 : Int32 × pI × pL, zs2 = (nI (zj + 1), p_u X2 81 (6 * a + zj) (bI (q_clS (I 68) a zj)), Y2) ∧ zs2.1 = nI (zj + 1) ∧ mK zk N P I zs2.2.1 ∧ (∀ b, b < zj + 1 → zs2.2.1 81 (6 * a + b) = bI (q_clS (I 68) a b)) ∧ ∀ zl, (zl < 6 * a ∨ 6 * a + 6 ≤ zl) → zs2.2.1 81 zl = X 81 zl := fun X2 Y2 hX2 hg => by
        refine ⟨_, rfl, rfl, ⟨hX2.1.scratch (fun zq hq => p_u_ne (by omega)), hX2.2.tr (fun zq a => p_u_ne (by omega))⟩, fun b hb => ?_, fun zl hl => ?_⟩
        · dsimp only
          by_cases hz : b = zj
          · rw [hz, p_u_self]
          · rw [p_u_nk (by omega), hg.1 81 (by decide) (by decide) (by decide)]; exact e4 b (by omega)
        · dsimp only
          rw [p_u_nk (by omega), hg.1 81 (by decide) (by decide) (by decide)]; exact e5 zl hl
      cases hsa : q_st (I 68) (nI a) with
      | false =>
        have hq : q_clS (I 68) a zj = false := by unfold q_clS; rw [hsa]; rfl
        obtain ⟨zs2, t0, t1⟩ := hput J K e3 m_gF.rf
        rw [hq] at t0
        refine ⟨zs2, t1, fun zrec => ?_⟩
        rw [t0]
        unfold B_X12_colouring_32
        simp only [if_neg hc, gp_67_27 hG, Option.bind_some, e3.sees, hsa, bI_iff, ia, n_ck ib, ic, n_00, true_or, decide_true, n_ckt, n_let, nI_add]
        rfl
      | true =>
        cases hsb : q_st (I 68) (nI zj) with
        | false =>
          have hq : q_clS (I 68) a zj = false := by unfold q_clS; rw [hsa, hsb]; rfl
          obtain ⟨zs2, t0, t1⟩ := hput J K e3 m_gF.rf
          rw [hq] at t0
          refine ⟨zs2, t1, fun zrec => ?_⟩
          rw [t0]
          unfold B_X12_colouring_32
          simp only [if_neg hc, gp_67_27 hG, Option.bind_some, e3.sees, hsa, hsb, bI_iff, bI_ift, ia, n_ck ib, ic, n_00, true_or, decide_true, n_ckt, n_let, nI_add]
          rfl
        | true =>
          obtain ⟨J2, K2, j1, j2, j3⟩ := m_clashes (L := K) e3 (za := a) (zb := zj) ha (by omega) hn
          have hq : q_clS (I 68) a zj = q_cl (I 68) a zj := by unfold q_clS; rw [hsa, hsb]; rfl
          obtain ⟨zs2, t0, t1⟩ := hput J2 K2 j2 j3
          rw [hq] at t0
          refine ⟨zs2, t1, fun zrec => ?_⟩
          rw [t0]
          unfold B_X12_colouring_32
          cases hcl : q_cl (I 68) a zj with
          | false =>
            rw [hcl] at j1
            simp only [if_neg hc, gp_67_27 hG, Option.bind_some, e3.sees, hsa, hsb, bI_iff, bI_ift, j1, ia, n_ck ib, ic, n_00, true_or, decide_true, n_ckt, n_let, nI_add]
            rfl
          | true =>
            rw [hcl] at j1
            simp only [if_neg hc, gp_67_27 hG, Option.bind_some, e3.sees, hsa, hsb, bI_ift, j1, ia, n_ck ib, ic, n_10, n_11, or_true, decide_true, n_ckt, n_let, nI_add]
            rfl
    · rintro ⟨za, J, K⟩ ⟨e1, e3, e4, e5⟩
      dsimp only at e1 e3 e4 e5
      subst e1
      refine ⟨(J, K), ⟨e3, e4, e5⟩, fun zrec => ?_⟩
      unfold B_X12_colouring_32
      simp only [if_pos (Int32.le_refl (nI a))]
  have hloop := p_loopI (B := B_X12_colouring_4 zn N P 67) (zJ := fun zj (zc : Int32 × Int32 × pI × pL) => zc.1 = nI (q_ns (I 68) zj) ∧ zc.2.1 = nI zj ∧ mK zk N P I zc.2.2.1 ∧ ∀ a b, b < a → a < zj → zc.2.2.1 81 (6 * a + b) = bI (q_clS (I 68) a b)) (zE := fun (zt : Int32 × pI × pL) => zt.1 = nI (q_ns (I 68) (nv (I 68 1))) ∧ mQ zk N P I zt.2.1) (zm := nv (I 68 1)) (zn := zn) (by omega) ?_ ?_ (nI 0, nI 0, J, L) ⟨rfl, rfl, h, fun a b _ ha => absurd ha (Nat.not_lt_zero a)⟩
  · obtain ⟨⟨zt, X2, Y2⟩, l1, l2, l3⟩ := hloop
    dsimp only at l2 l3
    subst l2
    exact ⟨X2, Y2, l1, l3⟩
  · rintro zj hj ⟨za, zb, J, K⟩ ⟨e0, e1, e3, e4⟩
    dsimp only at e0 e1 e3 e4
    subst e0
    subst e1
    left
    have hc : ¬ J 68 1 ≤ nI zj := by rw [e3.2.e68, r1.1]; exact nI_ge hj (by omega)
    obtain ⟨X2, Y2, x1, x2, x3, x4⟩ := hinner zj hj J K e3
    have hns : q_ns (I 68) (zj + 1) = q_ns (I 68) zj + (if q_st (I 68) (nI zj) = true then 1 else 0) := rfl
    refine ⟨(nI (q_ns (I 68) (zj + 1)), nI (zj + 1), X2, Y2), ⟨rfl, rfl, x2, fun a b hb ha => ?_⟩, fun zrec => ?_⟩
    · dsimp only
      by_cases hz : a = zj
      · subst hz; exact x3 b hb
      · rw [x4 _ (by omega)]; exact e4 a b hb (by omega)
    · unfold B_X12_colouring_4
      rw [hns]
      cases hst : q_st (I 68) (nI zj) with
      | false => simp only [gp_67_0 hG, Option.bind_some, n_ck i1, k1, if_neg hc, e3.sees, hst, bI_iff, n_let, x1, nI_add, Bool.false_eq_true, if_false]
      | true => simp only [gp_67_0 hG, Option.bind_some, n_ck i1, k1, if_neg hc, e3.sees, hst, bI_ift, n_let, x1, nI_add, if_true]
  · rintro ⟨za, zb, J, K⟩ ⟨e0, e1, e3, e4⟩
    dsimp only at e0 e1 e3 e4
    subst e1
    have hc : J 68 1 ≤ nI (nv (I 68 1)) := by rw [e3.2.e68, ← r1.1]; exact Int32.le_refl _
    refine ⟨(za, J, K), ⟨e0, e3, e4⟩, fun zrec => ?_⟩
    unfold B_X12_colouring_4
    simp only [gp_67_0 hG, Option.bind_some, n_ck i1, k1, if_pos hc]
theorem m_colouring (h : mK zk N P I J) {zn : Nat} (hn : 400000 < zn) : ∃ J2 K2, f_X12_colouring zn N J L P 67 = some (nI (q_num (I 68)), J2, K2) ∧ mK zk N P I J2 ∧ (q_num (I 68) = 0 → ∀ o, o < nv (I 68 1) → q_st (I 68) (nI o) = false) ∧ q_num (I 68) ≤ 6 ∧ (0 < q_num (I 68) → ∃ r, q_sr (I 68) (q_num (I 68)) = some r ∧ ∀ o, o < nv (I 68 1) → q_stN (I 68) o = true → J2 80 o = r o) := by
  have hG := h.gw
  have r1 := h.n1
  have h6 := r1.2
  obtain ⟨X, Y, x1, x2⟩ := m_unlike (L := L) h (zn := zn) (by omega)
  have hns := q_ns_le (A := I 68) (nv (I 68 1))
  have hle : q_num (I 68) ≤ 6 := by
    have := q_lst_le (g := fun lim => (q_sr (I 68) lim).isSome) 6 0
    unfold q_num
    omega
  by_cases hz : q_ns (I 68) (nv (I 68 1)) = 0
  · have hno := q_ns_0 _ hz
    have hnum : q_num (I 68) = 0 := by
      have hs : q_sr (I 68) 0 = some (fun _ => 0) := by
        rw [q_sr_n r1 h6]
        exact q_srch_no _ _ _ (fun j _ hj => hno j (by omega))
      unfold q_num
      rw [q_lst_s]
      rw [hs]
      rfl
    rw [hnum]
    refine ⟨X, Y, ?_, x2.1, fun _ => hno, by omega, fun e => absurd e (Nat.lt_irrefl 0)⟩
    unfold f_X12_colouring
    rw [x1, hz]
    simp only [Option.bind_some, n_00, if_true]
  · have hne : ¬ nI (q_ns (I 68) (nv (I 68 1))) = 0 := nI_ne0 (by omega) (by omega)
    obtain ⟨j0, j1, j2⟩ := q_ns_1 (A := I 68) (nv (I 68 1)) (by omega)
    have hs0 : q_sr (I 68) 0 = none := by
      rw [q_sr_n r1 h6]
      exact q_srch_0 _ _ _ j0 (Nat.zero_le _) (by omega) j2
    obtain ⟨zR, hR⟩ : ∃ zR, zR = q_num (I 68) := ⟨_, rfl⟩
    obtain ⟨rr, hrr⟩ := q_num_ok (A := I 68)
    rw [← hR] at hrr hle ⊢
    have hR1 : zR = q_lst (fun lim => (q_sr (I 68) lim).isSome) 5 1 := by
      rw [hR]
      unfold q_num
      rw [q_lst_s]
      rw [hs0]
      rfl
    have hpos : 0 < zR := by
      by_cases hz0 : zR = 0
      · rw [hz0, hs0] at hrr; cases hrr
      · omega
    have hloop := p_loopI (B := B_X12_colouring_98 zn N P 67) (zJ := fun zj (zc : Int32 × pI) => zc.1 = nI (zj + 1) ∧ mQ zk N P I zc.2 ∧ zR = q_lst (fun lim => (q_sr (I 68) lim).isSome) (5 - zj) (zj + 1)) (zE := fun (zt : Int32 × pI) => zt.1 = nI zR ∧ mQ zk N P I zt.2 ∧ ∀ o, o < nv (I 68 1) → q_stN (I 68) o = true → zt.2 80 o = rr o) (zm := 5) (zn := zn) (by omega) ?_ ?_ (nI 1, X) ⟨rfl, x2, hR1⟩
    · obtain ⟨⟨zt, J2⟩, l1, l2, l3, l4⟩ := hloop
      dsimp only at l2 l3 l4
      subst l2
      refine ⟨J2, Y, ?_, l3.1, fun e => by omega, hle, fun _ => ⟨rr, hrr, l4⟩⟩
      unfold f_X12_colouring
      rw [x1]
      simp only [Option.bind_some, if_neg hne, l1]
    · rintro zj hj ⟨za, J⟩ ⟨e0, e1, e2⟩
      dsimp only at e0 e1 e2
      subst e0
      rw [show 5 - zj = (5 - (zj + 1)) + 1 by omega, q_lst_s] at e2
      rcases m_colours e1 (lim := zj + 1) (zn := zn) (by omega) hn with ⟨r, J2, a1, a2, a3, a4⟩ | ⟨J2, a1, a2, a3⟩
      · rw [a1, Option.isSome_some, if_pos rfl] at e2
        rw [e2, a1] at hrr
        have err : r = rr := Option.some.inj hrr
        right
        refine ⟨(nI (zj + 1), J2), ⟨by rw [e2], a3, fun o ho hso => by rw [← err]; exact a4 o ho hso⟩, fun zrec => ?_⟩
        unfold B_X12_colouring_98
        simp only [a2, Option.bind_some, n_10, if_false]
      · rw [a1, Option.isSome_none, if_neg (by decide)] at e2
        left
        refine ⟨(nI (zj + 1 + 1), J2), ⟨rfl, a3, e2⟩, fun zrec => ?_⟩
        unfold B_X12_colouring_98
        simp only [a2, Option.bind_some, n_00, if_true, nI_add]
    · rintro ⟨za, J⟩ ⟨e0, e1, e2⟩
      dsimp only at e0 e1 e2
      subst e0
      have e2 : zR = 6 := e2
      rcases m_colours e1 (lim := 6) (zn := zn) (by omega) hn with ⟨r, J2, a1, a2, a3, a4⟩ | ⟨J2, a1, a2, a3⟩
      · rw [e2, a1] at hrr
        have err : r = rr := Option.some.inj hrr
        refine ⟨(nI (5 + 1), J2), ⟨by rw [e2], a3, fun o ho hso => by rw [← err]; exact a4 o ho hso⟩, fun zrec => ?_⟩
        unfold B_X12_colouring_98
        simp only [a2, Option.bind_some, n_10, if_false]
      · have h9 := q_sr6 (A := I 68)
        rw [a1] at h9
        cases h9
end Colour
theorem sp_colour {n zk : Nat} (hn : 400000 < n) : Sp_colour n (Ivv zk) (Ivv (zk + 1)) := by
  intro N I L P h x1
  have h : IV zk N P I := h
  have hG := h.gw
  have h6 := h.n1.2
  cases h1 : q_st (I 68) x1 with
  | false =>
    refine ⟨(-1, I, L), (-1, I, L), ?_, ?_, rfl, h.up⟩
    · unfold f_X11_colour
      simp only [gp_0_0 hG, Option.bind_some, c_st hG h.sr, h1, bI_iff]
    · unfold f_X12_colour
      simp only [Option.bind_some, m_st hG h.sr, h1, bI_iff]
  | true =>
    rcases q_st_x h.n1 (by decide) x1 with ⟨e, _⟩ | ⟨za, ha, ea, _⟩
    · rw [h1] at e; cases e
    · obtain ⟨J, K, k1, k2, k3, r, k4, k5⟩ := c_paintSenders (L := L) h (zn := n) (by omega)
      obtain ⟨J2, K2, m1, m2, m3, m4, m5⟩ := m_colouring (L := K) (mK.rf k2.1) hn
      rw [k2.2.e68] at m1 m3 m4 m5
      have hstz : q_st (I 68) (nI za) = true := by rw [← ea]; exact h1
      have hpos : 0 < q_num (I 68) := by
        by_cases hz : q_num (I 68) = 0
        · rw [m3 hz za ha] at hstz; cases hstz
        · omega
      obtain ⟨r2, m6, m7⟩ := m5 hpos
      rw [k4] at m6
      have er : r = r2 := Option.some.inj m6
      have hm1 : f_X12_seesSender N J P 67 x1 = some (bI true) := by rw [m_st hG k2.sr, k2.2.e68, h1]
      have hc1 : ¬ nI (N.2 52).2 ≤ nI za := by rw [gn_52 hG]; exact nI_ge (by omega) (by decide)
      have ib52 : p_ib N 52 (nI za) = true := n_ib (gn_52 hG) (show za < 6 by omega) (by decide)
      have ib80 : p_ib N 80 (nI za) = true := n_ib (gn_80 hG) (show za < 6 by omega) (by decide)
      have kcl : (nI za).toNatClampNeg = za := nI_clamp (by omega)
      have hne : ¬ nI (q_num (I 68)) = 0 := nI_ne0 hpos (by omega)
      refine ⟨(r za, J, K), (r za, J2, K2), ?_, ?_, rfl, m2.1.up⟩
      · unfold f_X11_colour f_X5_paintOf
        simp only [gp_0_0 hG, gp_0_4 hG, gp_49_4 hG, Option.bind_some, c_st hG h.sr, h1, bI_ift, k1]
        rw [ea]
        simp only [if_neg (nI_pos (show za < 2 ^ 31 by omega)), if_neg hc1, n_ck ib52, kcl, k5 za (by omega) hstz, Option.bind_some]
      · unfold f_X12_colour
        simp only [Option.bind_some, hm1, bI_ift, m1, if_neg hne, gp_67_26 hG]
        rw [ea]
        simp only [n_ck ib80, kcl, m7 za ha hstz, er]
