/-! the class: a way comes into the table of what is found -/
def q_sum (l : List qW) : Int32 := l.foldl (fun s q => s + q.2.2.2.2.2) (nI 0)
theorem q_sum_app {l : List qW} {zq : qW} : q_sum (l ++ [zq]) = q_sum l + zq.2.2.2.2.2 := by
  unfold q_sum
  rw [List.foldl_append]
  rfl
def q_FR (N : pN) (P : pR) (I : pI) (l : List qW) : Prop := TB N P I 29 30 169 6 l.length ∧ (∀ zi zq, l[zi]? = some zq → I 30 (zi * 6 + 0) = zq.1 ∧ I 30 (zi * 6 + 1) = zq.2.1 ∧ I 30 (zi * 6 + 2) = zq.2.2.1 ∧ I 30 (zi * 6 + 3) = zq.2.2.2.1 ∧ I 30 (zi * 6 + 4) = zq.2.2.2.2.1 ∧ I 30 (zi * 6 + 5) = zq.2.2.2.2.2 ∧ I 31 zi = nI zi) ∧ I 21 13 = q_sum l
def c_fr (I J : pI) : Prop := (∀ zx, zx ≠ 21 → zx ≠ 29 → zx ≠ 30 → zx ≠ 31 → J zx = I zx) ∧ ∀ zj, zj ≠ 13 → J 21 zj = I 21 zj
theorem c_fr.rf {I : pI} : c_fr I I := ⟨fun _ _ _ _ _ => rfl, fun _ _ => rfl⟩
theorem c_fr.tr {I J K : pI} (h1 : c_fr I J) (h2 : c_fr J K) : c_fr I K := ⟨fun zx a1 a2 a3 a4 => (h2.1 zx a1 a2 a3 a4).trans (h1.1 zx a1 a2 a3 a4), fun zj a1 => (h2.2 zj a1).trans (h1.2 zj a1)⟩
def c_put6 (I : pI) (m : Nat) (w : qW) : pI := p_u (p_u (p_u (p_u (p_u (p_u I 30 (m * 6 + 0) w.1) 30 (m * 6 + 1) w.2.1) 30 (m * 6 + 2) w.2.2.1) 30 (m * 6 + 3) w.2.2.2.1) 30 (m * 6 + 4) w.2.2.2.2.1) 30 (m * 6 + 5) w.2.2.2.2.2
theorem c_put6_n {I : pI} {zm zx : Nat} {zw : qW} (hx : zx ≠ 30) : c_put6 I zm zw zx = I zx := by
  unfold c_put6
  rw [p_u_ne hx, p_u_ne hx, p_u_ne hx, p_u_ne hx, p_u_ne hx, p_u_ne hx]
theorem c_put6_o {I : pI} {zm zi : Nat} {zw : qW} (hi : zi < zm * 6) : c_put6 I zm zw 30 zi = I 30 zi := by
  unfold c_put6
  rw [p_u_nk (by omega), p_u_nk (by omega), p_u_nk (by omega), p_u_nk (by omega), p_u_nk (by omega), p_u_nk (by omega)]
theorem c_put6_s {I : pI} {zm : Nat} {zw : qW} : c_put6 I zm zw 30 (zm * 6 + 0) = zw.1 ∧ c_put6 I zm zw 30 (zm * 6 + 1) = zw.2.1 ∧ c_put6 I zm zw 30 (zm * 6 + 2) = zw.2.2.1 ∧ c_put6 I zm zw 30 (zm * 6 + 3) = zw.2.2.2.1 ∧ c_put6 I zm zw 30 (zm * 6 + 4) = zw.2.2.2.2.1 ∧ c_put6 I zm zw 30 (zm * 6 + 5) = zw.2.2.2.2.2 := by
  unfold c_put6
  refine ⟨?_, ?_, ?_, ?_, ?_, ?_⟩
  · rw [p_u_nk (by omega), p_u_nk (by omega), p_u_nk (by omega), p_u_nk (by omega), p_u_nk (by omega), p_u_self]
  · rw [p_u_nk (by omega), p_u_nk (by omega), p_u_nk (by omega), p_u_nk (by omega), p_u_self]
  · rw [p_u_nk (by omega), p_u_nk (by omega), p_u_nk (by omega), p_u_self]
  · rw [p_u_nk (by omega), p_u_nk (by omega), p_u_self]
  · rw [p_u_nk (by omega), p_u_self]
  · rw [p_u_self]
section Class4
variable {N : pN} {P : pR} {I : pI} {L : pL}
theorem c_keep (hG : GW N P) {l : List qW} (hF : q_FR N P I l) (hlen : l.length < 169) {zs : Int64 × Bool} (hs : q_ok zs) {k1 f1 g1 : Int32} {a1 c1 : Int64} : ∃ J, f_X2_keep N I P 21 k1 f1 g1 a1.toInt32 c1.toInt32 (c_res zs) = some J ∧ q_FR N P J (q_add l k1 f1 g1 a1 c1 zs) ∧ c_fr I J := by
  obtain ⟨hT, hE, hS⟩ := hF
  have p8 : P 21 8 = some 29 := gp_21_8 hG
  have p9 : P 21 9 = some 31 := gp_21_9 hG
  cases hz : zs.2 with
  | true =>
    have e1 : c_res zs = -1 := by unfold c_res; rw [if_pos hz]
    refine ⟨I, ?_, ?_, c_fr.rf⟩
    · unfold f_X2_keep
      rw [p8, Option.bind_some, tb_size hT, Option.bind_some, e1, if_pos rfl]
    · unfold q_add
      rw [if_pos hz]
      exact ⟨hT, hE, hS⟩
  | false =>
    obtain ⟨zm, hm1, hm2⟩ : ∃ zm : Nat, zm ≤ 9999000 ∧ zs.1 = lN zm := hs.resolve_left (by rw [hz]; decide)
    have e1 : c_res zs = zs.1.toInt32 := by unfold c_res; rw [hz, if_neg (by decide)]
    have hne : ¬ c_res zs = -1 := by rw [e1, hm2, lN_i]; exact n_neg1 (by omega)
    have hq : q_add l k1 f1 g1 a1 c1 zs = l ++ [(k1, f1, g1, a1.toInt32, c1.toInt32, c_res zs)] := by
      unfold q_add
      rw [hz, if_neg (by decide), e1]
    rw [hq]
    generalize hw : ((k1, f1, g1, a1.toInt32, c1.toInt32, c_res zs) : qW) = zw
    have hT1 : TB N P (p_u I 29 3 (nI (l.length + 1))) 29 30 169 6 (l.length + 1) := hT.rows (by omega)
    have hT2 : TB N P (c_put6 (p_u I 29 3 (nI (l.length + 1))) l.length zw) 29 30 169 6 (l.length + 1) := hT1.of (fun zi => by rw [c_put6_n (by decide)])
    refine ⟨p_u (p_u (c_put6 (p_u I 29 3 (nI (l.length + 1))) l.length zw) 31 l.length (nI l.length)) 21 13 (I 21 13 + c_res zs), ?_, ⟨?_, ?_, ?_⟩, ?_, ?_⟩
    · unfold f_X2_keep
      have hlt : l.length < l.length + 1 := Nat.lt_succ_self _
      have u0 := tb_put (v := k1) hT1 hlt (show 0 < 6 by decide)
      have T1 := hT1.cells (k := l.length * 6 + 0) (v := k1) (by decide)
      have u1 := tb_put (v := f1) T1 hlt (show 1 < 6 by decide)
      have T2 := T1.cells (k := l.length * 6 + 1) (v := f1) (by decide)
      have u2 := tb_put (v := g1) T2 hlt (show 2 < 6 by decide)
      have T3 := T2.cells (k := l.length * 6 + 2) (v := g1) (by decide)
      have u3 := tb_put (v := a1.toInt32) T3 hlt (show 3 < 6 by decide)
      have T4 := T3.cells (k := l.length * 6 + 3) (v := a1.toInt32) (by decide)
      have u4 := tb_put (v := c1.toInt32) T4 hlt (show 4 < 6 by decide)
      have T5 := T4.cells (k := l.length * 6 + 4) (v := c1.toInt32) (by decide)
      have u5 := tb_put (v := c_res zs) T5 hlt (show 5 < 6 by decide)
      rw [p8, Option.bind_some, tb_size hT, Option.bind_some, if_neg hne, p9, Option.bind_some, gn_31 hG]
      dsimp only
      rw [if_neg (nI_ge hlen (by omega)), Option.bind_some, tb_add hT hlen, Option.bind_some]
      dsimp only
      rw [if_neg (by decide), Option.bind_some, u0, Option.bind_some, Option.bind_some, u1, Option.bind_some, Option.bind_some, u2, Option.bind_some, Option.bind_some, u3, Option.bind_some, Option.bind_some, u4, Option.bind_some, Option.bind_some, u5, Option.bind_some, Option.bind_some, n_ck (n_ib (gn_31 hG) hlen (by decide)), n_let, n_let, nI_clamp (by omega)]
      subst hw
      have e21 : p_u (c_put6 (p_u I 29 3 (nI (l.length + 1))) l.length (k1, f1, g1, a1.toInt32, c1.toInt32, c_res zs)) 31 l.length (nI l.length) 21 13 = I 21 13 := by
        rw [p_u_ne (by decide), c_put6_n (by decide), p_u_ne (by decide)]
      rw [← e21]
      rfl
    · rw [List.length_append]
      refine hT2.of (fun zi => ?_)
      rw [p_u_x (by decide), p_u_x (by decide)]
    · intro zi zq hqq
      have n31 : ∀ zj, p_u (p_u (c_put6 (p_u I 29 3 (nI (l.length + 1))) l.length zw) 31 l.length (nI l.length)) 21 13 (I 21 13 + c_res zs) 30 zj = c_put6 (p_u I 29 3 (nI (l.length + 1))) l.length zw 30 zj := fun zj => by rw [p_u_x (by decide), p_u_x (by decide)]
      rw [n31, n31, n31, n31, n31, n31, p_u_x (by decide)]
      by_cases hlt : zi < l.length
      · rw [List.getElem?_append_left hlt] at hqq
        have h0 := hE zi zq hqq
        rw [c_put6_o (by omega), c_put6_o (by omega), c_put6_o (by omega), c_put6_o (by omega), c_put6_o (by omega), c_put6_o (by omega), p_u_nk (by omega), c_put6_n (by decide), p_u_ne (by decide), p_u_ne (by decide)]
        exact h0
      · rw [List.getElem?_append_right (by omega)] at hqq
        have hz0 : zi - l.length = 0 := by
          by_cases hz1 : zi - l.length = 0
          · exact hz1
          · rw [List.getElem?_eq_none (by show 1 ≤ _; omega)] at hqq
            cases hqq
        rw [hz0] at hqq
        have hzi : zi = l.length := by omega
        subst hzi
        cases hqq
        obtain ⟨s0, s1, s2, s3, s4, s5⟩ := c_put6_s (I := p_u I 29 3 (nI (l.length + 1))) (zm := l.length) (zw := zw)
        exact ⟨s0, s1, s2, s3, s4, s5, p_u_self⟩
    · rw [p_u_self, q_sum_app, hS, ← hw]
    · intro zx b1 b2 b3 b4
      rw [p_u_ne b1, p_u_ne b4, c_put6_n b3, p_u_ne b2]
    · intro zj b1
      rw [p_u_nk b1, p_u_ne (by decide), c_put6_n (by decide), p_u_ne (by decide)]
end Class4
