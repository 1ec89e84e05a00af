/-! town -/
section Town3
variable {B : Nat → Nat} {s i l : Nat} {A A0 : Nat → Int32}
theorem q_rows_b {w r : Nat} (h : r < q_tmo w) : q_tbas w + q_twi w * r + q_twi w ≤ 218 := by
  unfold q_tmo at h
  unfold q_tbas q_twi
  by_cases h1 : w = 1
  · rw [if_pos h1] at h ⊢; rw [if_pos h1]; omega
  · rw [if_neg h1] at h ⊢; rw [if_neg h1]
    by_cases h2 : w = 2
    · rw [if_pos h2] at h ⊢; rw [if_pos h2]; omega
    · rw [if_neg h2] at h ⊢; rw [if_neg h2]
      by_cases h3 : w = 3
      · rw [if_pos h3, if_pos h3]; omega
      · rw [if_neg h3, if_neg h3]; omega
theorem q_cm_hi (h : nv (A (q_tix (q_wo B s i))) < q_tmo (q_wo B s i)) {j : Nat} (hj : 218 ≤ j) : q_cm B s A i j = A j := by
  have h1 := q_rows_b h
  have h2 := q_tix_b (q_wo B s i)
  unfold q_cm
  rw [if_neg (by omega), if_neg (by omega)]
theorem q_stt_hi {j : Nat} (hj : 218 ≤ j) : (q_stt B s A0 l).2.2.2 j = A0 j := by
  induction l with
  | zero => rfl
  | succ l ih =>
    have e4 : (q_stt B s A0 (l + 1)).2.2.2 = if (q_stt B s A0 l).2.1 = nI 0 ∧ (q_lf B s (q_stt B s A0 l).2.2.2 (q_stt B s A0 l).1).1 = nI 0 then q_cm B s (q_stt B s A0 l).2.2.2 (q_stt B s A0 l).1 else (q_stt B s A0 l).2.2.2 := rfl
    rw [e4]
    split
    · rename_i hc
      rw [q_cm_hi (q_lf_0 hc.2).2.1 hj]; exact ih
    · exact ih
end Town3
theorem sp_town {n zk : Nat} (hk : zk < 512) (hn : 3000 < n) : Sp_town n (Ivv zk) (Ivv (zk + 1)) := by
  intro N I L P h
  have h : IV zk N P I := h
  have hG := h.gw
  obtain ⟨t1, t2, t3⟩ := h.sr.rt
  have t1 : rg (I 68 8) 500 := t1
  have t3 : ∀ zi, zi < nv (I 68 8) → I 3 zi = I 68 (660 + zi) ∧ rg (I 3 zi) 255 := t3
  have hs := t1.2
  have h8 := t1.1
  generalize hse : nv (I 68 8) = s at *
  have hb : ∀ j, j < s → I 3 j = nI (nv (I 3 j)) ∧ nv (I 3 j) ≤ 255 := fun j hj => (t3 j hj).2
  obtain ⟨l, F, Q, V, o1, o2, hG2, o3, o4, o5, o6⟩ := c_readTown (B := fun j => nv (I 3 j)) h h8 hs hb (show 600 < n by omega)
  have h2 : IV zk N (p_u P 56 0 (some 2)) I := h.setP (a := 56) hG2 (fun x j hx => by rw [p_u_ne hx]) (Or.inl rfl)
  generalize p_u P 56 0 (some 2) = P2 at *
  have hTV : TB N P2 V 2 3 500 1 s := by
    have h9 := h2.sr.rt.2.1
    have e : I 68 (8 + 0) = nI s := h8
    rw [e, nv_nI (by omega)] at h9
    exact h9.of (fun j => by show V 2 j = I 2 j; rw [o4])
  have hcut : f_X8_cut V 2 (nI 0) = some (p_u V 2 3 (nI 0)) := tb_cut hTV (Nat.zero_le s)
  have hT0 : TB N P2 (p_u V 2 3 (nI 0)) 2 3 500 1 0 := hTV.rows (Nat.zero_le _)
  generalize hA : (if F = nI 0 then (q_stt (fun j => nv (I 3 j)) s (I 68) l).2.2.2 else I 68) = A at *
  have hAhi : ∀ zj, 1160 ≤ zj → A zj = I 68 zj := fun zj hj => by
    rw [← hA]
    split
    · exact q_stt_hi (by omega)
    · rfl
  have hTn : ∀ zj, zj ≠ 8 → zj ≠ 9 → zj ≠ 10 → q_T3 F Q A zj = A zj := fun zj a b c => by
    unfold q_T3 q_T1
    rw [if_neg a, if_neg b, if_neg c]
  have hS : SR N P2 (q_r68 (p_u V 2 3 (nI 0)) (q_T3 F Q A)) 1 0 := by
    refine o6.w_tape ⟨?_, ?_, ?_⟩ (fun zq a b c d => by rw [q_r68_n (by omega), q_r68_n (by omega), p_u_ne c]) (fun zj a b c => by rw [q_r68_s, q_r68_s]; unfold q_T3; rw [if_neg b])
    · show rg (q_T3 F Q A 8) 500
      exact rg.of (Nat.zero_le _) (by decide)
    · show TB N P2 (q_r68 (p_u V 2 3 (nI 0)) (q_T3 F Q A)) 2 3 500 1 (nv (nI 0))
      exact hT0.of (fun j => by rw [q_r68_n (by decide)])
    · intro zi hi
      have hi : zi < nv (nI 0) := hi
      rw [nv_nI (by decide)] at hi
      omega
  obtain ⟨K, k1, k2, k3, k4⟩ := IV.fresh2 h2 hk (J := p_u V 2 3 (nI 0)) (T := q_T3 F Q A) (zn := n) (fun zq a b => by rw [p_u_ne (by omega), o3 zq a (by omega) (by omega) (by omega)]) hS (fun zj hj => by rw [hTn zj (by omega) (by omega) (by omega)]; exact hAhi zj hj) (by omega)
  have hrg : ∀ w, 1 ≤ w → w ≤ 4 → rg (K 68 (q_tix w)) 12 := fun w w1 w4 => by
    rw [k2]
    have g : w = 1 ∨ w = 2 ∨ w = 3 ∨ w = 4 := by omega
    have r0 : rg (I 68 0) 12 := h.sr.rw.1
    have r1 : rg (I 68 1) 6 := h.sr.rs.1
    have r2 : rg (I 68 2) 8 := h.sr.ri.1
    have r3 : rg (I 68 3) 8 := h.sr.rn.1
    rcases g with g | g | g | g <;> subst g
    · exact r0
    · exact ⟨r1.1, show nv (I 68 1) ≤ 12 by have := r1.2; omega⟩
    · exact ⟨r3.1, show nv (I 68 3) ≤ 12 by have := r3.2; omega⟩
    · exact ⟨r2.1, show nv (I 68 2) ≤ 12 by have := r2.2; omega⟩
  obtain ⟨l', F', Q', M, m1, m2, m3, m4, m5, m6⟩ := m_town (J := K) (B := fun j => nv (I 3 j)) (s := s) (zn := n) hG2 (by rw [k2]; exact h8) hs (fun j hj => ⟨by rw [k2, ← (t3 j hj).1]; exact (hb j hj).1, (hb j hj).2⟩) hrg hn
  rw [k2] at m1 m6
  obtain ⟨e1, e2, e3⟩ := q_out_u o1 m1
  subst e1 e2 e3
  rw [hA] at m6
  refine ⟨(if F = nI 0 then nI l else -1, K, P2), (if F = nI 0 then nI l else -1, M), ?_, m2, rfl, ?_⟩
  · unfold f_X11_town
    simp only [gp_0_6 hG, gp_0_0 hG, Option.bind_some, o2, gp_0_0 hG2, gp_1_0 hG2, hcut, k1]
  · show IV (zk + 1) N P2 M
    refine k4 M (fun zq a b => m3 zq (by omega) a (by omega) (by omega) (by omega)) m6 ?_
    by_cases hF : F = nI 0
    · intro as ax ay g1 g2 g3
      exact Or.inl (m5 hF _ (by omega))
    · have hAI : A = I 68 := by rw [← hA, if_neg hF]
      have hH : IV zk N P2 (fun x => if x = 68 then q_T3 F Q A else if x < 20 then p_u V 2 3 (nI 0) x else I x) := by
        refine h2.stay (hS.of (fun zq a b => ?_) (fun zj _ => ?_)) (fun zq a b => ?_) (fun zj hj => ?_)
        · rw [if_neg (by omega), if_pos (by omega), q_r68_n (by omega)]
        · rw [if_pos rfl, q_r68_s]
        · rw [if_neg (by omega), if_neg (by omega)]
        · rw [if_pos rfl]
          unfold q_tw at hj
          rw [hTn zj (by omega) (by omega) (by omega), hAI]
      have hm := hH.2.2.2.2.2.1
      have e77 : M 77 = I 77 := by rw [m4 hF, k3 77 (by decide), p_u_ne (by decide), o3 77 (by decide) (by decide) (by decide) (by decide)]
      intro as ax ay g1 g2 g3
      rw [e77, m6]
      exact hm as ax ay g1 g2 g3
