/-! the law: the class reads a line's end -/
section Law7
variable {N : pN} {P : pR} {K : pI} {B : Nat → Nat} {s e r zn : Nat}
theorem c_lawJ106 (hG : GW N P) (hX : q_TX N P K B s 62) (he : e ≤ s) (hct : q_ct K B s 62 e) (hT : TB N P K 65 66 16 18 r) {row c : Nat} (hrow : row < 1000) (hn : 600 < zn) : ∃ V, J_X4_readLine_106 zn N K P 61 (nI row) (nI c) = some V ∧ (∀ x, x ≠ 62 → x ≠ 66 → V x = K x) ∧ (∀ k, k ≠ row * 18 + 0 → k ≠ row * 18 + 1 → V 66 k = K 66 k) ∧ ((q_lv B s e = none ∧ q_ct V B s 62 (q_te B s (q_te B s e)) ∧ V 62 4 = K 62 4 ∧ V 62 5 = K 62 5 ∧ (row < r → V 66 (row * 18 + 0) = bI (decide (q_wo B s e = 20)) ∧ V 66 (row * 18 + 1) = nI c)) ∨ (∃ p, q_lv B s e = some p ∧ V 62 4 = nI 1 ∧ V 62 5 = nI (q_tp B s p))) := by
  have w20 : f_X9_isWord zn N K P 62 1000114 = some (bI (decide (q_wo B s e = 20))) := c_isWord (j := 14) hX he hct (by decide) hn
  have ht31 : (if bI (decide (q_wo B s e = 20)) = 0 then nI 0 else nI 1) = bI (decide (q_wo B s e = 20)) := by cases decide (q_wo B s e = 20) <;> rfl
  obtain ⟨K1, p1, p2, p3, p4⟩ := c_put65 hT hrow (j := 0) (by omega) (bI (decide (q_wo B s e = 20)))
  have hT1 : TB N P K1 65 66 16 18 r := hT.of (fun k => by rw [p2 65 (by decide)])
  obtain ⟨K2, d1, d2, d3, d4⟩ := c_put65 hT1 hrow (j := 1) (by omega) (nI c)
  have ex : ∀ x, x ≠ 66 → K2 x = K x := fun x x1 => by rw [d2 x x1, p2 x x1]
  have hX2 : q_TX N P K2 B s 62 := hX.to (ex 2 (by decide)) (ex 3 (by decide))
  have hct2 : q_ct K2 B s 62 e := hct.to (fun k _ => by rw [ex 62 (by decide)])
  have w21 : f_X9_isWord zn N K2 P 62 1000115 = some (bI (decide (q_wo B s e = 21))) := c_isWord (j := 15) hX2 he hct2 (by decide) hn
  have ht43 : (if bI (decide (q_wo B s e = 20)) = 0 then Option.bind (P 61 0) fun q45 => Option.bind (f_X9_isWord zn N K2 P q45 1000115) fun q48 => (if q48 = 0 then some (nI 0) else some (nI 1)) else some (nI 1)) = some (bI (decide (q_wo B s e = 20 ∨ q_wo B s e = 21))) := by
    by_cases h0 : q_wo B s e = 20
    · rw [decide_eq_true h0, bI_ift, decide_eq_true (show _ ∨ _ from Or.inl h0)]; rfl
    · rw [decide_eq_false h0, bI_iff, gp_61_0 hG, Option.bind_some, w21, Option.bind_some]
      by_cases h1 : q_wo B s e = 21
      · rw [decide_eq_true h1, bI_ift, decide_eq_true (show _ ∨ _ from Or.inr h1)]; rfl
      · rw [decide_eq_false h1, bI_iff, decide_eq_false (show ¬ (_ ∨ _) by omega)]; rfl
  have hhead : ∀ zy, f_X9_pass zn N K2 P 62 (bI (decide (q_wo B s e = 20 ∨ q_wo B s e = 21))) = zy → J_X4_readLine_106 zn N K P 61 (nI row) (nI c) = Option.bind zy fun q50 => (if q50.1 = 0 then some q50.2 else Option.bind (some 62) fun q52 => Option.bind (some 62) fun q55 => Option.bind (f_X9_sign N q50.2 P q55) fun q58 => p_let (α := Int32) ((if q58 = (nI 59) then nI 1 else nI 0)) fun t60 => Option.bind (f_X9_pass zn N q50.2 P q52 t60) fun q62 => some q62.2) := fun zy hzy => by
    unfold J_X4_readLine_106
    rw [gp_61_0 hG, Option.bind_some, w20, Option.bind_some, gp_61_1 hG, Option.bind_some, n_let, ht31, p1, Option.bind_some, Option.bind_some, d1, Option.bind_some, Option.bind_some, ← gp_61_0 hG, ht43, Option.bind_some, hzy]
  by_cases hg : q_wo B s e = 20 ∨ q_wo B s e = 21
  · rw [decide_eq_true hg] at hhead
    obtain ⟨K3, g1, g2, g3, g4⟩ := c_pass_t hX2 he hct2 hn
    have hh := hhead _ g1
    rw [Option.bind_some] at hh
    dsimp only at hh
    rw [bI_ift, Option.bind_some, Option.bind_some] at hh
    have hX3 : q_TX N P K3 B s 62 := hX2.to (g2 2 (by decide)) (g2 3 (by decide))
    have hte := (q_te_b (B := B) he).2.1
    obtain ⟨x, x1, x2⟩ := c_sign hX3 hte g4
    have x59 := x2 59 (by decide) (by decide)
    rw [x1, Option.bind_some, n_let] at hh
    by_cases hs : q_sn B s (q_te B s e) = 59
    · obtain ⟨K4, o1, o2, o3, o4⟩ := c_pass_t hX3 hte g4 hn
      rw [if_pos (x59.mpr hs), show nI 1 = bI true from rfl, o1, Option.bind_some] at hh
      refine ⟨K4, hh, fun y y1 y2 => by rw [o2 y y1, g2 y y1, ex y y2], fun k k1 k2 => by rw [o2 66 (by decide), g2 66 (by decide), d3 k k2, p3 k k1], Or.inl ⟨?_, o4, by rw [o3 4 (by decide) (by decide) (by decide), g3 4 (by decide) (by decide) (by decide), ex 62 (by decide)], by rw [o3 5 (by decide) (by decide) (by decide), g3 5 (by decide) (by decide) (by decide), ex 62 (by decide)], fun hr => ⟨by rw [o2 66 (by decide), g2 66 (by decide), d3 _ (by omega), p4 hr (by decide)], by rw [o2 66 (by decide), g2 66 (by decide), d4 hr (by decide)]⟩⟩⟩
      unfold q_lv
      rw [if_neg (fun h => h hg), if_neg (fun h => h hs)]
    · have hp := c_pass_f (N := N) (P := P) (zn := zn) g4
      rw [if_neg (fun h => hs (x59.mp h)), show nI 0 = bI false from rfl, hp, Option.bind_some] at hh
      refine ⟨_, hh, fun y y1 y2 => by dsimp only; rw [p_u_ne y1, p_u_ne y1, g2 y y1, ex y y2], fun k k1 k2 => by dsimp only; rw [p_u_ne (by decide), p_u_ne (by decide), g2 66 (by decide), d3 k k2, p3 k k1], Or.inr ⟨_, ?_, by dsimp only; rw [p_u_nk (by decide), p_u_self], by dsimp only; rw [p_u_self]⟩⟩
      unfold q_lv
      rw [if_neg (fun h => h hg), if_pos hs]
  · rw [decide_eq_false hg] at hhead
    have hp := c_pass_f (N := N) (P := P) (zn := zn) hct2
    have hh := hhead _ hp
    rw [Option.bind_some] at hh
    dsimp only at hh
    rw [bI_iff] at hh
    refine ⟨_, hh, fun y y1 y2 => by rw [p_u_ne y1, p_u_ne y1, ex y y2], fun k k1 k2 => by rw [p_u_ne (by decide), p_u_ne (by decide), d3 k k2, p3 k k1], Or.inr ⟨_, ?_, by rw [p_u_nk (by decide), p_u_self], p_u_self⟩⟩
    unfold q_lv
    rw [if_pos hg]
theorem c_lawJ78 (hG : GW N P) (hX : q_TX N P K B s 62) (he : e ≤ s) (hct : q_ct K B s 62 e) (hT : TB N P K 65 66 16 18 r) {row c : Nat} (hrow : row < 1000) (hn : 600 < zn) : ∃ V, J_X4_readLine_78 zn N K P 61 (nI row) (nI c) = some V ∧ (∀ x, x ≠ 62 → x ≠ 66 → V x = K x) ∧ (∀ k, k ≠ row * 18 + 0 → k ≠ row * 18 + 1 → V 66 k = K 66 k) ∧ ((q_lu B s e = none ∧ q_ct V B s 62 (q_te B s (q_te B s (q_te B s e))) ∧ V 62 4 = K 62 4 ∧ V 62 5 = K 62 5 ∧ (row < r → V 66 (row * 18 + 0) = bI (decide (q_wo B s (q_te B s e) = 20)) ∧ V 66 (row * 18 + 1) = nI c)) ∨ (∃ p, q_lu B s e = some p ∧ V 62 4 = nI 1 ∧ V 62 5 = nI (q_tp B s p))) := by
  obtain ⟨x, x1, x2⟩ := c_sign hX he hct
  have x58 := x2 58 (by decide) (by decide)
  unfold J_X4_readLine_78 q_lu
  rw [gp_61_0 hG, Option.bind_some, Option.bind_some, x1, Option.bind_some, n_let]
  by_cases hs : q_sn B s e = 58
  · obtain ⟨K1, o1, o2, o3, o4⟩ := c_pass_t hX he hct hn
    have hX1 : q_TX N P K1 B s 62 := hX.to (o2 2 (by decide)) (o2 3 (by decide))
    have hT1 : TB N P K1 65 66 16 18 r := hT.of (fun k => by rw [o2 65 (by decide)])
    obtain ⟨V, v1, v2, v3, v4⟩ := c_lawJ106 hG hX1 (q_te_b (B := B) he).2.1 o4 hT1 hrow (c := c) hn
    rw [if_pos (x58.mpr hs), show nI 1 = bI true from rfl, o1, Option.bind_some]
    dsimp only
    rw [bI_ift, v1, if_neg (fun h => h hs)]
    refine ⟨V, rfl, fun y y1 y2 => by rw [v2 y y1 y2, o2 y y1], fun k k1 k2 => by rw [v3 k k1 k2, o2 66 (by decide)], ?_⟩
    rw [← o3 4 (by decide) (by decide) (by decide), ← o3 5 (by decide) (by decide) (by decide)]
    exact v4
  · have hp := c_pass_f (N := N) (P := P) (zn := zn) hct
    rw [if_neg (fun h => hs (x58.mp h)), show nI 0 = bI false from rfl, hp, Option.bind_some]
    dsimp only
    rw [bI_iff, if_pos hs]
    exact ⟨_, rfl, fun y y1 y2 => by rw [p_u_ne y1, p_u_ne y1], fun k k1 k2 => by rw [p_u_ne (by decide), p_u_ne (by decide)], Or.inr ⟨_, rfl, by rw [p_u_nk (by decide), p_u_self], p_u_self⟩⟩
end Law7
