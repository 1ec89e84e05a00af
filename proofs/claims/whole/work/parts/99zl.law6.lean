/-! the law: the class reads a test -/
def q_tcC (f : Nat → Int32) (B : Nat → Nat) (s i : Nat) : Prop := f 0 = bI (q_nt B s i) ∧ f 1 = nI (q_wo B s (q_ab B s i) - 10) ∧ (q_wo B s (q_ab B s i) ≠ 10 → f 2 = nI (q_sn B s (q_te B s (q_ab B s i))) ∧ f 3 = nI (q_vl B s (q_te B s (q_te B s (q_ab B s i)))))
section Law6
variable {N : pN} {P : pR} {K : pI} {B : Nat → Nat} {s i r zn : Nat}
theorem c_note5 {p : Nat} : ∃ V, f_X9_note K 62 (nI 5) (nI p) = some V ∧ (∀ x, x ≠ 62 → V x = K x) ∧ (∀ k, k ≠ 4 → k ≠ 5 → V 62 k = K 62 k) ∧ (V 62 4, V 62 5) = q_f5 (K 62 4, K 62 5) p := by
  unfold f_X9_note q_f5
  rw [if_neg (show ¬ nI 5 = nI 1 by decide)]
  by_cases h : K 62 4 = nI 0
  · rw [if_pos (show K 62 4 = 0 from h), n_let, n_let, if_pos h]
    exact ⟨_, rfl, fun x hx => by rw [p_u_ne hx, p_u_ne hx], fun k k1 k2 => by rw [p_u_nk k2, p_u_nk k1], by rw [p_u_self, p_u_nk (by decide), p_u_self]⟩
  · rw [if_neg (show ¬ K 62 4 = 0 from h), if_neg h]
    exact ⟨_, rfl, fun x hx => rfl, fun k k1 k2 => rfl, rfl⟩
theorem c_readTest (hG : GW N P) (hX : q_TX N P K B s 62) (hi : i ≤ s) (hct : q_ct K B s 62 i) (hT : TB N P K 65 66 16 18 r) {row t : Nat} (hrow : row < 1000) (ht : t < 1000) (hn : 600 < zn) : ∃ b V, f_X4_readTest zn N K P 61 (nI row) (nI t) = some (b, V) ∧ (∀ x, x ≠ 62 → x ≠ 66 → V x = K x) ∧ (∀ k, k < row * 18 + (2 + 4 * t) → V 66 k = K 66 k) ∧ ((b = nI 1 ∧ q_tbad B s i = none ∧ q_ct V B s 62 (q_tnx B s i) ∧ (V 62 4, V 62 5) = (if t < 4 then (K 62 4, K 62 5) else q_f5 (K 62 4, K 62 5) (q_tp B s i)) ∧ (row < r → t < 4 → q_tcC (fun k => V 66 (row * 18 + (2 + 4 * t + k))) B s i)) ∨ (b = nI 0 ∧ ∃ p, q_tbad B s i = some p ∧ V 62 4 = nI 1 ∧ V 62 5 = nI (q_tp B s p))) := by
  have hfrom : f_X9_from K 62 = some (nI (q_tp B s i)) := by
    unfold f_X9_from
    rw [hct.2.1]
  obtain ⟨K1, a1, a2, a3, a4⟩ : ∃ K1, (if nI t < nI 4 then some K else Option.bind (P 61 0) fun q3 => Option.bind (P 61 0) fun q6 => Option.bind (f_X9_from K q6) fun q9 => Option.bind (f_X9_note K q3 (nI 5) q9) fun q11 => some q11) = some K1 ∧ (∀ x, x ≠ 62 → K1 x = K x) ∧ (∀ k, k ≠ 4 → k ≠ 5 → K1 62 k = K 62 k) ∧ (K1 62 4, K1 62 5) = (if t < 4 then (K 62 4, K 62 5) else q_f5 (K 62 4, K 62 5) (q_tp B s i)) := by
    by_cases c : t < 4
    · rw [if_pos (nI_lt c (by omega)), if_pos c]
      exact ⟨K, rfl, fun _ _ => rfl, fun _ _ _ => rfl, rfl⟩
    · obtain ⟨V, v1, v2, v3, v4⟩ := c_note5 (K := K) (p := q_tp B s i)
      rw [if_neg (nI_nlt (by omega) (by omega)), if_neg c]
      refine ⟨V, ?_, v2, v3, v4⟩
      simp only [gp_61_0 hG, Option.bind_some, hfrom, v1]
  have hX1 : q_TX N P K1 B s 62 := hX.to (a2 2 (by decide)) (a2 3 (by decide))
  have hct1 : q_ct K1 B s 62 i := hct.to (fun k hk => a3 k (by omega) (by omega))
  have w32 : f_X9_isWord zn N K1 P 62 1000105 = some (bI (q_nt B s i)) := c_isWord (j := 5) hX1 hi hct1 (by decide) hn
  obtain ⟨K2, b1, b2, b3, b4⟩ : ∃ K2, (if bI (q_nt B s i) = 0 then some K1 else Option.bind (P 61 0) fun q20 => Option.bind (f_X9_advance zn N K1 P q20) fun q23 => some q23) = some K2 ∧ (∀ x, x ≠ 62 → K2 x = K1 x) ∧ (∀ k, k ≠ 1 → k ≠ 2 → k ≠ 3 → K2 62 k = K1 62 k) ∧ q_ct K2 B s 62 (q_ab B s i) := by
    unfold q_ab
    cases hq : q_nt B s i with
    | false =>
      rw [bI_iff, if_neg (by decide)]
      exact ⟨K1, rfl, fun _ _ => rfl, fun _ _ _ _ => rfl, hct1⟩
    | true =>
      obtain ⟨V, v1, v2, v3, v4⟩ := c_adv hX1 (q_te_b (B := B) hi).2.1 hct1.2.2 hn
      rw [bI_ift, if_pos rfl, gp_61_0 hG]
      refine ⟨V, ?_, v2, v3, v4⟩
      simp only [Option.bind_some, v1]
  have hab := (q_ab_b (B := B) hi).2
  have hX2 : q_TX N P K2 B s 62 := hX1.to (b2 2 (by decide)) (b2 3 (by decide))
  have hsome := c_aboutHere hG hX2 hab b4 hn
  have ht32 : (if bI (q_nt B s i) = 0 then nI 0 else nI 1) = bI (q_nt B s i) := by cases q_nt B s i <;> rfl
  have hT2 : TB N P K2 65 66 16 18 r := hT.of (fun k => by rw [b2 65 (by decide), a2 65 (by decide)])
  obtain ⟨K3, p1, p2, p3, p4⟩ := c_put65 hT2 hrow (j := 2 + 4 * t + 0) (by omega) (bI (q_nt B s i))
  have hT3 : TB N P K3 65 66 16 18 r := hT2.of (fun k => by rw [p2 65 (by decide)])
  generalize hy : (if 10 ≤ q_wo B s (q_ab B s i) ∧ q_wo B s (q_ab B s i) ≤ 16 then nI (q_wo B s (q_ab B s i) - 10) else -1) = y at hsome
  obtain ⟨K4, d1, d2, d3, d4⟩ := c_put65 hT3 hrow (j := 2 + 4 * t + 1) (by omega) y
  have hT4 : TB N P K4 65 66 16 18 r := hT3.of (fun k => by rw [d2 65 (by decide)])
  have hX4 : q_TX N P K4 B s 62 := hX2.to (by rw [d2 2 (by decide), p2 2 (by decide)]) (by rw [d2 3 (by decide), p2 3 (by decide)])
  have hct4 : q_ct K4 B s 62 (q_ab B s i) := b4.to (fun k _ => by rw [d2 62 (by decide), p2 62 (by decide)])
  have e66 : ∀ k, K2 66 k = K 66 k := fun k => by rw [b2 66 (by decide), a2 66 (by decide)]
  have ex : ∀ x, x ≠ 62 → x ≠ 66 → K4 x = K x := fun x x1 x2 => by rw [d2 x x2, p2 x x2, b2 x x1, a2 x x1]
  have e4 : ∀ k, k = 4 ∨ k = 5 → K4 62 k = K1 62 k := fun k hk => by rw [d2 62 (by decide), p2 62 (by decide), b3 k (by omega) (by omega) (by omega)]
  have hhead : ∀ zy, f_X9_pass zn N K4 P 62 (if y = -1 then nI 0 else nI 1) = zy → f_X4_readTest zn N K P 61 (nI row) (nI t) = Option.bind zy fun q46 => (if q46.1 = 0 then some (nI 0, q46.2) else (if y = 0 then some (nI 1, q46.2) else Option.bind (f_X4_readNumber zn N q46.2 P 61 (nI row) (nI (2 + 4 * t))) fun q48 => (if q48.1 = 0 then some (nI 0, q48.2) else some (nI 1, q48.2)))) := fun zy hzy => by
    unfold f_X4_readTest f_X4_columnOf
    rw [a1, Option.bind_some, gp_61_0 hG, Option.bind_some, w32, Option.bind_some]
    rw [← gp_61_0 hG, b1, Option.bind_some, hsome, Option.bind_some, Option.bind_some, gp_61_1 hG, Option.bind_some, n_let, ht32, pk_mul, nI_add, nI_add, p1, Option.bind_some, Option.bind_some, nI_add, d1, Option.bind_some, gp_61_0 hG, Option.bind_some, n_let, hzy]
  by_cases hg : 10 ≤ q_wo B s (q_ab B s i) ∧ q_wo B s (q_ab B s i) ≤ 16
  · rw [if_pos hg] at hy
    have hy1 : ¬ y = -1 := by rw [← hy]; exact n_neg1 (by omega)
    obtain ⟨K5, g1, g2, g3, g4⟩ := c_pass_t hX4 hab hct4 hn
    have hh := hhead (some (bI true, K5)) (by rw [if_neg hy1]; exact g1)
    rw [Option.bind_some] at hh
    dsimp only at hh
    rw [bI_ift] at hh
    have hX5 : q_TX N P K5 B s 62 := hX4.to (g2 2 (by decide)) (g2 3 (by decide))
    have hT5 : TB N P K5 65 66 16 18 r := hT4.of (fun k => by rw [g2 65 (by decide)])
    by_cases h10 : q_wo B s (q_ab B s i) = 10
    · have hy0 : y = 0 := by rw [← hy, h10]; rfl
      rw [if_pos hy0] at hh
      refine ⟨nI 1, K5, hh, fun x x1 x2 => by rw [g2 x x1, ex x x1 x2], fun k hk => by rw [g2 66 (by decide), d3 k (by omega), p3 k (by omega), e66], Or.inl ⟨rfl, ?_, ?_, ?_, fun r1 r2 => ⟨?_, ?_, fun h => absurd h10 h⟩⟩⟩
      · unfold q_tbad
        rw [if_neg (fun h => h hg), if_pos h10]
      · unfold q_tnx
        rw [if_pos h10]; exact g4
      · rw [g3 4 (by decide) (by decide) (by decide), g3 5 (by decide) (by decide) (by decide), e4 4 (by omega), e4 5 (by omega)]; exact a4
      · dsimp only
        rw [g2 66 (by decide), d3 _ (by omega), p4 r1 (by omega)]
      · dsimp only
        rw [g2 66 (by decide), d4 r1 (by omega), ← hy]
    · have hy0 : ¬ y = 0 := by rw [← hy]; exact nI_ne0 (by omega) (by omega)
      rw [if_neg hy0] at hh
      have hte := (q_te_b (B := B) hab).2.1
      obtain ⟨b, V, v1, v2, v3, v4⟩ := c_readNumber hG hX5 hte g4 hT5 hrow (col := 2 + 4 * t) (by omega) hn
      rw [v1, Option.bind_some] at hh
      dsimp only at hh
      rcases v4 with ⟨u1, u2, u3, u4, u5, u6, u7⟩ | ⟨u1, u2, u3⟩
      · rw [u1, if_neg (show ¬ nI 1 = 0 by decide)] at hh
        refine ⟨nI 1, V, hh, fun x x1 x2 => by rw [v2 x x1 x2, g2 x x1, ex x x1 x2], fun k hk => by rw [v3 k (by omega) (by omega), g2 66 (by decide), d3 k (by omega), p3 k (by omega), e66], Or.inl ⟨rfl, ?_, ?_, ?_, fun r1 r2 => ⟨?_, ?_, fun h => ?_⟩⟩⟩
        · unfold q_tbad
          rw [if_neg (fun h => h hg), if_neg h10, if_neg (by rw [u2]; decide), if_neg (by rw [u3]; decide)]
        · unfold q_tnx
          rw [if_neg h10]; exact u4
        · rw [u5, u6, g3 4 (by decide) (by decide) (by decide), g3 5 (by decide) (by decide) (by decide), e4 4 (by omega), e4 5 (by omega)]; exact a4
        · dsimp only
          rw [v3 _ (by omega) (by omega), g2 66 (by decide), d3 _ (by omega), p4 r1 (by omega)]
        · dsimp only
          rw [v3 _ (by omega) (by omega), g2 66 (by decide), d4 r1 (by omega), ← hy]
        · exact u7 r1 (by omega)
      · rw [u1, if_pos (show nI 0 = 0 from rfl)] at hh
        refine ⟨nI 0, V, hh, fun x x1 x2 => by rw [v2 x x1 x2, g2 x x1, ex x x1 x2], fun k hk => by rw [v3 k (by omega) (by omega), g2 66 (by decide), d3 k (by omega), p3 k (by omega), e66], Or.inr ⟨rfl, ?_⟩⟩
        rcases u3 with ⟨o1, o2⟩ | ⟨o1, o2, o3⟩
        · refine ⟨_, ?_, u2, o2⟩
          unfold q_tbad
          rw [if_neg (fun h => h hg), if_neg h10, if_pos o1]
        · refine ⟨_, ?_, u2, o3⟩
          unfold q_tbad
          rw [if_neg (fun h => h hg), if_neg h10, if_neg (by rw [o1]; decide), if_pos o2]
  · rw [if_neg hg] at hy
    have hp := c_pass_f (N := N) (P := P) (zn := zn) hct4
    have hh := hhead (some (bI false, p_u (p_u K4 62 4 (nI 1)) 62 5 (nI (q_tp B s (q_ab B s i))))) (by rw [if_pos hy.symm]; exact hp)
    rw [Option.bind_some] at hh
    dsimp only at hh
    rw [bI_iff] at hh
    refine ⟨nI 0, _, hh, fun x x1 x2 => by rw [p_u_ne x1, p_u_ne x1, ex x x1 x2], fun k hk => by rw [p_u_ne (by decide), p_u_ne (by decide), d3 k (by omega), p3 k (by omega), e66], Or.inr ⟨rfl, _, ?_, by rw [p_u_nk (by decide), p_u_self], p_u_self⟩⟩
    unfold q_tbad
    rw [if_pos hg]
end Law6
