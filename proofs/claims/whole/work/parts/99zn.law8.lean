/-! the law: the class reads a line -/
def q_rC (f : Nat → Int32) (B : Nat → Nat) (s i : Nat) : Prop := f 0 = bI (decide (q_wo B s (q_le B s i) = 20)) ∧ f 1 = nI (q_lk B s i) ∧ ∀ t, t < q_lk B s i → q_tcC (fun k => f (2 + 4 * t + k)) B s (q_tq B s i t)
/-- how a line ends, for the class -/
def q_lcl (K V : pI) (B : Nat → Nat) (s i row r : Nat) (W : Int32 × Int32) : Prop := (∀ x, x ≠ 62 → x ≠ 66 → V x = K x) ∧ (∀ k, k < row * 18 → V 66 k = K 66 k) ∧ ((q_lb B s i = none ∧ q_ct V B s 62 (q_lnx B s i) ∧ (V 62 4, V 62 5) = q_fts B s i W (q_lk B s i) ∧ (row < r → q_lk B s i ≤ 4 → q_rC (fun k => V 66 (row * 18 + k)) B s i)) ∨ (∃ p, q_lb B s i = some p ∧ V 62 4 = nI 1 ∧ V 62 5 = nI (q_tp B s p)))
section Law8
variable {N : pN} {P : pR} {K : pI} {B : Nat → Nat} {s i r zn : Nat}
theorem c_lawTests (hG : GW N P) (hX : q_TX N P K B s 62) (hi : i ≤ s) (hct : q_ct K B s 62 i) (hT : TB N P K 65 66 16 18 r) {row : Nat} (hrow : row < 1000) (hw : q_wo B s i = 30) (hn : 600 < zn) : ∃ V, p_it (B_X4_readLine_39 zn N P 61 (nI row)) zn (nI 0, K) = some V ∧ q_lcl K V B s i row r (K 62 4, K 62 5) := by
  have hs := hX.2.2.1
  refine p_loopI (B := B_X4_readLine_39 zn N P 61 (nI row)) (zJ := fun c (zc : Int32 × pI) => zc.1 = nI c ∧ (∀ t, t < c → q_tgo B s i t = true) ∧ (∀ x, x ≠ 62 → x ≠ 66 → zc.2 x = K x) ∧ zc.2 62 3 = nI (q_tq B s i c) ∧ (zc.2 62 4, zc.2 62 5) = q_fts B s i (K 62 4, K 62 5) c ∧ (∀ k, k < row * 18 + 2 → zc.2 66 k = K 66 k) ∧ (row < r → ∀ t, t < c → t < 4 → q_tcC (fun k => zc.2 66 (row * 18 + (2 + 4 * t + k))) B s (q_tq B s i t))) (zE := fun V => q_lcl K V B s i row r (K 62 4, K 62 5)) (zm := 251) (zn := zn) (by omega) ?_ ?_ (nI 0, K) ⟨rfl, fun t ht => absurd ht (by omega), fun _ _ _ => rfl, hct.2.2, rfl, fun _ _ => rfl, fun _ t ht => absurd ht (by omega)⟩
  · rintro c hc ⟨zi, J⟩ ⟨m1, m2, m3, m4, m5, m6, m7⟩
    dsimp only at m1 m2 m3 m4 m5 m6 m7
    subst m1
    have hq := (q_tq_b (B := B) hi c).2
    have hXJ : q_TX N P J B s 62 := hX.to (m3 2 (by decide) (by decide)) (m3 3 (by decide) (by decide))
    obtain ⟨J1, a1, a2, a3, a4⟩ := c_adv hXJ hq m4 hn
    have hX1 : q_TX N P J1 B s 62 := hXJ.to (a2 2 (by decide)) (a2 3 (by decide))
    have hT1 : TB N P J1 65 66 16 18 r := hT.of (fun k => by rw [a2 65 (by decide), m3 65 (by decide) (by decide)])
    obtain ⟨b, V, v1, v2, v3, v4⟩ := c_readTest hG hX1 hq a4 hT1 hrow (t := c) (by omega) hn
    have e0 : ∀ x, x ≠ 62 → x ≠ 66 → V x = K x := fun x x1 x2 => by rw [v2 x x1 x2, a2 x x1, m3 x x1 x2]
    have a500 : ¬ nI 500 ≤ nI (c + 1) := nI_ge (by omega) (by omega)
    rcases v4 with ⟨u1, u2, u3, u4, u5⟩ | ⟨u1, p, u2, u3, u4⟩
    · have hft : (V 62 4, V 62 5) = q_fts B s i (K 62 4, K 62 5) (c + 1) := by
        rw [u4, a3 4 (by decide) (by decide) (by decide), a3 5 (by decide) (by decide) (by decide), m5]; rfl
      have e2 : ∀ k, k < row * 18 + 2 → V 66 k = K 66 k := fun k hk => by rw [v3 k (by omega), a2 66 (by decide), m6 k hk]
      have e3 : row < r → ∀ t, t < c + 1 → t < 4 → q_tcC (fun k => V 66 (row * 18 + (2 + 4 * t + k))) B s (q_tq B s i t) := fun hr t ht h4 => by
        by_cases e : t = c
        · subst e; exact u5 hr h4
        · have hm := m7 hr t (by omega) h4
          have hk : ∀ k, k < 4 → V 66 (row * 18 + (2 + 4 * t + k)) = J 66 (row * 18 + (2 + 4 * t + k)) := fun k hk => by rw [v3 _ (by omega), a2 66 (by decide)]
          refine ⟨(hk 0 (by decide)).trans hm.1, (hk 1 (by decide)).trans hm.2.1, fun h => ⟨(hk 2 (by decide)).trans (hm.2.2 h).1, (hk 3 (by decide)).trans (hm.2.2 h).2⟩⟩
      have hnx := (q_tnx_b (B := B) hq).2
      have hXV : q_TX N P V B s 62 := hX.to (e0 2 (by decide) (by decide)) (e0 3 (by decide) (by decide))
      have w31 : f_X9_isWord zn N V P 62 1000113 = some (bI (decide (q_wo B s (q_tnx B s (q_tq B s i c)) = 31))) := c_isWord (j := 13) hXV hnx u3 (by decide) hn
      by_cases h31 : q_wo B s (q_tnx B s (q_tq B s i c)) = 31
      · left
        refine ⟨(nI (c + 1), V), ⟨rfl, fun t ht => ?_, e0, u3.2.2, hft, e2, e3⟩, fun zrec => ?_⟩
        · by_cases e : t = c
          · subst e
            unfold q_tgo
            rw [decide_eq_true u2, decide_eq_true h31]; rfl
          · exact m2 t (by omega)
        · unfold B_X4_readLine_39
          simp only [gp_61_0 hG, Option.bind_some, a1, v1, u1, if_neg (show ¬ nI 1 = 0 by decide), nI_add, if_neg a500, w31, decide_eq_true h31, bI_ift]
      · right
        have hc' : q_tgo B s i c = false := by
          unfold q_tgo
          rw [decide_eq_false h31, Bool.and_false]
        have hlc := q_lc_u hi hs m2 hc'
        have hlk : q_lk B s i = c + 1 := by unfold q_lk; rw [if_pos hw, hlc]
        have hTV : TB N P V 65 66 16 18 r := hT.of (fun k => by rw [e0 65 (by decide) (by decide)])
        obtain ⟨Z, z1, z2, z3, z4⟩ := c_lawJ78 hG hXV hnx u3 hTV hrow (c := c + 1) hn
        refine ⟨Z, ⟨fun x x1 x2 => by rw [z2 x x1 x2, e0 x x1 x2], fun k hk => by rw [z3 k (by omega) (by omega), e2 k (by omega)], ?_⟩, fun zrec => ?_⟩
        · have hlb : q_lb B s i = q_lu B s (q_tnx B s (q_tq B s i c)) := by
            unfold q_lb q_lp
            rw [if_pos hw, hlc, u2]
          rw [hlb]
          rcases z4 with ⟨y1, y2, y3, y4, y5⟩ | y1
          · left
            have hle : q_le B s i = q_te B s (q_tnx B s (q_tq B s i c)) := by
              unfold q_le q_lp
              rw [if_pos hw, hlc]
            refine ⟨y1, ?_, ?_, fun hr h4 => ?_⟩
            · unfold q_lnx
              rw [hle]; exact y2
            · rw [y3, y4, hlk]; exact hft
            · unfold q_rC
              rw [hle, hlk] at *
              refine ⟨(y5 hr).1, (y5 hr).2, fun t ht => ?_⟩
              have hm := e3 hr t ht (by omega)
              have hk : ∀ k, Z 66 (row * 18 + (2 + 4 * t + k)) = V 66 (row * 18 + (2 + 4 * t + k)) := fun k => z3 _ (by omega) (by omega)
              exact ⟨(hk 0).trans hm.1, (hk 1).trans hm.2.1, fun h => ⟨(hk 2).trans (hm.2.2 h).1, (hk 3).trans (hm.2.2 h).2⟩⟩
          · exact Or.inr y1
        · unfold B_X4_readLine_39
          simp only [gp_61_0 hG, Option.bind_some, a1, v1, u1, if_neg (show ¬ nI 1 = 0 by decide), nI_add, if_neg a500, w31, decide_eq_false h31, bI_iff, z1]
    · right
      have hc' : q_tgo B s i c = false := by
        unfold q_tgo
        rw [u2]; rfl
      have hlc := q_lc_u hi hs m2 hc'
      refine ⟨V, ⟨e0, fun k hk => by rw [v3 k (by omega), a2 66 (by decide), m6 k (by omega)], Or.inr ⟨p, ?_, u3, u4⟩⟩, fun zrec => ?_⟩
      · unfold q_lb
        rw [if_pos hw, hlc, u2]
      · unfold B_X4_readLine_39
        simp only [gp_61_0 hG, Option.bind_some, a1, v1, u1, if_pos (show nI 0 = 0 from rfl)]
  · rintro ⟨zi, J⟩ ⟨m1, m2, m3⟩
    have h1 := q_tgo_c hi m2
    have h2 := (q_tq_b (B := B) hi 251).2
    omega
theorem c_lawLine (hG : GW N P) (hX : q_TX N P K B s 62) (hi : i ≤ s) (hct : q_ct K B s 62 i) {l : Nat} (hT : TB N P K 65 66 16 18 (min l 16)) (hl : l < 1000) (hn : 600 < zn) : ∃ V, f_X4_readLine zn N K P 61 (nI l) = some V ∧ (∀ x, x ≠ 62 → x ≠ 65 → x ≠ 66 → V x = K x) ∧ TB N P V 65 66 16 18 (min (l + 1) 16) ∧ (∀ k, k < l * 18 → V 66 k = K 66 k) ∧ ((q_lb B s i = none ∧ q_ct V B s 62 (q_lnx B s i) ∧ (V 62 4, V 62 5) = q_fts B s i (q_fl B s i l (K 62 4, K 62 5)) (q_lk B s i) ∧ (l < 16 → q_lk B s i ≤ 4 → q_rC (fun k => V 66 (l * 18 + k)) B s i)) ∨ (∃ p, q_lb B s i = some p ∧ V 62 4 = nI 1 ∧ V 62 5 = nI (q_tp B s p))) := by
  obtain ⟨K1, hhead, a2, a3, a4, a5⟩ : ∃ K1, (∀ zf : pI → Option pI, (Option.bind (f_X8_add K 65) fun q4 => Option.bind (α := pI) ((if q4.1 = 0 then Option.bind (P 61 0) fun q8 => Option.bind (P 61 0) fun q11 => Option.bind (f_X9_from q4.2 q11) fun q14 => Option.bind (f_X9_note q4.2 q8 (nI 5) q14) fun q16 => some q16 else some q4.2)) zf) = zf K1) ∧ (∀ x, x ≠ 62 → x ≠ 65 → K1 x = K x) ∧ (∀ k, k ≠ 4 → k ≠ 5 → K1 62 k = K 62 k) ∧ TB N P K1 65 66 16 18 (min (l + 1) 16) ∧ (K1 62 4, K1 62 5) = q_fl B s i l (K 62 4, K 62 5) := by
    obtain ⟨t1, t2, t3, t4, t5, t6, t7⟩ := hT
    unfold f_X8_add q_fl
    rw [t5, t3]
    by_cases c : l < 16
    · rw [Nat.min_eq_left (by omega)] at t5 ⊢
      rw [if_pos (nI_lt c (by omega)), n_let, if_pos c, Nat.min_eq_left (by omega), nI_add]
      refine ⟨p_u K 65 3 (nI (l + 1)), fun zf => ?_, fun x x1 x2 => p_u_ne x2, fun k k1 k2 => by rw [p_u_ne (by decide)], ⟨t1, t2, by rw [p_u_nk (by decide)]; exact t3, by rw [p_u_nk (by decide)]; exact t4, p_u_self, by omega, t7⟩, by rw [p_u_ne (by decide)]⟩
      rw [Option.bind_some]
      dsimp only
      rw [if_neg (show ¬ nI 1 = 0 by decide), Option.bind_some]
    · rw [Nat.min_eq_right (by omega)] at t5 ⊢
      rw [if_neg (nI_nlt (by omega) (by omega)), if_neg c, Nat.min_eq_right (by omega)]
      obtain ⟨V, v1, v2, v3, v4⟩ := c_note5 (K := K) (p := q_tp B s i)
      refine ⟨V, fun zf => ?_, fun x x1 x2 => v2 x x1, v3, ⟨t1, t2, by rw [v2 65 (by decide)]; exact t3, by rw [v2 65 (by decide)]; exact t4, by rw [v2 65 (by decide)]; exact t5, by omega, t7⟩, v4⟩
      have hfrom : f_X9_from K 62 = some (nI (q_tp B s i)) := by
        unfold f_X9_from
        rw [hct.2.1]
      simp only [Option.bind_some, if_pos (show nI 0 = 0 from rfl), gp_61_0 hG, hfrom, v1]
  have hX1 : q_TX N P K1 B s 62 := hX.to (a2 2 (by decide) (by decide)) (a2 3 (by decide) (by decide))
  have hct1 : q_ct K1 B s 62 i := hct.to (fun k hk => a3 k (by omega) (by omega))
  have w30 : f_X9_isWord zn N K1 P 62 1000104 = some (bI (decide (q_wo B s i = 30))) := c_isWord (j := 4) hX1 hi hct1 (by decide) hn
  have hread : f_X4_readLine zn N K P 61 (nI l) = if bI (decide (q_wo B s i = 30)) = 0 then J_X4_readLine_106 zn N K1 P 61 (nI l) (nI 0) else p_it (B_X4_readLine_39 zn N P 61 (nI l)) zn (nI 0, K1) := by
    unfold f_X4_readLine
    rw [gp_61_1 hG, Option.bind_some, hhead, gp_61_0 hG, Option.bind_some, w30, Option.bind_some]
  have hfin : ∀ V, q_lcl K1 V B s i l (min (l + 1) 16) (K1 62 4, K1 62 5) → (∀ x, x ≠ 62 → x ≠ 65 → x ≠ 66 → V x = K x) ∧ TB N P V 65 66 16 18 (min (l + 1) 16) ∧ (∀ k, k < l * 18 → V 66 k = K 66 k) ∧ ((q_lb B s i = none ∧ q_ct V B s 62 (q_lnx B s i) ∧ (V 62 4, V 62 5) = q_fts B s i (q_fl B s i l (K 62 4, K 62 5)) (q_lk B s i) ∧ (l < 16 → q_lk B s i ≤ 4 → q_rC (fun k => V 66 (l * 18 + k)) B s i)) ∨ (∃ p, q_lb B s i = some p ∧ V 62 4 = nI 1 ∧ V 62 5 = nI (q_tp B s p))) := fun V hV => by
    obtain ⟨v1, v2, v3⟩ := hV
    refine ⟨fun x x1 x2 x3 => by rw [v1 x x1 x3, a2 x x1 x2], a4.of (fun k => by rw [v1 65 (by decide) (by decide)]), fun k hk => by rw [v2 k hk, a2 66 (by decide) (by decide)], ?_⟩
    rcases v3 with ⟨y1, y2, y3, y4⟩ | y1
    · exact Or.inl ⟨y1, y2, by rw [y3, a5], fun h => y4 (by omega)⟩
    · exact Or.inr y1
  by_cases hw : q_wo B s i = 30
  · obtain ⟨V, v1, v2⟩ := c_lawTests hG hX1 hi hct1 a4 hl hw hn
    refine ⟨V, ?_, hfin V v2⟩
    rw [hread, decide_eq_true hw, bI_ift]; exact v1
  · obtain ⟨V, v1, v2, v3, v4⟩ := c_lawJ106 hG hX1 hi hct1 a4 hl (c := 0) hn
    refine ⟨V, ?_, hfin V ⟨v2, fun k hk => v3 k (by omega) (by omega), ?_⟩⟩
    · rw [hread, decide_eq_false hw, bI_iff]; exact v1
    · have hlk : q_lk B s i = 0 := by unfold q_lk; rw [if_neg hw]
      have hle : q_le B s i = i := by unfold q_le; rw [if_neg hw]
      have hlb : q_lb B s i = q_lv B s i := by unfold q_lb; rw [if_neg hw]
      rw [hlb]
      rcases v4 with ⟨y1, y2, y3, y4, y5⟩ | y1
      · left
        refine ⟨y1, ?_, ?_, fun hr h4 => ?_⟩
        · unfold q_lnx
          rw [hle]; exact y2
        · rw [y3, y4, hlk]; rfl
        · unfold q_rC
          rw [hle, hlk]
          exact ⟨(y5 hr).1, (y5 hr).2, fun t ht => absurd ht (by omega)⟩
      · exact Or.inr y1
end Law8
