/-! the law: the class reads all lines -/
def q_drw (V : pI) (B : Nat → Nat) (s l : Nat) : Prop := ∀ k, k < l → k < 16 → q_lk B s (q_lls B s k).1 ≤ 4 → q_rC (fun j => V 66 (k * 18 + j)) B s (q_lls B s k).1
section Law9
variable {N : pN} {P : pR} {I J K : pI} {B : Nat → Nat} {s i l r zn zk : Nat} {W : Int32 × Int32}
theorem q_tp_tnx {p : Nat} (hi : p ≤ s) : q_tp B s p ≤ q_tnx B s p := by
  have h0 := q_ab_b (B := B) hi
  have g1 := q_tp_b (B := B) hi
  have g2 := q_te_b (B := B) hi
  have h1 := q_tp_b (B := B) h0.2
  have h2 := q_te_b (B := B) h0.2
  have h3 := q_tp_b (B := B) h2.2.1
  have h4 := q_te_b (B := B) h2.2.1
  have h5 := q_tp_b (B := B) h4.2.1
  have h6 := q_te_b (B := B) h4.2.1
  have h7 : q_tp B s p ≤ q_te B s (q_ab B s p) := by
    unfold q_ab at h1 h2 ⊢
    split at h1
    · rename_i c
      rw [if_pos c] at h2 ⊢
      omega
    · rename_i c
      rw [if_neg c] at h2 ⊢
      omega
  unfold q_tnx
  split <;> omega
theorem q_w5_ft (hi : i ≤ s) (h : q_w5 W (q_tp B s i)) : ∀ c, q_w5 (q_fts B s i W c) (q_tq B s i c) := by
  intro c
  induction c with
  | zero => exact q_w5_m h (q_te_b (B := B) hi).1
  | succ c ih =>
    have hq := (q_tq_b (B := B) hi c).2
    have h1 := q_tp_b (B := B) hq
    have h2 := q_tp_tnx (B := B) hq
    have h3 := q_tnx_b (B := B) hq
    have h4 := q_tp_b (B := B) h3.2
    have h5 := q_te_b (B := B) h3.2
    show q_w5 (if c < 4 then q_fts B s i W c else q_f5 (q_fts B s i W c) (q_tp B s (q_tq B s i c))) (q_te B s (q_tnx B s (q_tq B s i c)))
    split
    · exact q_w5_m ih (by omega)
    · exact q_w5_m (q_w5_f (q_w5_m ih h1.1)) (by omega)
theorem q_w5_ln (hi : i ≤ s) (h : q_w5 W i) : q_w5 (q_fts B s i (q_fl B s i l W) (q_lk B s i)) (q_lnx B s i) := by
  have h0 := q_w5_fl (B := B) (l := l) hi h
  have h1 := q_le_b (B := B) hi
  have h2 := q_tp_b (B := B) h1.2
  have h3 := q_te_b (B := B) h1.2
  have h4 := q_tp_b (B := B) h3.2.1
  have h5 := q_te_b (B := B) h3.2.1
  by_cases hw : q_wo B s i = 30
  · have e1 : q_lk B s i = q_lc B s i + 1 := by unfold q_lk; rw [if_pos hw]
    have e2 : q_le B s i = q_tq B s i (q_lc B s i + 1) := by unfold q_le; rw [if_pos hw]; rfl
    rw [e1]
    refine q_w5_m (q_w5_ft hi h0 _) ?_
    rw [← e2]
    unfold q_lnx
    omega
  · have e1 : q_lk B s i = 0 := by unfold q_lk; rw [if_neg hw]
    have e2 : q_le B s i = i := by unfold q_le; rw [if_neg hw]
    rw [e1]
    show q_w5 (q_fl B s i l W) (q_lnx B s i)
    refine q_w5_m h0 ?_
    rw [e2] at h2 h3 h4 h5
    unfold q_lnx
    rw [e2]
    omega
theorem q_w5_st (h : ∀ k, k < l → q_lb B s (q_lls B s k).1 = none) : q_w5 (q_lls B s l).2 (q_lls B s l).1 := by
  induction l with
  | zero => exact Or.inl rfl
  | succ l ih => exact q_w5_ln (q_lls_b (fun k hk => h k (by omega))).2 (ih (fun k hk => h k (by omega)))
theorem q_rC.to {f g : Nat → Int32} (h : q_rC f B s i) (h4 : q_lk B s i ≤ 4) (e : ∀ k, k < 18 → g k = f k) : q_rC g B s i := by
  obtain ⟨h1, h2, h3⟩ := h
  refine ⟨by rw [e 0 (by decide)]; exact h1, by rw [e 1 (by decide)]; exact h2, fun t ht => ?_⟩
  obtain ⟨a1, a2, a3⟩ := h3 t ht
  refine ⟨?_, ?_, fun h => ⟨?_, ?_⟩⟩
  · dsimp only
    rw [e _ (by omega)]; exact a1
  · dsimp only
    rw [e _ (by omega)]; exact a2
  · dsimp only
    rw [e _ (by omega)]; exact (a3 h).1
  · dsimp only
    rw [e _ (by omega)]; exact (a3 h).2
theorem c_lawLoop (hG : GW N P) (hX : q_TX N P J B s 62) (hct : q_ct J B s 62 0) (h4 : J 62 4 = nI 0) (h5 : J 62 5 = -1) (hT : TB N P J 65 66 16 18 0) (hn : 600 < zn) : ∃ zt : Int32 × pI, p_it (B_X4_read_21 zn N P 61) zn (nI 0, J) = some zt ∧ ∃ l W, q_lout B s l W ∧ (W.1 = nI 0 → zt.1 = nI l ∧ l ≤ 16 ∧ TB N P zt.2 65 66 16 18 l ∧ q_drw zt.2 B s l) ∧ (zt.2 62 4, zt.2 62 5) = W ∧ (∀ x, x ≠ 62 → x ≠ 65 → x ≠ 66 → zt.2 x = J x) ∧ ∃ r, TB N P zt.2 65 66 16 18 r := by
  have hs := hX.2.2.1
  refine p_loopI (B := B_X4_read_21 zn N P 61) (zJ := fun c (zc : Int32 × pI) => zc.1 = nI c ∧ (∀ x, x ≠ 62 → x ≠ 65 → x ≠ 66 → zc.2 x = J x) ∧ TB N P zc.2 65 66 16 18 (min c 16) ∧ (((∀ k, k < c → q_lb B s (q_lls B s k).1 = none) ∧ q_ct zc.2 B s 62 (q_lls B s c).1 ∧ (zc.2 62 4, zc.2 62 5) = (q_lls B s c).2 ∧ q_drw zc.2 B s c) ∨ ∃ l W, q_lout B s l W ∧ W.1 = nI 1 ∧ (zc.2 62 4, zc.2 62 5) = W)) (zE := fun (zt : Int32 × pI) => ∃ l W, q_lout B s l W ∧ (W.1 = nI 0 → zt.1 = nI l ∧ l ≤ 16 ∧ TB N P zt.2 65 66 16 18 l ∧ q_drw zt.2 B s l) ∧ (zt.2 62 4, zt.2 62 5) = W ∧ (∀ x, x ≠ 62 → x ≠ 65 → x ≠ 66 → zt.2 x = J x) ∧ ∃ r, TB N P zt.2 65 66 16 18 r) (zm := 252) (zn := zn) (by omega) ?_ ?_ (nI 0, J) ⟨rfl, fun _ _ _ _ => rfl, hT, Or.inl ⟨fun k hk => absurd hk (by omega), hct, by dsimp only; rw [h4, h5]; rfl, fun k hk => absurd hk (by omega)⟩⟩
  · rintro c hc ⟨zi, K⟩ ⟨m1, m2, m3, m4⟩
    dsimp only at m1 m2 m3 m4
    subst m1
    have a1 : ¬ nI 500 ≤ nI c := nI_ge (by omega) (by omega)
    rcases m4 with ⟨c1, c2, c3, c4⟩ | ⟨l, W, c1, c2, c3⟩
    · have hpos := q_lls_b c1
      have htk := q_tk_b (B := B) hpos.2
      have h62 : K 62 4 = (q_lls B s c).2.1 := congrArg Prod.fst c3
      by_cases hk0 : q_tk B s (q_lls B s c).1 = 0
      · right
        have hgo : f_X9_goOn K 62 = some (nI 0) := by
          unfold f_X9_goOn
          rw [c2.1, hk0, if_pos (show nI 0 = 0 from rfl)]
        refine ⟨(nI c, K), ⟨c, _, ⟨c1, Or.inl ⟨hk0, rfl⟩⟩, fun h => ?_, c3, m2, _, m3⟩, fun zrec => ?_⟩
        · have hz := q_lls_z h
          have h16 : c ≤ 16 := by
            by_cases e : c = 0
            · omega
            · have := (hz (c - 1) (by omega)).1
              omega
          rw [Nat.min_eq_left h16] at m3
          exact ⟨rfl, h16, m3, c4⟩
        · unfold B_X4_read_21
          simp only [if_neg a1, gp_61_0 hG, Option.bind_some, hgo, if_pos (show nI 0 = 0 from rfl)]
      · left
        have hgo : f_X9_goOn K 62 = some (nI 1) := by
          unfold f_X9_goOn
          rw [c2.1, if_neg (nI_ne0 (by omega) (by omega)), h62, if_neg (q_w5_1 (q_w5_st c1))]
        have hXK : q_TX N P K B s 62 := hX.to (m2 2 (by decide) (by decide) (by decide)) (m2 3 (by decide) (by decide) (by decide))
        obtain ⟨V, v1, v2, v3, v4, v5⟩ := c_lawLine hG hXK hpos.2 c2 (l := c) m3 (by omega) hn
        refine ⟨(nI (c + 1), V), ⟨rfl, fun x x1 x2 x3 => by dsimp only; rw [v2 x x1 x2 x3, m2 x x1 x2 x3], v3, ?_⟩, fun zrec => ?_⟩
        · rcases v5 with ⟨u1, u2, u3, u4⟩ | ⟨p, u1, u2, u3⟩
          · left
            refine ⟨fun k hk => ?_, u2, ?_, fun k hk h16 hk4 => ?_⟩
            · by_cases e : k = c
              · rw [e]; exact u1
              · exact c1 k (by omega)
            · dsimp only
              rw [u3, c3]; rfl
            · by_cases e : k = c
              · subst e
                exact u4 h16 hk4
              · exact (c4 k (by omega) h16 hk4).to hk4 (fun j hj => v4 _ (by omega))
          · right
            refine ⟨c, _, ⟨c1, Or.inr ⟨hk0, p, u1, rfl⟩⟩, rfl, ?_⟩
            dsimp only
            rw [u2, u3]
        · unfold B_X4_read_21
          simp only [if_neg a1, gp_61_0 hG, Option.bind_some, hgo, if_neg (show ¬ nI 1 = 0 by decide), v1, nI_add]
    · right
      have h62 : K 62 4 = nI 1 := by rw [← c2, ← c3]
      have hgo : f_X9_goOn K 62 = some (nI 0) := by
        unfold f_X9_goOn
        rw [h62, if_pos rfl]
        split <;> rfl
      refine ⟨(nI c, K), ⟨l, W, c1, fun h => absurd (c2.symm.trans h) (by decide), c3, m2, _, m3⟩, fun zrec => ?_⟩
      unfold B_X4_read_21
      simp only [if_neg a1, gp_61_0 hG, Option.bind_some, hgo, if_pos (show nI 0 = 0 from rfl)]
  · rintro ⟨zi, K⟩ ⟨m1, m2, m3, m4⟩
    dsimp only at m1 m2 m3 m4
    subst m1
    rcases m4 with ⟨c1, c2, c3, c4⟩ | ⟨l, W, c1, c2, c3⟩
    · have hpos := q_lls_b c1
      omega
    · have a1 : ¬ nI 500 ≤ nI 252 := nI_ge (by omega) (by omega)
      have h62 : K 62 4 = nI 1 := by rw [← c2, ← c3]
      have hgo : f_X9_goOn K 62 = some (nI 0) := by
        unfold f_X9_goOn
        rw [h62, if_pos rfl]
        split <;> rfl
      refine ⟨(nI 252, K), ⟨l, W, c1, fun h => absurd (c2.symm.trans h) (by decide), c3, m2, _, m3⟩, fun zrec => ?_⟩
      unfold B_X4_read_21
      simp only [if_neg a1, gp_61_0 hG, Option.bind_some, hgo, if_pos (show nI 0 = 0 from rfl)]
theorem c_readLaw (h : IV zk N P I) (h8 : I 68 8 = nI s) (hs : s ≤ 500) (hb : ∀ j, j < s → I 3 j = nI (B j) ∧ B j ≤ 255) (hn : 600 < zn) : ∃ l W V, q_lout B s l W ∧ f_X4_read zn N I P 61 1 = some (if W.1 = nI 0 then nI l else -1, V, p_u P 62 0 (some 2)) ∧ GW N (p_u P 62 0 (some 2)) ∧ (∀ x, 1 < x → x ≠ 16 → x ≠ 17 → x ≠ 62 → x ≠ 65 → x ≠ 66 → V x = I x) ∧ V 1 9 = W.1 ∧ V 1 10 = W.2 ∧ (∀ k, k ≠ 9 → k ≠ 10 → V 1 k = I 1 k) ∧ R_dr V ∧ (¬ W.1 = nI 0 → V 16 = I 16 ∧ V 17 = I 17) ∧ (W.1 = nI 0 → l ≤ 16 ∧ TB N (p_u P 62 0 (some 2)) V 16 17 16 18 l ∧ ∀ k, k < l → q_lk B s (q_lls B s k).1 ≤ 4 ∧ q_rC (fun j => V 17 (k * 18 + j)) B s (q_lls B s k).1) := by
  have hG := h.gw
  have hsr := h.sr
  have hTT : TB N P I 2 3 500 1 s := by
    have := hsr.rt.2.1
    have e : I 68 (8 + 0) = nI s := h8
    rw [e, nv_nI (by omega)] at this
    exact this
  have hdr : R_dr I := h.2.2.2.2.2.2.2
  obtain ⟨d1, d2, d3, d4⟩ := hdr
  have hTD : TB N P I 65 66 16 18 (nv (I 65 3)) := ⟨gn_66 hG, gp_65_2 hG, d1, d2, d3, d4, by decide, by decide, by decide, by decide⟩
  have hcut : f_X8_cut I 65 (nI 0) = some (p_u I 65 3 (nI 0)) := tb_cut hTD (Nat.zero_le _)
  have hT0 : TB N P (p_u I 65 3 (nI 0)) 65 66 16 18 0 := hTD.rows (Nat.zero_le _)
  generalize hI1 : p_u I 65 3 (nI 0) = I1 at *
  have i1 : ∀ x, x ≠ 65 → I1 x = I x := fun x hx => by rw [← hI1, p_u_ne hx]
  have hP2 : ∀ x j, x ≠ 62 → p_u P 62 0 (some 2) x j = P x j := fun x j hx => by rw [p_u_ne hx]
  have hX8 : q_TX N (p_u P 62 0 (some 2)) (p_u (p_u (p_u I1 62 3 (nI 0)) 62 4 (nI 0)) 62 5 (-1)) B s 62 := ⟨p_u_self, (hTT.setP (hP2 2 2 (by decide))).of (fun j => by rw [p_u_ne (by decide), p_u_ne (by decide), p_u_ne (by decide), i1 2 (by decide)]), hs, fun j hj => by rw [p_u_ne (by decide), p_u_ne (by decide), p_u_ne (by decide), i1 3 (by decide)]; exact hb j hj, Or.inr rfl⟩
  obtain ⟨J, j1, j2, j3, j4⟩ := c_adv hX8 (Nat.zero_le s) (by rw [p_u_nk (by decide), p_u_nk (by decide), p_u_self]) hn
  have hopen : f_X9_open zn N I1 P 62 2 = some (J, p_u P 62 0 (some 2)) := by
    unfold f_X9_open
    simp only [n_let, j1, Option.bind_some]
  have hW2 : WT N (p_u P 62 0 (some 2)) := w_X9_open hG.wt (hG.tp (a := 62) (t := 12) (z := 0) (by decide) (by decide)) (hG.tp (a := 2) (t := 11) (z := 0) (by decide) (by decide)) hopen
  have hG2 := hG.open62 hW2
  generalize p_u P 62 0 (some 2) = P2 at *
  have hJ : ∀ x, x ≠ 62 → J x = I1 x := fun x hx => by rw [j2 x hx, p_u_ne hx, p_u_ne hx, p_u_ne hx]
  have hXJ : q_TX N P2 J B s 62 := hX8.to (by rw [j2 2 (by decide)]) (by rw [j2 3 (by decide)])
  have hTJ : TB N P2 J 65 66 16 18 0 := (hT0.setP (hP2 65 2 (by decide))).of (fun j => by rw [hJ 65 (by decide)])
  obtain ⟨⟨zc, K⟩, t1, l, W, o1, o2, o3, o4, r, o5⟩ := c_lawLoop hG2 hXJ j4 (by rw [j3 4 (by decide) (by decide) (by decide), p_u_nk (by decide), p_u_self]) (by rw [j3 5 (by decide) (by decide) (by decide), p_u_self]) hTJ hn
  dsimp only at o2 o3 o4 o5
  have k4 : K 62 4 = W.1 := congrArg Prod.fst o3
  have k5 : K 62 5 = W.2 := congrArg Prod.snd o3
  have htell : f_X9_tell K 62 1 = some (p_u (p_u K 1 9 W.1) 1 10 W.2) := by
    unfold f_X9_tell
    rw [n_let, n_let, k4, p_u_ne (show 62 ≠ 1 by decide), k5]
  have hK : ∀ x, x ≠ 62 → x ≠ 65 → x ≠ 66 → K x = I x := fun x x1 x2 x3 => by rw [o4 x x1 x2 x3, hJ x x1, i1 x x2]
  generalize hz : p_u (p_u K 1 9 W.1) 1 10 W.2 = Z
  have z1 : ∀ x, x ≠ 1 → Z x = K x := fun x hx => by rw [← hz, p_u_ne hx, p_u_ne hx]
  have z9 : Z 1 9 = W.1 := by rw [← hz, p_u_nk (by decide), p_u_self]
  have z10 : Z 1 10 = W.2 := by rw [← hz, p_u_self]
  have zk : ∀ k, k ≠ 9 → k ≠ 10 → Z 1 k = I 1 k := fun k x1 x2 => by rw [← hz, p_u_nk x2, p_u_nk x1, hK 1 (by decide) (by decide) (by decide)]
  have w4 : Z 62 4 = W.1 := by rw [z1 62 (by decide)]; exact k4
  have hTZ : TB N P2 Z 65 66 16 18 r := o5.of (fun j => by rw [z1 65 (by decide)])
  have hdz : R_dr Z := ⟨hTZ.2.2.1, hTZ.2.2.2.1, by rw [hTZ.2.2.2.2.1]; exact rg.of hTZ.2.2.2.2.2.1 (by decide)⟩
  by_cases hF : W.1 = nI 0
  · obtain ⟨q1, q2, q3, q4⟩ := o2 hF
    have hlz : (q_lls B s l).2.1 = nI 0 := by
      rcases o1.2 with ⟨_, a2⟩ | ⟨_, p, _, a3⟩
      · rw [← a2]; exact hF
      · rw [a3] at hF; exact absurd hF (show ¬ nI 1 = nI 0 by decide)
    have hl4 := q_lls_z hlz
    have h16 : TB N P2 Z 16 17 16 18 (nv (I 68 6)) := ((hsr.rl.2.1).setP (hP2 16 2 (by decide))).of (fun j => by show Z 16 j = I 16 j; rw [z1 16 (by decide), hK 16 (by decide) (by decide) (by decide)])
    have h65 : TB N P2 Z 65 66 16 18 l := q3.of (fun j => by rw [z1 65 (by decide)])
    obtain ⟨V, v1, v2, v3, v4⟩ := c_tcopy h16 h65 (by decide) (by decide) (by decide) (by decide)
    refine ⟨l, W, V, o1, ?_, hG2, fun x x1 x2 x3 x4 x5 x6 => by rw [v4 x x2 x3, z1 x (by omega), hK x x4 x5 x6], by rw [v4 1 (by decide) (by decide)]; exact z9, by rw [v4 1 (by decide) (by decide)]; exact z10, fun k x1 x2 => by rw [v4 1 (by decide) (by decide)]; exact zk k x1 x2, hdz.of (v4 65 (by decide) (by decide)), fun e => absurd hF e, fun _ => ⟨q2, v2, fun k hk => ⟨(hl4 k hk).2, ?_⟩⟩⟩
    · have hcl : f_X9_isClean Z 62 = some (nI 1) := by
        unfold f_X9_isClean
        rw [w4, if_pos (show W.1 = 0 from hF)]
      unfold f_X4_read
      simp only [gp_61_1 hG, gp_61_0 hG, gp_1_0 hG, Option.bind_some, hcut, hopen, t1, gp_61_0 hG2, gp_61_1 hG2, gp_1_7 hG2, htell, hz, hcl, if_neg (show ¬ nI 1 = 0 by decide), v1, q1, if_pos hF]
    · refine (q4 k hk (hl4 k hk).1 (hl4 k hk).2).to (hl4 k hk).2 (fun j hj => ?_)
      rw [v3 _ (by have := (hl4 k hk).1; omega), z1 66 (by decide)]
  · refine ⟨l, W, Z, o1, ?_, hG2, fun x x1 x2 x3 x4 x5 x6 => by rw [z1 x (by omega), hK x x4 x5 x6], z9, z10, zk, hdz, fun _ => ⟨by rw [z1 16 (by decide), hK 16 (by decide) (by decide) (by decide)], by rw [z1 17 (by decide), hK 17 (by decide) (by decide) (by decide)]⟩, fun e => absurd e hF⟩
    have hcl : f_X9_isClean Z 62 = some (nI 0) := by
      unfold f_X9_isClean
      rw [w4, if_neg (show ¬ W.1 = 0 from hF)]
    unfold f_X4_read
    simp only [gp_61_1 hG, gp_61_0 hG, gp_1_0 hG, Option.bind_some, hcut, hopen, t1, gp_61_0 hG2, htell, hz, hcl, if_pos (show nI 0 = 0 from rfl), if_neg hF]
end Law9
