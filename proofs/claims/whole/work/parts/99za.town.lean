/-! a town is read, by both -/
def q_T1 (F Q : Int32) (A : Nat → Int32) : Nat → Int32 := fun j => if j = 9 then F else if j = 10 then Q else A j
section Town
variable {N : pN} {P : pR} {I J K : pI} {B : Nat → Nat} {s i zn l zk : Nat} {A A0 : Nat → Int32} {F Q : Int32}
theorem q_SRtell {V : pI} (hS : SR N P (q_r68 K A) 1 0) (e : ∀ x, 1 < x → x < 20 → V x = K x) (h9 : V 1 9 = F) (h10 : V 1 10 = Q) (h1 : ∀ k, k ≠ 9 → k ≠ 10 → V 1 k = K 1 k) : SR N P (q_r68 V (q_T1 F Q A)) 1 0 := by
  obtain ⟨f1, f2, f3, f4, f5, f6⟩ := hS.rf
  have f3 : K 1 11 = A 4 := f3
  have f4 : K 1 12 = A 5 := f4
  have f5 : rg (A 4) 999 := f5
  have f6 : A 5 = -1 ∨ rg (A 5) 999 := f6
  refine hS.w_flds ?_ (fun zq a b c => by rw [q_r68_n (by omega), q_r68_n (by omega), e zq (by omega) b]) (fun zj a b c d g => ?_)
  · exact ⟨h9, h10, (h1 11 (by decide) (by decide)).trans f3, (h1 12 (by decide) (by decide)).trans f4, f5, f6⟩
  · rw [q_r68_s, q_r68_s]
    unfold q_T1
    rw [if_neg d, if_neg g]
theorem TB.grow {W : pI} {t c m wd base : Nat} (h : TB N P (q_r68 J A0) t c m wd base) (ht : t ≠ 68) (hb : q_tb1 J K t m wd base) (hW : W t = K t) : ∃ r, base ≤ r ∧ TB N P W t c m wd r := by
  obtain ⟨h1, h2, h3, h4, h5, h6, h7⟩ := h
  obtain ⟨a1, ⟨r, b1, b2, b3⟩, a3⟩ := hb
  rw [q_r68_n ht] at h3 h4
  exact ⟨r, b2, h1, h2, by rw [hW, a1 0 (by decide)]; exact h3, by rw [hW, a1 1 (by decide)]; exact h4, by rw [hW]; exact b1, b3, h7⟩
theorem c_readTown (h : IV zk N P I) (h8 : I 68 8 = nI s) (hs : s ≤ 500) (hb : ∀ j, j < s → I 3 j = nI (B j) ∧ B j ≤ 255) (hn : 600 < zn) : ∃ l F Q V, q_out B s (I 68) l F Q ∧ f_X10_read zn N I P 55 1 = some (if F = nI 0 then nI l else -1, V, p_u P 56 0 (some 2)) ∧ GW N (p_u P 56 0 (some 2)) ∧ (∀ x, 19 < x → x ≠ 56 → x ≠ 59 → x ≠ 60 → V x = I x) ∧ V 2 = I 2 ∧ V 3 = I 3 ∧ SR N (p_u P 56 0 (some 2)) (q_r68 V (q_T1 F Q (if F = nI 0 then (q_stt B s (I 68) l).2.2.2 else I 68))) 1 0 := by
  have hG := h.gw
  have hsr := h.sr
  have hTT : TB N P I 2 3 500 1 s := by
    have := hsr.rt.2.1
    have e : I 68 (8 + 0) = nI s := h8
    rw [e, nv_nI (by omega)] at this
    exact this
  have hP2 : ∀ x j, x ≠ 56 → p_u P 56 0 (some 2) x j = P x j := fun x j hx => by rw [p_u_ne hx]
  have hX8 : q_TX N (p_u P 56 0 (some 2)) (p_u (p_u (p_u I 56 3 (nI 0)) 56 4 (nI 0)) 56 5 (-1)) B s 56 := ⟨p_u_self, (hTT.setP (hP2 2 2 (by decide))).of (fun j => by rw [p_u_ne (by decide), p_u_ne (by decide), p_u_ne (by decide)]), hs, fun j hj => by rw [p_u_ne (by decide), p_u_ne (by decide), p_u_ne (by decide)]; exact hb j hj, Or.inl rfl⟩
  obtain ⟨J, j1, j2, j3, j4⟩ := c_adv hX8 (Nat.zero_le s) (by rw [p_u_nk (by decide), p_u_nk (by decide), p_u_self]) hn
  have hopen : f_X9_open zn N I P 56 2 = some (J, p_u P 56 0 (some 2)) := by
    unfold f_X9_open
    simp only [n_let, j1, Option.bind_some]
  have hW2 : WT N (p_u P 56 0 (some 2)) := w_X9_open hG.wt (hG.tp (a := 56) (t := 12) (z := 0) (by decide) (by decide)) (hG.tp (a := 2) (t := 11) (z := 0) (by decide) (by decide)) hopen
  have hG2 := hG.open56 hW2
  have h2 := h.setP hG2 hP2 (Or.inl rfl)
  generalize p_u P 56 0 (some 2) = P2 at *
  have hJ : ∀ x, x ≠ 56 → J x = I x := fun x hx => by rw [j2 x hx, p_u_ne hx, p_u_ne hx, p_u_ne hx]
  have hXJ : q_TX N P2 J B s 56 := hX8.to (by rw [j2 2 (by decide)]) (by rw [j2 3 (by decide)])
  have hSJ : SR N P2 (q_r68 J (I 68)) 1 0 := h2.sr.of (fun zq a b => by rw [q_r68_n (by omega), hJ zq (by omega)]) (fun zk _ => by rw [q_r68_s])
  obtain ⟨⟨zc, K⟩, t1, l, F, Q, o1, o2, o3, o4, o5, o6⟩ := c_townLoop (A0 := I 68) hG2 hXJ j4 (by rw [j3 4 (by decide) (by decide) (by decide), p_u_nk (by decide), p_u_self]) (by rw [j3 5 (by decide) (by decide) (by decide), p_u_self]) hSJ hn
  dsimp only at o2 o3 o4 o5 o6
  have hsz1 : f_X8_size I 4 = some (nI (nv (I 68 0))) := tb_size hsr.rw.2.1
  have hsz2 : f_X8_size I 6 = some (nI (nv (I 68 1))) := tb_size hsr.rs.2.1
  have hsz3 : f_X8_size I 8 = some (nI (nv (I 68 2))) := tb_size hsr.ri.2.1
  have hsz4 : f_X8_size I 10 = some (nI (nv (I 68 3))) := tb_size hsr.rn.2.1
  have htell : f_X9_tell K 56 1 = some (p_u (p_u K 1 9 F) 1 10 Q) := by
    unfold f_X9_tell
    rw [n_let, n_let, o3, p_u_ne (show 56 ≠ 1 by decide), o4]
  have hK : ∀ x, 19 < x → x ≠ 56 → x ≠ 59 → x ≠ 60 → K x = I x := fun x x1 x2 x3 x4 => by rw [o5 x x2 x3 x4 (by omega), hJ x x2]
  generalize hz : p_u (p_u K 1 9 F) 1 10 Q = W
  have z1 : ∀ x, x ≠ 1 → W x = K x := fun x hx => by rw [← hz, p_u_ne hx, p_u_ne hx]
  have z9 : W 1 9 = F := by rw [← hz, p_u_nk (by decide), p_u_self]
  have z10 : W 1 10 = Q := by rw [← hz, p_u_self]
  have zk : ∀ k, k ≠ 9 → k ≠ 10 → W 1 k = K 1 k := fun k x1 x2 => by rw [← hz, p_u_nk x2, p_u_nk x1]
  have w4 : W 56 4 = F := by rw [z1 56 (by decide)]; exact o3
  by_cases hF : F = nI 0
  · obtain ⟨q1, q2⟩ := o2 hF
    refine ⟨l, F, Q, W, o1, ?_, hG2, fun x x1 x2 x3 x4 => by rw [z1 x (by omega)]; exact hK x x1 x2 x3 x4, by rw [z1 2 (by decide), o5 2 (by decide) (by decide) (by decide) (by decide), hJ 2 (by decide)], by rw [z1 3 (by decide), o5 3 (by decide) (by decide) (by decide) (by decide), hJ 3 (by decide)], ?_⟩
    · have hcl : f_X9_isClean W 56 = some (nI 1) := by
        unfold f_X9_isClean
        rw [w4, hF, if_pos (show nI 0 = 0 from rfl)]
      unfold f_X10_read
      simp only [gp_1_1 hG, gp_1_2 hG, gp_1_3 hG, gp_1_4 hG, Option.bind_some, hsz1, hsz2, hsz3, hsz4, gp_55_0 hG, gp_1_0 hG, hopen, t1, gp_55_0 hG2, htell, hz, hcl, if_neg (show ¬ nI 1 = 0 by decide), q1, if_pos hF]
    · rw [if_pos hF]
      exact q_SRtell q2 (fun x x1 x2 => z1 x (by omega)) z9 z10 zk
  · obtain ⟨b1, b2, b3, b4⟩ := id o6
    have g4 := hSJ.rw.2.1
    have g6 := hSJ.rs.2.1
    have g8 := hSJ.ri.2.1
    have g10 := hSJ.rn.2.1
    obtain ⟨r1, r1b, r1t⟩ := g4.grow (by decide) b1 (z1 4 (by decide))
    obtain ⟨r2, r2b, r2t⟩ := g6.grow (by decide) b2 (z1 6 (by decide))
    obtain ⟨r3, r3b, r3t⟩ := g8.grow (by decide) b3 (z1 8 (by decide))
    obtain ⟨r4, r4b, r4t⟩ := g10.grow (by decide) b4 (z1 10 (by decide))
    have u1 : f_X8_cut W 4 (nI (nv (I 68 0))) = some (p_u W 4 3 (nI (nv (I 68 0)))) := tb_cut r1t r1b
    generalize hy1 : p_u W 4 3 (nI (nv (I 68 0))) = W1 at u1
    have r2t1 : TB N P2 W1 6 7 6 8 r2 := r2t.of (fun j => by rw [← hy1, p_u_ne (by decide)])
    have u2 : f_X8_cut W1 6 (nI (nv (I 68 1))) = some (p_u W1 6 3 (nI (nv (I 68 1)))) := tb_cut r2t1 r2b
    generalize hy2 : p_u W1 6 3 (nI (nv (I 68 1))) = W2 at u2
    have r3t2 : TB N P2 W2 8 9 8 4 r3 := r3t.of (fun j => by rw [← hy2, ← hy1, p_u_ne (by decide), p_u_ne (by decide)])
    have u3 : f_X8_cut W2 8 (nI (nv (I 68 2))) = some (p_u W2 8 3 (nI (nv (I 68 2)))) := tb_cut r3t2 r3b
    generalize hy3 : p_u W2 8 3 (nI (nv (I 68 2))) = W3 at u3
    have r4t3 : TB N P2 W3 10 11 8 2 r4 := r4t.of (fun j => by rw [← hy3, ← hy2, ← hy1, p_u_ne (by decide), p_u_ne (by decide), p_u_ne (by decide)])
    have u4 : f_X8_cut W3 10 (nI (nv (I 68 3))) = some (p_u W3 10 3 (nI (nv (I 68 3)))) := tb_cut r4t3 r4b
    generalize hy4 : p_u W3 10 3 (nI (nv (I 68 3))) = W4 at u4
    have y1 : ∀ x, x ≠ 4 → x ≠ 6 → x ≠ 8 → x ≠ 10 → W4 x = W x := fun x x1 x2 x3 x4 => by rw [← hy4, p_u_ne x4, ← hy3, p_u_ne x3, ← hy2, p_u_ne x2, ← hy1, p_u_ne x1]
    have a4 : W4 4 = p_u W 4 3 (nI (nv (I 68 0))) 4 := by rw [← hy4, p_u_ne (by decide), ← hy3, p_u_ne (by decide), ← hy2, p_u_ne (by decide), ← hy1]
    have a6 : W4 6 = p_u W1 6 3 (nI (nv (I 68 1))) 6 := by rw [← hy4, p_u_ne (by decide), ← hy3, p_u_ne (by decide), ← hy2]
    have a8 : W4 8 = p_u W2 8 3 (nI (nv (I 68 2))) 8 := by rw [← hy4, p_u_ne (by decide), ← hy3]
    have a10 : W4 10 = p_u W3 10 3 (nI (nv (I 68 3))) 10 := by rw [← hy4]
    have c6 : W1 6 = W 6 := by rw [← hy1, p_u_ne (by decide)]
    have c8 : W2 8 = W 8 := by rw [← hy2, p_u_ne (by decide), ← hy1, p_u_ne (by decide)]
    have c10 : W3 10 = W 10 := by rw [← hy3, p_u_ne (by decide), ← hy2, p_u_ne (by decide), ← hy1, p_u_ne (by decide)]
    -- as if nothing had been told
    have hback : SR N P2 (q_r68 (fun x => if x = 1 then K 1 else W4 x) (I 68)) 1 0 := by
      refine hSJ.back (K := K) (fun x x1 x2 => ?_) o6 (fun t ht => ⟨fun k hk => ?_, ?_⟩) ?_ ?_ ?_ ?_
      · by_cases e : x = 1
        · subst e; rw [if_pos rfl, o5 1 (by decide) (by decide) (by decide) (by decide)]
        · rw [if_neg e, y1 x (by omega) (by omega) (by omega) (by omega), z1 x e, o5 x (by omega) (by omega) (by omega) x1]
      · rcases ht with ht | ht | ht | ht <;> subst ht
        · rw [if_neg (by decide), a4, p_u_nk hk, z1 4 (by decide)]
        · rw [if_neg (by decide), a6, p_u_nk hk, c6, z1 6 (by decide)]
        · rw [if_neg (by decide), a8, p_u_nk hk, c8, z1 8 (by decide)]
        · rw [if_neg (by decide), a10, p_u_nk hk, c10, z1 10 (by decide)]
      · rw [if_neg (by omega), y1 (t + 1) (by omega) (by omega) (by omega) (by omega), z1 (t + 1) (by omega)]
      · rw [if_neg (by decide), a4, p_u_self]
      · rw [if_neg (by decide), a6, p_u_self]
      · rw [if_neg (by decide), a8, p_u_self]
      · rw [if_neg (by decide), a10, p_u_self]
    refine ⟨l, F, Q, W4, o1, ?_, hG2, fun x x1 x2 x3 x4 => by rw [y1 x (by omega) (by omega) (by omega) (by omega), z1 x (by omega)]; exact hK x x1 x2 x3 x4, by rw [y1 2 (by decide) (by decide) (by decide) (by decide), z1 2 (by decide), o5 2 (by decide) (by decide) (by decide) (by decide), hJ 2 (by decide)], by rw [y1 3 (by decide) (by decide) (by decide) (by decide), z1 3 (by decide), o5 3 (by decide) (by decide) (by decide) (by decide), hJ 3 (by decide)], ?_⟩
    · have hcl : f_X9_isClean W 56 = some (nI 0) := by
        unfold f_X9_isClean
        rw [w4, if_neg (show ¬ F = 0 from hF)]
      unfold f_X10_read
      simp only [gp_1_1 hG, gp_1_2 hG, gp_1_3 hG, gp_1_4 hG, Option.bind_some, hsz1, hsz2, hsz3, hsz4, gp_55_0 hG, gp_1_0 hG, hopen, t1, gp_55_0 hG2, htell, hz, hcl, if_pos (show nI 0 = 0 from rfl), gp_1_1 hG2, gp_1_2 hG2, gp_1_3 hG2, gp_1_4 hG2, u1, u2, u3, u4, if_neg hF]
    · rw [if_neg hF]
      exact q_SRtell hback (fun x x1 x2 => by rw [if_neg (by omega)]) (by rw [y1 1 (by decide) (by decide) (by decide) (by decide)]; exact z9) (by rw [y1 1 (by decide) (by decide) (by decide) (by decide)]; exact z10) (fun k x1 x2 => by rw [y1 1 (by decide) (by decide) (by decide) (by decide), if_pos rfl]; exact zk k x1 x2)
end Town
