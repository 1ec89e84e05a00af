/-! the reference reads a town, whole -/
section MTown2
variable {N : pN} {P : pR} {J M M0 : pI} {B : Nat → Nat} {s i zn l : Nat} {A A2 A0 : Nat → Int32}
theorem m_reads (hG : GW N P) (h8 : J 68 8 = nI s) (hs : s ≤ 500) (hb : ∀ j, j < s → J 68 (660 + j) = nI (B j) ∧ B j ≤ 255) (hn : 600 < zn) : ∃ M, f_X12_reads zn N J P 67 = some M ∧ q_MX N P M B s ∧ q_mt M B s 0 ∧ M 67 35 = nI 0 ∧ M 67 38 = nI 0 ∧ M 68 8 = nI 0 ∧ M 68 9 = nI 0 ∧ M 68 10 = -1 ∧ (∀ x, x ≠ 67 → x ≠ 68 → M x = J x) ∧ ∀ k, k ≠ 8 → k ≠ 9 → k ≠ 10 → M 68 k = J 68 k := by
  have i8 : p_ib N 68 (nI 8) = true := ib_68 hG (by decide)
  have i9 : p_ib N 68 (nI 9) = true := ib_68 hG (by decide)
  have i10 : p_ib N 68 (nI 10) = true := ib_68 hG (by decide)
  have k8 : (nI 8).toNatClampNeg = 8 := by decide
  have k9 : (nI 9).toNatClampNeg = 9 := by decide
  have k10 : (nI 10).toNatClampNeg = 10 := by decide
  generalize hz : p_u (p_u (p_u (p_u (p_u (p_u (p_u J 67 28 (nI s)) 68 8 (nI 0)) 68 9 (nI 0)) 68 10 (-1)) 67 29 (nI 0)) 67 35 (nI 0)) 67 38 (nI 0) = J1
  have z1 : ∀ x, x ≠ 67 → x ≠ 68 → J1 x = J x := fun x x1 x2 => by rw [← hz, p_u_ne x1, p_u_ne x1, p_u_ne x1, p_u_ne x2, p_u_ne x2, p_u_ne x2, p_u_ne x1]
  have z2 : ∀ k, k ≠ 8 → k ≠ 9 → k ≠ 10 → J1 68 k = J 68 k := fun k x1 x2 x3 => by rw [← hz, p_u_ne (by decide), p_u_ne (by decide), p_u_ne (by decide), p_u_nk x3, p_u_nk x2, p_u_nk x1, p_u_ne (by decide)]
  have z8 : J1 68 8 = nI 0 := by rw [← hz, p_u_ne (by decide), p_u_ne (by decide), p_u_ne (by decide), p_u_nk (by decide), p_u_nk (by decide), p_u_self]
  have z9 : J1 68 9 = nI 0 := by rw [← hz, p_u_ne (by decide), p_u_ne (by decide), p_u_ne (by decide), p_u_nk (by decide), p_u_self]
  have z10 : J1 68 10 = -1 := by rw [← hz, p_u_ne (by decide), p_u_ne (by decide), p_u_ne (by decide), p_u_self]
  have y28 : J1 67 28 = nI s := by rw [← hz, p_u_nk (by decide), p_u_nk (by decide), p_u_nk (by decide), p_u_ne (by decide), p_u_ne (by decide), p_u_ne (by decide), p_u_self]
  have y29 : J1 67 29 = nI 0 := by rw [← hz, p_u_nk (by decide), p_u_nk (by decide), p_u_self]
  have y35 : J1 67 35 = nI 0 := by rw [← hz, p_u_nk (by decide), p_u_self]
  have y38 : J1 67 38 = nI 0 := by rw [← hz, p_u_self]
  have hX : q_MX N P J1 B s := ⟨hG, y28, hs, fun j hj => by rw [z2 _ (by omega) (by omega) (by omega)]; exact hb j hj⟩
  obtain ⟨M, m1, m2, m3, m4⟩ := m_adv hX (Nat.zero_le s) y29 hn
  refine ⟨M, ?_, hX.to (m3 28 (by decide)) (fun j _ _ => by rw [m2 68 (by decide)]), m4, by rw [m3 35 (by decide)]; exact y35, by rw [m3 38 (by decide)]; exact y38, by rw [m2 68 (by decide)]; exact z8, by rw [m2 68 (by decide)]; exact z9, by rw [m2 68 (by decide)]; exact z10, fun x x1 x2 => by rw [m2 x x1, z1 x x1 x2], fun k x1 x2 x3 => by rw [m2 68 (by decide), z2 k x1 x2 x3]⟩
  unfold f_X12_reads
  simp only [gp_67_0 hG, Option.bind_some, n_ck i8, n_ck i9, n_ck i10, k8, k9, k10, n_let, h8, hz, m1]
/-- the faults of all lines before are none -/
theorem q_stt_z (h : (q_stt B s A0 l).2.1 = nI 0) : ∀ k, k < l → (q_stt B s A0 k).2.1 = nI 0 ∧ (q_lf B s (q_stt B s A0 k).2.2.2 (q_stt B s A0 k).1).1 = nI 0 ∧ (q_stt B s A0 (k + 1)).2.2.2 = q_cm B s (q_stt B s A0 k).2.2.2 (q_stt B s A0 k).1 := by
  induction l with
  | zero => intro k hk; omega
  | succ l ih =>
    have e2 : (q_stt B s A0 (l + 1)).2.1 = if (q_stt B s A0 l).2.1 = nI 0 then (q_lf B s (q_stt B s A0 l).2.2.2 (q_stt B s A0 l).1).1 else (q_stt B s A0 l).2.1 := rfl
    have e4 : (q_stt B s A0 (l + 1)).2.2.2 = if (q_stt B s A0 l).2.1 = nI 0 ∧ (q_lf B s (q_stt B s A0 l).2.2.2 (q_stt B s A0 l).1).1 = nI 0 then q_cm B s (q_stt B s A0 l).2.2.2 (q_stt B s A0 l).1 else (q_stt B s A0 l).2.2.2 := rfl
    rw [e2] at h
    by_cases c : (q_stt B s A0 l).2.1 = nI 0
    · rw [if_pos c] at h
      intro k hk
      by_cases e : k = l
      · subst e
        exact ⟨c, h, by rw [e4, if_pos ⟨c, h⟩]⟩
      · exact ih c k (by omega)
    · rw [if_neg c] at h; exact absurd h c
theorem q_cm_c (h : ∀ j, j ≠ 8 → j ≠ 9 → j ≠ 10 → A j = A2 j) {j : Nat} (h8 : j ≠ 8) (h9 : j ≠ 9) (h10 : j ≠ 10) : q_cm B s A i j = q_cm B s A2 i j := by
  have hx := q_tix_b (q_wo B s i)
  unfold q_cm q_trw
  rw [h (q_tix (q_wo B s i)) (by omega) (by omega) (by omega), h 4 (by decide) (by decide) (by decide), h j h8 h9 h10]
theorem m_comes (hG : GW N P) {k : Nat} (hg : q_gl B s i) (hi : i ≤ s) (ht0 : M 82 (6 * k) = nI (q_wo B s i)) (ht1 : ∀ c, c < q_nn (q_wo B s i) → M 82 (6 * k + 1 + c) = nI (q_v B s i c)) (hk : k ≤ 63) (hr : rg (M 68 (q_tix (q_wo B s i))) 12) (hr2 : nv (M 68 (q_tix (q_wo B s i))) < q_tmo (q_wo B s i)) (hck : ¬ (q_wo B s i = 1 ∧ q_crk B s i = true)) (hn : 600 < zn) : ∃ M2, f_X12_comes zn N M P 67 (nI (6 * k)) = some M2 ∧ (∀ x, x ≠ 68 → M2 x = M x) ∧ M2 68 = q_cm B s (M 68) i := by
  have hw := q_gl_w hg
  have hv : ∀ c, c < q_nn (q_wo B s i) → M 82 (6 * k + 1 + c) = nI (q_v B s i c) ∧ q_v B s i c ≤ 9999 := fun c hc => by
    have := hg (c + 1) (by omega)
    rw [q_gd_n hc] at this
    exact ⟨ht1 c hc, (q_isn_v (q_ad_b (B := B) hi (c + 1)).2 this).1⟩
  have htl : q_tl M B s i k (q_nn (q_wo B s i)) := ⟨ht0, hv⟩
  have g : q_wo B s i = 1 ∨ q_wo B s i = 2 ∨ q_wo B s i = 3 ∨ q_wo B s i = 4 := by omega
  rcases g with g | g | g | g
  · rw [g] at htl hr hr2
    refine m_comes1 hG g htl hk hr.1 hr2 ?_ hn
    cases hc : q_crk B s i with
    | false => rfl
    | true => exact absurd ⟨g, hc⟩ hck
  · rw [g] at htl hr hr2
    exact m_comes2 hG g htl hk hr.1 hr2 hn
  · rw [g] at htl hr hr2
    exact m_comes3 hG g htl hk hr.1 hr2
  · rw [g] at htl hr hr2
    exact m_comes4 hG g htl hk hr.1 hr2 hn
theorem m_comesLoop (hG : GW N P) (hs : s ≤ 500) (hgl : ∀ k, k < l → q_gl B s (q_stt B s A0 k).1) (hz : (q_stt B s A0 l).2.1 = nI 0) (h38 : M 67 38 = nI l) (ht : q_told M B s A0 l) (hA : ∀ j, j ≠ 8 → j ≠ 9 → j ≠ 10 → M 68 j = A0 j) (hrg : ∀ w, 1 ≤ w → w ≤ 4 → rg (A0 (q_tix w)) 12) (hn : 600 < zn) : ∃ V, p_it (B_X12_town_87 zn N P 67) zn (nI 0, M) = some V ∧ (∀ x, x ≠ 68 → V x = M x) ∧ (∀ j, j ≠ 8 → j ≠ 9 → j ≠ 10 → V 68 j = (q_stt B s A0 l).2.2.2 j) ∧ V 68 8 = M 68 8 ∧ V 68 9 = M 68 9 ∧ V 68 10 = M 68 10 := by
  have hzz := q_stt_z hz
  have hb := q_stt_b hs hgl
  have hloop := p_loopI (B := B_X12_town_87 zn N P 67) (zJ := fun c (zc : Int32 × pI) => zc.1 = nI c ∧ c ≤ l ∧ (∀ x, x ≠ 68 → zc.2 x = M x) ∧ (∀ j, j ≠ 8 → j ≠ 9 → j ≠ 10 → zc.2 68 j = (q_stt B s A0 c).2.2.2 j) ∧ zc.2 68 8 = M 68 8 ∧ zc.2 68 9 = M 68 9 ∧ zc.2 68 10 = M 68 10 ∧ ∀ w, 1 ≤ w → w ≤ 4 → rg (zc.2 68 (q_tix w)) 12) (zE := fun V => (∀ x, x ≠ 68 → V x = M x) ∧ (∀ j, j ≠ 8 → j ≠ 9 → j ≠ 10 → V 68 j = (q_stt B s A0 l).2.2.2 j) ∧ V 68 8 = M 68 8 ∧ V 68 9 = M 68 9 ∧ V 68 10 = M 68 10) (zm := l) (zn := zn) (by omega) ?_ ?_ (nI 0, M) ⟨rfl, by omega, fun x _ => rfl, hA, rfl, rfl, rfl, fun w w1 w4 => by have := q_tix_b w; dsimp only; rw [hA _ (by omega) (by omega) (by omega)]; exact hrg w w1 w4⟩
  · exact hloop
  · rintro c hc ⟨zi, V⟩ ⟨m1, m2, m3, m4, m5, m6, m7, m8⟩
    dsimp only at m1 m3 m4 m5 m6 m7 m8
    subst m1
    left
    obtain ⟨f1, f2, f3⟩ := hzz c hc
    obtain ⟨o1, o2, o3, o4⟩ := q_lf_0 f2
    have hgc := hgl c hc
    have hw := q_gl_w hgc
    have hbc := q_stt_b hs (fun k hk => hgl k (show k < l by omega) : ∀ k, k < c → q_gl B s (q_stt B s A0 k).1)
    have htx := q_tix_b (q_wo B s (q_stt B s A0 c).1)
    have hle : ¬ nI l ≤ nI c := nI_ge hc (by omega)
    obtain ⟨V2, v1, v2, v3⟩ := m_comes (M := V) (k := c) (zn := zn) hG hgc hbc.2 (by rw [m3 82 (by decide)]; exact (ht c hc).1) (fun d hd => by rw [m3 82 (by decide)]; exact (ht c hc).2 d hd) (by omega) (m8 _ hw.1 hw.2) (by rw [m4 _ (by omega) (by omega) (by omega)]; exact o2) o1 hn
    refine ⟨(nI (c + 1), V2), ⟨rfl, by omega, fun x hx => by dsimp only; rw [v2 x hx]; exact m3 x hx, fun j x1 x2 x3 => ?_, ?_, ?_, ?_, fun w w1 w4 => ?_⟩, fun zrec => ?_⟩
    · dsimp only
      rw [v3, f3]
      exact q_cm_c m4 x1 x2 x3
    · dsimp only; rw [v3, q_cm_n _ (by decide) (by omega)]; exact m5
    · dsimp only; rw [v3, q_cm_n _ (by decide) (by omega)]; exact m6
    · dsimp only; rw [v3, q_cm_n _ (by decide) (by omega)]; exact m7
    · dsimp only
      rw [v3]
      by_cases e : q_tix w = q_tix (q_wo B s (q_stt B s A0 c).1)
      · rw [e, q_cm_s]
        have hmo := q_tmo_b (q_wo B s (q_stt B s A0 c).1)
        rw [m4 _ (by omega) (by omega) (by omega)]
        exact rg.of (by omega) (by decide)
      · rw [q_cm_n _ (by have := q_tix_b w; omega) e]; exact m8 w w1 w4
    · have h38c : V 67 38 = nI l := by rw [m3 67 (by decide)]; exact h38
      unfold B_X12_town_87
      simp only [h38c, if_neg hle, pk_mul, v1, Option.bind_some, nI_add]
  · rintro ⟨zi, V⟩ ⟨m1, m2, m3, m4, m5, m6, m7, m8⟩
    dsimp only at m1 m3 m4 m5 m6 m7 m8
    subst m1
    have h38c : V 67 38 = nI l := by rw [m3 67 (by decide)]; exact h38
    refine ⟨V, ⟨m3, m4, m5, m6, m7⟩, fun zrec => ?_⟩
    unfold B_X12_town_87
    simp only [h38c, if_pos (nI_le (Nat.le_refl l) (show l < 2 ^ 31 by omega))]
end MTown2
