/-! town, for both -/
section Fresh2
variable {N : pN} {P : pR} {I J : pI} {T : Nat → Int32} {zk : Nat}
theorem IV.fresh2 (h : IV zk N P I) (hk : zk < 512) (hJ : ∀ zq, 19 < zq → (zq < 47 ∨ zq = 65 ∨ zq = 68 ∨ zq = 69 ∨ 85 < zq) → J zq = I zq) (hS : SR N P (q_r68 J T) 1 0) (hT : ∀ zj, 1160 ≤ zj → T zj = I 68 zj) {zn : Nat} (hn : 16 < zn) : ∃ K, f_X11_refresh zn N J P 0 = some K ∧ K 68 = I 68 ∧ (∀ zq, 44 < zq ∨ zq < 20 → K zq = J zq) ∧ ∀ M : pI, (∀ zq, zq ≠ 68 → (zq < 47 ∨ zq = 65 ∨ zq = 69 ∨ 85 < zq) → M zq = K zq) → M 68 = T → R_msig M → IV (zk + 1) N P M := by
  obtain ⟨h1, h2, h3, h4, h5, h6, h7⟩ := h
  obtain ⟨b1, b2, b3, ⟨zr, b4⟩, b5⟩ := h4
  obtain ⟨K, k1, k2, k3, k4, k5, k6, k7⟩ := c_build h1 hS (fun zw hw => by rw [hJ _ (by omega) (by omega)]; exact b5 zw hw) hn
  refine ⟨p_u (p_u K 44 6 (K 44 6 + nI 1)) 44 7 (-1), ?_, ?_, ?_, ?_⟩
  · unfold f_X11_refresh f_X3_forget
    simp only [gp_0_2 h1, gp_0_0 h1, gp_0_3 h1, Option.bind_some, k1, n_let]
  · rw [p_u_ne (by decide), p_u_ne (by decide), k2 68 (by decide) (by decide), hJ 68 (by decide) (by decide)]
  · intro zq a
    rw [p_u_ne (by omega), p_u_ne (by omega), k2 zq (by omega) (by omega)]
  · intro M m1 m2 m3
    have mK : ∀ zq, zq ≠ 44 → zq ≠ 68 → (zq < 47 ∨ zq = 65 ∨ zq = 69 ∨ 85 < zq) → M zq = K zq := fun zq a b c => by rw [m1 zq b c, p_u_ne a, p_u_ne a]
    have m44 : ∀ zj, zj ≠ 6 → zj ≠ 7 → M 44 zj = I 44 zj := fun zj a b => by rw [m1 44 (by decide) (by decide), p_u_nk b, p_u_nk a, k2 44 (by decide) (by decide), hJ 44 (by decide) (by decide)]
    have m446 : M 44 6 = I 44 6 + nI 1 := by rw [m1 44 (by decide) (by decide), p_u_nk (by decide), p_u_self, k2 44 (by decide) (by decide), hJ 44 (by decide) (by decide)]
    have m447 : M 44 7 = -1 := by rw [m1 44 (by decide) (by decide), p_u_self]
    obtain ⟨⟨zs, s1, s2, s3⟩, _, _⟩ := h5
    have e6 : M 44 6 = nI (zs + 1 + 1) := by rw [m446, s2, nI_add]
    have m46 : M 46 = I 46 := by rw [mK 46 (by decide) (by decide) (by decide), k2 46 (by decide) (by decide), hJ 46 (by decide) (by decide)]
    have hno : ∀ zt, zt < 2710 → ¬ M 46 zt = M 44 6 := fun zt ht e => by
      obtain ⟨zv, v1, v2⟩ := s3 zt ht
      rw [m46, v2, e6] at e
      have := (nI_eq (by omega) (by omega)).mp e
      omega
    have hSM : SR N P M 1 0 := hS.of (fun zq a b => by rw [mK zq (by omega) (by omega) (by omega), k2 zq (by omega) (by omega), q_r68_n (by omega)]) (fun zj _ => by rw [m2, q_r68_s])
    refine ⟨h1, hSM, h3.of (fun zq a => by rw [mK zq (by omega) (by omega) (by omega), k2 zq (by omega) (by omega), hJ zq (by omega) (by omega)]) (fun zj a => by rw [m2]; exact hT zj a) (by rw [mK 69 (by decide) (by decide) (by decide), k2 69 (by decide) (by decide), hJ 69 (by decide) (by decide)]), ?_, ?_, ?_, Or.inl m447, h7.2.of (by rw [mK 65 (by decide) (by decide) (by decide), k2 65 (by decide) (by decide), hJ 65 (by decide) (by decide)])⟩
    · refine ⟨?_, ?_, ?_, ⟨zr, ?_⟩, ?_⟩
      · intro zw hw
        have h9 := k6 zw hw
        rw [m2, mK (43 - zw) (by omega) (by omega) (by omega)]
        refine ⟨h9.1, fun hs => ?_⟩
        have h8 := h9.2 hs
        unfold q_bar at h8 ⊢
        rw [mK (43 - zw) (by omega) (by omega) (by omega)]
        exact h8
      · rw [m2, mK 21 (by decide) (by decide) (by decide)]; exact Or.inr k3
      · rw [m2, mK 21 (by decide) (by decide) (by decide)]; exact k4
      · exact b4.of (fun zi => by rw [mK 29 (by decide) (by decide) (by decide), k2 29 (by decide) (by decide), hJ 29 (by decide) (by decide)])
      · intro zw hw
        rw [mK (43 - zw) (by omega) (by omega) (by omega)]; exact k7 zw hw
    · refine ⟨⟨zs + 1, by omega, e6, fun zt ht => ?_⟩, fun as ax ay g1 g2 g3 g4 => ?_, fun ai aj g1 g2 g4 => ?_⟩
      · obtain ⟨zv, v1, v2⟩ := s3 zt ht
        exact ⟨zv, by omega, by rw [m46]; exact v2⟩
      · have n1 : nv (M 68 1) ≤ 6 := hSM.rs.1.2
        exact absurd g4 (hno _ (by omega))
      · have n2 : nv (M 68 2) ≤ 8 := hSM.ri.1.2
        have n3 : nv (M 68 3) ≤ 8 := hSM.rn.1.2
        exact absurd g4 (hno _ (by omega))
    · exact m3
end Fresh2
section Town2
variable {N : pN} {P : pR} {I J K : pI} {B : Nat → Nat} {s i zn l zk : Nat} {A A0 : Nat → Int32}
def q_T3 (F Q : Int32) (A : Nat → Int32) : Nat → Int32 := fun j => if j = 8 then nI 0 else q_T1 F Q A j
theorem m_town (hG : GW N P) (h8 : J 68 8 = nI s) (hs : s ≤ 500) (hb : ∀ j, j < s → J 68 (660 + j) = nI (B j) ∧ B j ≤ 255) (hrg : ∀ w, 1 ≤ w → w ≤ 4 → rg (J 68 (q_tix w)) 12) (hn : 3000 < zn) : ∃ l F Q M, q_out B s (J 68) l F Q ∧ f_X12_town zn N J P 67 = some (if F = nI 0 then nI l else -1, M) ∧ (∀ x, x ≠ 67 → x ≠ 68 → x ≠ 77 → x ≠ 82 → x ≠ 83 → M x = J x) ∧ (F ≠ nI 0 → M 77 = J 77) ∧ (F = nI 0 → ∀ zj, zj < 2646 → M 77 zj = -1) ∧ M 68 = q_T3 F Q (if F = nI 0 then (q_stt B s (J 68) l).2.2.2 else J 68) := by
  obtain ⟨R, r1, r2, r3, r4, r5, r6, r7, r8, r9, r10⟩ := m_reads hG h8 hs hb (show 600 < zn by omega)
  have i0 : p_ib N 68 (nI 0) = true := ib_68 hG (by decide)
  have i1 : p_ib N 68 (nI 1) = true := ib_68 hG (by decide)
  have i2 : p_ib N 68 (nI 2) = true := ib_68 hG (by decide)
  have i3 : p_ib N 68 (nI 3) = true := ib_68 hG (by decide)
  have i9 : p_ib N 68 (nI 9) = true := ib_68 hG (by decide)
  have s1 : p_ib N 83 (nI 1) = true := n_ib (gn_83 hG) (by decide) (by decide)
  have s2 : p_ib N 83 (nI 2) = true := n_ib (gn_83 hG) (by decide) (by decide)
  have s3 : p_ib N 83 (nI 3) = true := n_ib (gn_83 hG) (by decide) (by decide)
  have s4 : p_ib N 83 (nI 4) = true := n_ib (gn_83 hG) (by decide) (by decide)
  have k0 : (nI 0).toNatClampNeg = 0 := by decide
  have k1 : (nI 1).toNatClampNeg = 1 := by decide
  have k2 : (nI 2).toNatClampNeg = 2 := by decide
  have k3 : (nI 3).toNatClampNeg = 3 := by decide
  have k4 : (nI 4).toNatClampNeg = 4 := by decide
  have k9 : (nI 9).toNatClampNeg = 9 := by decide
  have c0 : R 68 0 = J 68 0 := r10 0 (by decide) (by decide) (by decide)
  have c1 : R 68 1 = J 68 1 := r10 1 (by decide) (by decide) (by decide)
  have c2 : R 68 2 = J 68 2 := r10 2 (by decide) (by decide) (by decide)
  have c3 : R 68 3 = J 68 3 := r10 3 (by decide) (by decide) (by decide)
  have e1 : p_u R 83 1 (J 68 0) 68 1 = J 68 1 := by rw [p_u_ne (by decide), c1]
  have e3 : p_u (p_u R 83 1 (J 68 0)) 83 2 (J 68 1) 68 3 = J 68 3 := by rw [p_u_ne (by decide), p_u_ne (by decide), c3]
  have e2 : p_u (p_u (p_u R 83 1 (J 68 0)) 83 2 (J 68 1)) 83 3 (J 68 3) 68 2 = J 68 2 := by rw [p_u_ne (by decide), p_u_ne (by decide), p_u_ne (by decide), c2]
  generalize hz : p_u (p_u (p_u (p_u R 83 1 (J 68 0)) 83 2 (J 68 1)) 83 3 (J 68 3)) 83 4 (J 68 2) = M0
  have z1 : ∀ x, x ≠ 83 → M0 x = R x := fun x hx => by rw [← hz, p_u_ne hx, p_u_ne hx, p_u_ne hx, p_u_ne hx]
  have hX0 : q_MX N P M0 B s := r2.to (by rw [z1 67 (by decide)]) (fun j _ _ => by rw [z1 68 (by decide)])
  have hmi : q_mi B s (J 68) M0 M0 0 := by
    refine ⟨fun k hk => absurd hk (by omega), ⟨fun _ _ _ _ _ => rfl, fun _ _ _ => rfl, rfl⟩, ?_, by rw [z1 67 (by decide)]; exact r4, by rw [z1 68 (by decide)]; exact r7, by rw [z1 68 (by decide)]; exact r8, by rw [z1 67 (by decide)]; exact r5, fun _ w w1 w4 => ⟨hrg w w1 w4, ?_⟩, fun k hk => absurd hk (by omega), fun h => absurd rfl h, fun _ => rfl⟩
    · unfold q_mt
      rw [z1 67 (by decide)]
      exact r3
    · have g : w = 1 ∨ w = 2 ∨ w = 3 ∨ w = 4 := by omega
      rw [← hz]
      rcases g with g | g | g | g <;> subst g
      · rw [p_u_nk (by decide), p_u_nk (by decide), p_u_nk (by decide), p_u_self]; rfl
      · rw [p_u_nk (by decide), p_u_nk (by decide), p_u_self]; rfl
      · rw [p_u_nk (by decide), p_u_self]; rfl
      · rw [p_u_self]; rfl
  obtain ⟨M1, l1, l, F, Q, l2, l3, l4, l5, l6⟩ := m_townLoop hX0 hmi (show 600 < zn by omega)
  have f0 : ∀ x, x ≠ 67 → x ≠ 68 → x ≠ 82 → x ≠ 83 → M1 x = J x := fun x x1 x2 x3 x4 => by rw [l5.1 x x1 x2 x3 x4, z1 x x4, r9 x x1 x2]
  have f68 : ∀ k, k ≠ 8 → k ≠ 9 → k ≠ 10 → M1 68 k = J 68 k := fun k x1 x2 x3 => by rw [l5.2.1 k x2 x3, z1 68 (by decide), r10 k x1 x2 x3]
  have f88 : M1 68 8 = nI 0 := by rw [l5.2.1 8 (by decide) (by decide), z1 68 (by decide), r6]
  by_cases hF : F = nI 0
  · obtain ⟨g1, g2⟩ := l6 hF
    have hzero : (q_stt B s (J 68) l).2.1 = nI 0 := by
      rcases l2.2 with ⟨_, a2, _⟩ | ⟨_, c, _, a3, _⟩
      · rw [← a2, hF]
      · rw [hF] at a3; exact absurd a3 (by decide)
    obtain ⟨V, v1, v2, v3, v4, v5, v6⟩ := m_comesLoop hG hs l2.1 hzero g1 g2 f68 hrg (show 600 < zn by omega)
    obtain ⟨M, m1, m2, m3⟩ := m_forgets (I := V) hG hn
    have h9 : M1 68 9 = 0 := by rw [l3, hF]; rfl
    have h38 : M 67 38 = nI l := by rw [m2 67 (by decide), v2 67 (by decide), g1]
    refine ⟨l, F, Q, M, l2, ?_, fun x x1 x2 x3 x4 x5 => by rw [m2 x x3, v2 x x2, f0 x x1 x2 x4 x5], fun h => absurd hF h, fun _ => m3, ?_⟩
    · unfold f_X12_town
      simp only [r1, Option.bind_some, gp_67_37 hG, gp_67_0 hG, n_ck i0, n_ck i1, n_ck i2, n_ck i3, n_ck i9, n_ck s1, n_ck s2, n_ck s3, n_ck s4, k0, k1, k2, k3, k4, k9, n_let, c0, e1, e2, e3, hz, l1, if_pos h9, v1, m1, h38, if_pos hF]
    · funext j
      rw [m2 68 (by decide), if_pos hF]
      unfold q_T3 q_T1
      by_cases j8 : j = 8
      · rw [if_pos j8, j8, v4, f88]
      · rw [if_neg j8]
        by_cases j9 : j = 9
        · rw [if_pos j9, j9, v5, l3]
        · rw [if_neg j9]
          by_cases j10 : j = 10
          · rw [if_pos j10, j10, v6, l4]
          · rw [if_neg j10, v3 j j8 j9 j10]
  · have h9 : ¬ M1 68 9 = 0 := by rw [l3]; exact hF
    refine ⟨l, F, Q, M1, l2, ?_, fun x x1 x2 x3 x4 x5 => f0 x x1 x2 x4 x5, fun _ => f0 77 (by decide) (by decide) (by decide) (by decide), fun h => absurd h hF, ?_⟩
    · unfold f_X12_town
      simp only [r1, Option.bind_some, gp_67_37 hG, gp_67_0 hG, n_ck i0, n_ck i1, n_ck i2, n_ck i3, n_ck i9, n_ck s1, n_ck s2, n_ck s3, n_ck s4, k0, k1, k2, k3, k4, k9, n_let, c0, e1, e2, e3, hz, l1, if_neg h9, if_neg hF]
    · funext j
      rw [if_neg hF]
      unfold q_T3 q_T1
      by_cases j8 : j = 8
      · rw [if_pos j8, j8, f88]
      · rw [if_neg j8]
        by_cases j9 : j = 9
        · rw [if_pos j9, j9, l3]
        · rw [if_neg j9]
          by_cases j10 : j = 10
          · rw [if_pos j10, j10, l4]
          · rw [if_neg j10, f68 j j8 j9 j10]
end Town2
