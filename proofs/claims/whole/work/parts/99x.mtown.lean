/-! the reference reads a town's lines -/
def q_told (M : pI) (B : Nat → Nat) (s : Nat) (A0 : Nat → Int32) (l : Nat) : Prop := ∀ k, k < l → M 82 (6 * k) = nI (q_wo B s (q_stt B s A0 k).1) ∧ ∀ c, c < q_nn (q_wo B s (q_stt B s A0 k).1) → M 82 (6 * k + 1 + c) = nI (q_v B s (q_stt B s A0 k).1 c)
def q_mi (B : Nat → Nat) (s : Nat) (A0 : Nat → Int32) (M0 M : pI) (l : Nat) : Prop := (∀ k, k < l → q_gl B s (q_stt B s A0 k).1) ∧ q_mf M0 M ∧ q_mt M B s (q_stt B s A0 l).1 ∧ M 67 35 = nI 0 ∧ M 68 9 = (q_stt B s A0 l).2.1 ∧ M 68 10 = (q_stt B s A0 l).2.2.1 ∧ M 67 38 = nI l ∧ ((q_stt B s A0 l).2.1 = nI 0 → ∀ w, 1 ≤ w → w ≤ 4 → rg ((q_stt B s A0 l).2.2.2 (q_tix w)) 12 ∧ M 83 w = (q_stt B s A0 l).2.2.2 (q_tix w)) ∧ q_told M B s A0 l ∧ ((q_stt B s A0 l).2.1 ≠ nI 0 → ∃ q, q < (q_stt B s A0 l).1 ∧ (q_stt B s A0 l).2.2.1 = nI q) ∧ ((q_stt B s A0 l).2.1 = nI 0 → (q_stt B s A0 l).2.2.1 = -1)
section MTown
variable {N : pN} {P : pR} {M0 M : pI} {B : Nat → Nat} {s i zn l : Nat} {A A0 : Nat → Int32}
theorem q_lf_Q (hi : i ≤ s) (hg : q_gl B s i) (h : (q_lf B s A i).1 ≠ nI 0) : ∃ q, q < q_ad B s (q_nn (q_wo B s i) + 2) i ∧ (q_lf B s A i).2 = nI q := by
  have hnn := q_nn_b (q_wo B s i)
  have b1 := (q_te_b (B := B) hi).2.2 (q_gl_k hg)
  have b2 : q_ad B s 1 i ≤ q_ad B s (q_nn (q_wo B s i) + 2) i := q_ad_le hi (by omega)
  have e1 : q_ad B s 1 i = q_te B s i := rfl
  unfold q_lf at h ⊢
  by_cases c1 : q_wo B s i = 1 ∧ q_crk B s i = true
  · rw [if_pos c1]; exact ⟨_, by omega, rfl⟩
  · rw [if_neg c1] at h ⊢
    by_cases c2 : q_tmo (q_wo B s i) ≤ nv (A (q_tix (q_wo B s i)))
    · rw [if_pos c2]; exact ⟨_, by omega, rfl⟩
    · rw [if_neg c2] at h ⊢
      rcases q_nf_2 (B := B) (s := s) (i := i) (w := q_wo B s i) (q_nn (q_wo B s i)) with g | ⟨d, g1, g2⟩
      · exact absurd g h
      · rw [g2]
        have hd := hg (d + 1) (by omega)
        rw [q_gd_n g1] at hd
        have b3 := q_ad_b (B := B) hi (d + 1)
        have b4 := (q_te_b (B := B) b3.2).2.2 (by rw [(q_isn_2 hd).1]; decide)
        have b5 : q_ad B s (d + 1 + 1) i ≤ q_ad B s (q_nn (q_wo B s i) + 2) i := q_ad_le hi (by omega)
        have e2 : q_ad B s (d + 1 + 1) i = q_te B s (q_ad B s (d + 1) i) := rfl
        refine ⟨q_pc B s i d, ?_, rfl⟩
        unfold q_pc
        omega
theorem q_tix_b (w : Nat) : q_tix w ≤ 3 := by
  unfold q_tix
  split
  · omega
  · split
    · omega
    · split <;> omega
theorem q_tix_i {w v : Nat} (h1 : 1 ≤ w) (h4 : w ≤ 4) (g1 : 1 ≤ v) (g4 : v ≤ 4) (h : q_tix w = q_tix v) : w = v := by
  have a : w = 1 ∨ w = 2 ∨ w = 3 ∨ w = 4 := by omega
  have b : v = 1 ∨ v = 2 ∨ v = 3 ∨ v = 4 := by omega
  rcases a with a | a | a | a <;> rcases b with b | b | b | b <;> subst a <;> subst b <;> first | rfl | exact absurd h (by decide)
theorem q_tbas_b (w : Nat) : 30 ≤ q_tbas w := by
  unfold q_tbas
  split
  · omega
  · split
    · omega
    · split <;> omega
theorem q_cm_s (A : Nat → Int32) : q_cm B s A i (q_tix (q_wo B s i)) = nI (nv (A (q_tix (q_wo B s i))) + 1) := by
  have h1 := q_tix_b (q_wo B s i)
  have h2 := q_tbas_b (q_wo B s i)
  unfold q_cm
  rw [if_neg (by omega), if_pos rfl]
theorem q_cm_n (A : Nat → Int32) {j : Nat} (hj : j ≤ 29) (h : j ≠ q_tix (q_wo B s i)) : q_cm B s A i j = A j := by
  have h2 := q_tbas_b (q_wo B s i)
  unfold q_cm
  rw [if_neg (by omega), if_neg h]
theorem q_lf_0 (h : (q_lf B s A i).1 = nI 0) : ¬ (q_wo B s i = 1 ∧ q_crk B s i = true) ∧ nv (A (q_tix (q_wo B s i))) < q_tmo (q_wo B s i) ∧ (q_lf B s A i).2 = -1 ∧ ∀ d, d < q_nn (q_wo B s i) → q_tmb (q_wo B s i) d (q_v B s i d) = true := by
  unfold q_lf at h ⊢
  by_cases c1 : q_wo B s i = 1 ∧ q_crk B s i = true
  · rw [if_pos c1] at h; exact absurd h (show ¬ nI 3 = nI 0 by decide)
  · rw [if_neg c1] at h ⊢
    by_cases c2 : q_tmo (q_wo B s i) ≤ nv (A (q_tix (q_wo B s i)))
    · rw [if_pos c2] at h; exact absurd h (show ¬ nI 4 = nI 0 by decide)
    · rw [if_neg c2] at h ⊢
      obtain ⟨a1, a2⟩ := q_nf_0 h
      exact ⟨c1, by omega, by rw [a1], a2⟩
theorem q_tmo_b (w : Nat) : q_tmo w ≤ 12 := by
  unfold q_tmo
  split
  · omega
  · split <;> omega
theorem q_mi_s {M2 : pI} (hs : s ≤ 500) (h : q_mi B s A0 M0 M l) (hf : q_mf M M2) (hg : q_mgood M M2 B s (q_stt B s A0 l).1 l (q_stt B s A0 l).2.2.2) : q_mi B s A0 M0 M2 (l + 1) := by
  obtain ⟨h1, h2, h3, h4, h5, h6, h7, h8, h9, h10, h11⟩ := h
  obtain ⟨g1, g2, g3, g4, g5, g6, g7, g8, g9, g10, g11⟩ := hg
  have hb := q_stt_b hs h1
  have hw := q_gl_w g1
  rw [h5] at g4 g5
  rw [h6] at g5
  have hlt := q_gl_8 hb.2 hs g1
  have e1 : (q_stt B s A0 (l + 1)).1 = q_ad B s (q_nn (q_wo B s (q_stt B s A0 l).1) + 2) (q_stt B s A0 l).1 := rfl
  have e2 : (q_stt B s A0 (l + 1)).2.1 = if (q_stt B s A0 l).2.1 = nI 0 then (q_lf B s (q_stt B s A0 l).2.2.2 (q_stt B s A0 l).1).1 else (q_stt B s A0 l).2.1 := rfl
  have e3 : (q_stt B s A0 (l + 1)).2.2.1 = if (q_stt B s A0 l).2.1 = nI 0 then (q_lf B s (q_stt B s A0 l).2.2.2 (q_stt B s A0 l).1).2 else (q_stt B s A0 l).2.2.1 := rfl
  have e4 : (q_stt B s A0 (l + 1)).2.2.2 = if (q_stt B s A0 l).2.1 = nI 0 ∧ (q_lf B s (q_stt B s A0 l).2.2.2 (q_stt B s A0 l).1).1 = nI 0 then q_cm B s (q_stt B s A0 l).2.2.2 (q_stt B s A0 l).1 else (q_stt B s A0 l).2.2.2 := rfl
  have htold : q_told M2 B s A0 (l + 1) := fun k hk => by
    by_cases e : k = l
    · subst e; exact ⟨g8, g9⟩
    · obtain ⟨a1, a2⟩ := h9 k (by omega)
      have hn5 := q_nn_b (q_wo B s (q_stt B s A0 k).1)
      exact ⟨by rw [g7 _ (by omega)]; exact a1, fun c hc => by rw [g7 _ (by omega)]; exact a2 c hc⟩
  refine ⟨fun k hk => ?_, h2.tr hf, by rw [e1]; exact g2, g3, by rw [e2]; exact g4, by rw [e3]; exact g5, g6, ?_, htold, ?_, ?_⟩
  · by_cases e : k = l
    · rw [e]; exact g1
    · exact h1 k (by omega)
  · intro hz w w1 w4
    rw [e2] at hz
    rw [e4]
    by_cases c1 : (q_stt B s A0 l).2.1 = nI 0
    · rw [if_pos c1] at hz
      rw [if_pos ⟨c1, hz⟩]
      obtain ⟨a1, a2⟩ := h8 c1 w w1 w4
      obtain ⟨_, l2, _, _⟩ := q_lf_0 hz
      have hmo := q_tmo_b (q_wo B s (q_stt B s A0 l).1)
      by_cases e : w = q_wo B s (q_stt B s A0 l).1
      · subst e
        rw [q_cm_s]
        refine ⟨rg.of (by omega) (by decide), ?_⟩
        rw [g10, a2, a1.1, nv_nI (by omega), nI_add]
      · rw [q_cm_n _ (by have := q_tix_b w; omega) (fun h => e (q_tix_i w1 w4 hw.1 hw.2 h)), g11 w e]
        exact ⟨a1, a2⟩
    · rw [if_neg c1] at hz; exact absurd hz c1
  · intro hz
    rw [e2] at hz
    rw [e1, e3]
    by_cases c1 : (q_stt B s A0 l).2.1 = nI 0
    · rw [if_pos c1] at hz ⊢
      exact q_lf_Q hb.2 g1 hz
    · rw [if_neg c1]
      obtain ⟨q, q1, q2⟩ := h10 c1
      exact ⟨q, by omega, q2⟩
  · intro hz
    rw [e2] at hz
    rw [e3]
    by_cases c1 : (q_stt B s A0 l).2.1 = nI 0
    · rw [if_pos c1] at hz ⊢
      exact (q_lf_0 hz).2.2.1
    · rw [if_neg c1] at hz; exact absurd hz c1
theorem q_tt_0 (hi : i ≤ s) : q_tt B s i = 0 ↔ q_tk B s i = 0 := by
  have hk := q_tk_b (B := B) hi
  unfold q_tt
  split
  · omega
  · split
    · split <;> omega
    · split
      · split <;> omega
      · split <;> omega
theorem m_townLoop (hX : q_MX N P M0 B s) (h0 : q_mi B s A0 M0 M0 0) (hn : 600 < zn) : ∃ M, p_it (B_X12_town_52 zn N P 67) zn M0 = some M ∧ ∃ l F Q, q_out B s A0 l F Q ∧ M 68 9 = F ∧ M 68 10 = Q ∧ q_mf M0 M ∧ (F = nI 0 → M 67 38 = nI l ∧ q_told M B s A0 l) := by
  have hs := hX.2.2.1
  refine p_loopI (B := B_X12_town_52 zn N P 67) (zJ := fun c (M : pI) => q_mi B s A0 M0 M c ∨ ∃ l Q, q_out B s A0 l (nI 1) Q ∧ M 67 35 = nI 1 ∧ M 68 9 = nI 1 ∧ M 68 10 = Q ∧ q_mf M0 M) (zE := fun M => ∃ l F Q, q_out B s A0 l F Q ∧ M 68 9 = F ∧ M 68 10 = Q ∧ q_mf M0 M ∧ (F = nI 0 → M 67 38 = nI l ∧ q_told M B s A0 l)) (zm := 64) (zn := zn) (by omega) ?_ ?_ M0 (Or.inl h0)
  · rintro c hc M hM
    rcases hM with hM | ⟨l, Q, m1, m2, m3, m4, m5⟩
    · have hmi := hM
      obtain ⟨h1, h2, h3, h4, h5, h6, h7, h8, h9, h10, h11⟩ := hM
      have hb := q_stt_b hs h1
      have h4z : M 67 35 = 0 := h4
      have htt := q_tt_b (B := B) (s := s) (i := (q_stt B s A0 c).1)
      by_cases hk : q_tk B s (q_stt B s A0 c).1 = 0
      · right
        have h31 : M 67 31 = 0 := by rw [h3.2.2.1, (q_tt_0 hb.2).mpr hk]; rfl
        refine ⟨M, ⟨c, _, _, ⟨h1, Or.inl ⟨hk, rfl, rfl⟩⟩, h5, h6, h2, fun _ => ⟨h7, h9⟩⟩, fun zrec => ?_⟩
        unfold B_X12_town_52
        rw [if_pos h4z, if_pos h31]
      · left
        have h31 : ¬ M 67 31 = 0 := fun e => by
          rw [h3.2.2.1] at e
          exact hk ((q_tt_0 hb.2).mp ((nI_eq (by omega) (by decide)).mp (show nI (q_tt B s (q_stt B s A0 c).1) = nI 0 from e)))
        have hXM : q_MX N P M B s := hX.to h2.2.2 (fun j x1 x2 => h2.2.1 j (by omega) (by omega))
        obtain ⟨M2, n1, n2, n3⟩ := m_tline (A := (q_stt B s A0 c).2.2.2) hXM hb.2 h3 h4 h7 (by omega) (fun e => by rw [h5] at e; rw [h6]; exact h10 e) (fun e => by rw [h5] at e; rw [h6]; exact h11 e) (fun e w1 w4 => by rw [h5] at e; exact h8 e _ w1 w4) hn
        refine ⟨M2, ?_, fun zrec => ?_⟩
        · rcases n3 with n3 | ⟨d, d1, d2, d3, d4⟩
          · left
            exact q_mi_s hs hmi n2 n3
          · right
            exact ⟨c, _, ⟨h1, Or.inr ⟨hk, d, d1, rfl, rfl⟩⟩, d2, d3, d4, h2.tr n2⟩
        · unfold B_X12_town_52
          rw [if_pos h4z, if_neg h31, n1, Option.bind_some]
    · right
      refine ⟨M, ⟨l, _, _, m1, m3, m4, m5, fun h => absurd h (by decide)⟩, fun zrec => ?_⟩
      unfold B_X12_town_52
      rw [m2, if_neg (show ¬ nI 1 = 0 by decide)]
  · rintro M hM
    rcases hM with hM | ⟨l, Q, m1, m2, m3, m4, m5⟩
    · have hb := q_stt_b hs hM.1
      omega
    · refine ⟨M, ⟨l, _, _, m1, m3, m4, m5, fun h => absurd h (by decide)⟩, fun zrec => ?_⟩
      unfold B_X12_town_52
      rw [m2, if_neg (show ¬ nI 1 = 0 by decide)]
end MTown
