/-! the class reads a town, whole -/
section CTown2
variable {B : Nat → Nat} {s i w : Nat} {N : pN} {P : pR} {I J K : pI} {A A0 : Nat → Int32} {zn l zk : Nat}
theorem q_tb1.rf {t c m wd r : Nat} (h : TB N P (q_r68 J A0) t c m wd r) (ht : t ≠ 68) : q_tb1 J J t m wd r := by
  obtain ⟨h1, h2, h3, h4, h5, h6, h7⟩ := h
  rw [q_r68_n ht] at h5
  exact ⟨fun k _ => rfl, ⟨r, h5, Nat.le_refl _, h6⟩, fun j _ => rfl⟩
theorem c_townLoop (hG : GW N P) (hX : q_TX N P J B s 56) (hct : q_ct J B s 56 0) (h4 : J 56 4 = nI 0) (h5 : J 56 5 = -1) (hS : SR N P (q_r68 J A0) 1 0) (hn : 600 < zn) : ∃ zt : Int32 × pI, p_it (B_X10_read_48 zn N P 55 1) zn (nI 0, J) = some zt ∧ ∃ l F Q, q_out B s A0 l F Q ∧ (F = nI 0 → zt.1 = nI l ∧ SR N P (q_r68 zt.2 (q_stt B s A0 l).2.2.2) 1 0) ∧ zt.2 56 4 = F ∧ zt.2 56 5 = Q ∧ q_f0 J zt.2 ∧ q_tb4 J zt.2 A0 := by
  have hs := hX.2.2.1
  refine p_loopI (B := B_X10_read_48 zn N P 55 1) (zJ := fun c (zc : Int32 × pI) => zc.1 = nI c ∧ (((∀ k, k < c → q_gl B s (q_stt B s A0 k).1) ∧ q_ci N P B s A0 J zc.2 c) ∨ ∃ l Q, q_out B s A0 l (nI 1) Q ∧ zc.2 56 4 = nI 1 ∧ zc.2 56 5 = Q ∧ q_f0 J zc.2 ∧ q_tb4 J zc.2 A0)) (zE := fun (zt : Int32 × pI) => ∃ l F Q, q_out B s A0 l F Q ∧ (F = nI 0 → zt.1 = nI l ∧ SR N P (q_r68 zt.2 (q_stt B s A0 l).2.2.2) 1 0) ∧ zt.2 56 4 = F ∧ zt.2 56 5 = Q ∧ q_f0 J zt.2 ∧ q_tb4 J zt.2 A0) (zm := 64) (zn := zn) (by omega) ?_ ?_ (nI 0, J) ⟨rfl, Or.inl ⟨fun k hk => absurd hk (by omega), fun x _ _ _ _ => rfl, hct, h4, h5, fun _ => hS, q_tb1.rf hS.rw.2.1 (by decide), q_tb1.rf hS.rs.2.1 (by decide), q_tb1.rf hS.ri.2.1 (by decide), q_tb1.rf hS.rn.2.1 (by decide)⟩⟩
  · rintro c hc ⟨zi, K⟩ ⟨m1, m2⟩
    dsimp only at m1 m2
    subst m1
    have a1 : ¬ nI 500 ≤ nI c := nI_ge (by omega) (by omega)
    rcases m2 with ⟨m2, m3⟩ | ⟨l, Q, m2, m3, m4, m5, m6⟩
    · have hpos := q_stt_b hs m2
      have hk4 := q_tk_b (B := B) hpos.2
      have hci := m3
      obtain ⟨c1, c2, c3, c4, c5, c6⟩ := m3
      by_cases hk0 : q_tk B s (q_stt B s A0 c).1 = 0
      · right
        have hgo : f_X9_goOn K 56 = some (nI 0) := by
          unfold f_X9_goOn
          rw [c2.1, hk0, if_pos (show nI 0 = 0 from rfl)]
        refine ⟨(nI c, K), ⟨c, _, _, ⟨m2, Or.inl ⟨hk0, rfl, rfl⟩⟩, fun h => ⟨rfl, c5 h⟩, c3, c4, c1, c6⟩, fun zrec => ?_⟩
        unfold B_X10_read_48
        simp only [if_neg a1, gp_55_0 hG, Option.bind_some, hgo, if_pos (show nI 0 = 0 from rfl)]
      · left
        have hgo : f_X9_goOn K 56 = some (nI 1) := by
          unfold f_X9_goOn
          rw [c2.1, if_neg (nI_ne0 (by omega) (by omega)), c3, if_neg q_stt_1]
        have hXK : q_TX N P K B s 56 := hX.to (c1 2 (by decide) (by decide) (by decide) (by decide)) (c1 3 (by decide) (by decide) (by decide) (by decide))
        obtain ⟨t, t1, t2⟩ := c_readLine hG hXK hpos.2 c2 (fun h => c5 (c3.symm.trans h)) hn
        refine ⟨(nI (c + 1), t), ⟨rfl, ?_⟩, fun zrec => ?_⟩
        · by_cases hg : q_gl B s (q_stt B s A0 c).1
          · left
            refine ⟨fun k hk => ?_, q_ci_s hci t2 hg⟩
            by_cases e : k = c
            · rw [e]; exact hg
            · exact m2 k (by omega)
          · right
            rcases t2 with ⟨d, d1, d2, d3, d4⟩ | ⟨d1, _⟩
            · exact ⟨c, _, ⟨m2, Or.inr ⟨hk0, d, d1, rfl, rfl⟩⟩, d2, d3, fun x x1 x2 x3 x4 => by dsimp only; rw [d4 x x1 x2 x3]; exact c1 x x1 x2 x3 x4, c6.to (fun x x1 x2 => d4 x (by omega) (by omega) (by omega))⟩
            · exact absurd d1 hg
        · unfold B_X10_read_48
          simp only [if_neg a1, gp_55_0 hG, Option.bind_some, hgo, if_neg (show ¬ nI 1 = 0 by decide), t1, nI_add]
    · right
      have hgo : f_X9_goOn K 56 = some (nI 0) := by
        unfold f_X9_goOn
        rw [m3, if_pos rfl]
        split <;> rfl
      refine ⟨(nI c, K), ⟨l, _, _, m2, fun h => absurd h (by decide), m3, m4, m5, m6⟩, fun zrec => ?_⟩
      unfold B_X10_read_48
      simp only [if_neg a1, gp_55_0 hG, Option.bind_some, hgo, if_pos (show nI 0 = 0 from rfl)]
  · rintro ⟨zi, K⟩ ⟨m1, m2⟩
    dsimp only at m1 m2
    subst m1
    rcases m2 with ⟨m2, m3⟩ | ⟨l, Q, m2, m3, m4, m5, m6⟩
    · have hpos := q_stt_b hs m2
      omega
    · have a1 : ¬ nI 500 ≤ nI 64 := nI_ge (by omega) (by omega)
      have hgo : f_X9_goOn K 56 = some (nI 0) := by
        unfold f_X9_goOn
        rw [m3, if_pos rfl]
        split <;> rfl
      refine ⟨(nI 64, K), ⟨l, _, _, m2, fun h => absurd h (by decide), m3, m4, m5, m6⟩, fun zrec => ?_⟩
      unfold B_X10_read_48
      simp only [if_neg a1, gp_55_0 hG, Option.bind_some, hgo, if_pos (show nI 0 = 0 from rfl)]
theorem TB.back {V : pI} {t c m wd r : Nat} (h : TB N P (q_r68 J A0) t c m wd r) (ht : t ≠ 68) (e : ∀ k, k ≠ 3 → V t k = J t k) (e3 : V t 3 = nI r) : TB N P (q_r68 V A0) t c m wd r := by
  obtain ⟨h1, h2, h3, h4, h5, h6, h7⟩ := h
  rw [q_r68_n ht] at h3 h4
  exact ⟨h1, h2, by rw [q_r68_n ht, e 0 (by decide)]; exact h3, by rw [q_r68_n ht, e 1 (by decide)]; exact h4, by rw [q_r68_n ht]; exact e3, h6, h7⟩
/-- the rows that came are cut off again -/
theorem SR.back {V : pI} (hS : SR N P (q_r68 J A0) 1 0) (hf : ∀ x, (x < 4 ∨ 11 < x) → x < 20 → V x = J x) (hb : q_tb4 J K A0) (h1 : ∀ t, t = 4 ∨ t = 6 ∨ t = 8 ∨ t = 10 → (∀ k, k ≠ 3 → V t k = K t k) ∧ V (t + 1) = K (t + 1)) (v4 : V 4 3 = nI (nv (A0 0))) (v6 : V 6 3 = nI (nv (A0 1))) (v8 : V 8 3 = nI (nv (A0 2))) (v10 : V 10 3 = nI (nv (A0 3))) : SR N P (q_r68 V A0) 1 0 := by
  have c4 : ∀ k, k ≠ 3 → V 4 k = J 4 k := fun k hk => by rw [(h1 4 (by omega)).1 k hk, hb.1.1 k hk]
  have c6 : ∀ k, k ≠ 3 → V 6 k = J 6 k := fun k hk => by rw [(h1 6 (by omega)).1 k hk, hb.2.1.1 k hk]
  have c8 : ∀ k, k ≠ 3 → V 8 k = J 8 k := fun k hk => by rw [(h1 8 (by omega)).1 k hk, hb.2.2.1.1 k hk]
  have c10 : ∀ k, k ≠ 3 → V 10 k = J 10 k := fun k hk => by rw [(h1 10 (by omega)).1 k hk, hb.2.2.2.1 k hk]
  have d5 : ∀ j, j < nv (A0 0) * 7 → V 5 j = J 5 j := fun j hj => by rw [(h1 4 (by omega)).2, hb.1.2.2 j hj]
  have d7 : ∀ j, j < nv (A0 1) * 8 → V 7 j = J 7 j := fun j hj => by rw [(h1 6 (by omega)).2, hb.2.1.2.2 j hj]
  have d9 : ∀ j, j < nv (A0 2) * 4 → V 9 j = J 9 j := fun j hj => by rw [(h1 8 (by omega)).2, hb.2.2.1.2.2 j hj]
  have d11 : ∀ j, j < nv (A0 3) * 2 → V 11 j = J 11 j := fun j hj => by rw [(h1 10 (by omega)).2, hb.2.2.2.2.2 j hj]
  have e1 : ∀ zq, (zq < 4 ∨ 11 < zq) → zq < 20 → q_r68 V A0 zq = q_r68 J A0 zq := fun zq x1 x2 => by rw [q_r68_n (by omega), q_r68_n (by omega), hf zq x1 x2]
  have e2 : ∀ zj, q_r68 V A0 68 zj = q_r68 J A0 68 zj := fun zj => by rw [q_r68_s, q_r68_s]
  have w1 := hS.rw
  have w2 := hS.rs
  have w3 := hS.ri
  have w4 := hS.rn
  obtain ⟨s1, s2, s3, s4, s5, s6, s7, s8, s9, s10⟩ := hS
  refine ⟨s1.of (e1 _ (by decide) (by decide)) (e1 _ (by decide) (by decide)) (e2 _) (fun zk a b => e2 _), ⟨w1.1, w1.2.1.back (by decide) c4 v4, fun zw hw => ⟨fun zk hk => ?_, (w1.2.2 zw hw).2⟩⟩, ⟨w2.1, w2.2.1.back (by decide) c6 v6, fun zw hw => ⟨fun zk hk => ?_, ?_, (w2.2.2 zw hw).2.2⟩⟩, ⟨w3.1, w3.2.1.back (by decide) c8 v8, fun zw hw => ⟨fun zk hk => ?_, (w3.2.2 zw hw).2⟩⟩, ⟨w4.1, w4.2.1.back (by decide) c10 v10, fun zw hw zk hk => ⟨?_, (w4.2.2 zw hw zk hk).2⟩⟩, s6.of (e1 _ (by decide) (by decide)) (e1 _ (by decide) (by decide)) (fun zk a b => e2 _), s7.of (e1 _ (by decide) (by decide)) (e1 _ (by decide) (by decide)) (fun zk a b => e2 _), s8.of (e1 _ (by decide) (by decide)) (e1 _ (by decide) (by decide)) (e2 _) (fun zk a b => e2 _), s9.of (e1 _ (by decide) (by decide)) (e1 _ (by decide) (by decide)) (e2 _) (fun zk a b => e2 _), s10.of (e1 _ (by decide) (by decide)) (e2 _) (e2 _) (e2 _) (e2 _)⟩
  · have hw : zw < nv (A0 0) := hw
    show V 5 (zw * 7 + zk) = _
    rw [d5 _ (by omega)]; exact (w1.2.2 zw hw).1 zk hk
  · have hw : zw < nv (A0 1) := hw
    show V 7 (zw * 8 + zk) = _
    rw [d7 _ (by omega)]; exact (w2.2.2 zw hw).1 zk hk
  · have hw : zw < nv (A0 1) := hw
    show _ ∨ V 7 (zw * 8 + 7) = _
    rw [d7 _ (by omega)]; exact (w2.2.2 zw hw).2.1
  · have hw : zw < nv (A0 2) := hw
    show V 9 (zw * 4 + zk) = _
    rw [d9 _ (by omega)]; exact (w3.2.2 zw hw).1 zk hk
  · have hw : zw < nv (A0 3) := hw
    show V 11 (zw * 2 + zk) = _
    rw [d11 _ (by omega)]; exact (w4.2.2 zw hw zk hk).1
end CTown2
