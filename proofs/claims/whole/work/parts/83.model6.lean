/-! the reference: ways round corners, all ways -/
theorem q_dsq : ∀ zi, zi < 21 → ∀ zj, zj < 21 → (nI zi - nI zj).toInt64 * (nI zi - nI zj).toInt64 = lN ((zi - zj) * (zi - zj) + (zj - zi) * (zj - zi)) := by decide +kernel
theorem q_dsqb : ∀ zi, zi < 21 → ∀ zj, zj < 21 → (zi - zj) * (zi - zj) + (zj - zi) * (zj - zi) ≤ 400 := by decide +kernel
theorem q_sqN {x1 y1 x2 y2 : Int32} (h1 : rg x1 20) (h2 : rg y1 20) (h3 : rg x2 20) (h4 : rg y2 20) : ∃ zs : Nat, zs ≤ 800 ∧ q_sq (x1 - x2).toInt64 (y1 - y2).toInt64 = lN zs := by
  have e1 := q_dsq (nv x1) (by have := h1.2; omega) (nv x2) (by have := h3.2; omega)
  have e2 := q_dsq (nv y1) (by have := h2.2; omega) (nv y2) (by have := h4.2; omega)
  have b1 := q_dsqb (nv x1) (by have := h1.2; omega) (nv x2) (by have := h3.2; omega)
  have b2 := q_dsqb (nv y1) (by have := h2.2; omega) (nv y2) (by have := h4.2; omega)
  rw [← h1.1, ← h3.1] at e1
  rw [← h2.1, ← h4.1] at e2
  refine ⟨_, ?_, by unfold q_sq; rw [e1, e2, lN_add]⟩
  omega
/-- the root of a long -/
def q_r64 (x : Int64) : Int64 := lN (q_rt x.toInt.toNat)
theorem q_r64_N {zv : Nat} (hv : zv < 2 ^ 63) : q_r64 (lN zv) = lN (q_rt zv) := by
  unfold q_r64
  rw [pk_lT hv]
  rfl
/-- the way round an end of a wall, if there is one -/
def q_C (T : Nat → Int32) (fx fy pw tx ty : Int32) (w e : Nat) : List qW :=
  if (q_w T w (2 * e) = fx ∧ q_w T w (2 * e + 1) = fy) ∨ (q_w T w (2 * e) = tx ∧ q_w T w (2 * e + 1) = ty) ∨ q_ea T (q_w T w (2 * e)) (q_w T w (2 * e + 1)) w = true then []
  else q_add [] (nI 3) (nI w) (nI e) (q_sq (q_w T w (2 * e) - fx).toInt64 (q_w T w (2 * e + 1) - fy).toInt64) (q_sq (q_w T w (2 * e) - tx).toInt64 (q_w T w (2 * e + 1) - ty).toInt64) (q_leg T ((q_w T w (2 * e)).toInt64, (q_w T w (2 * e + 1)).toInt64, 1) (tx.toInt64, ty.toInt64, 1) (q_leg T (fx.toInt64, fy.toInt64, 1) ((q_w T w (2 * e)).toInt64, (q_w T w (2 * e + 1)).toInt64, 1) (q_beg pw (q_sq (q_w T w (2 * e) - fx).toInt64 (q_w T w (2 * e + 1) - fy).toInt64 + q_sq (q_w T w (2 * e) - tx).toInt64 (q_w T w (2 * e + 1) - ty).toInt64 + 2 * q_r64 (q_sq (q_w T w (2 * e) - fx).toInt64 (q_w T w (2 * e + 1) - fy).toInt64 * q_sq (q_w T w (2 * e) - tx).toInt64 (q_w T w (2 * e + 1) - ty).toInt64)) * (T 12).toInt64 / 100, false)))
/-- the ends of walls lie within the town -/
def q_wf2 (T : Nat → Int32) : Prop := ∀ zw, zw < nv (T 0) → ∀ zk, zk < 4 → rg (q_w T zw zk) 20
section Model6
variable {N : pN} {P : pR} {I : pI} {L : pL} {T : Nat → Int32} {fx fy pw tx ty : Int32}
theorem m_byCorner (hG : GW N P) (hwf : q_wf4 T) (hwf2 : q_wf2 T) (hf1 : rg fx 20) (hf2 : rg fy 20) (ht1 : rg tx 20) (ht2 : rg ty 20) {zn : Nat} (hn : 15 < zn) (hs : q_ms I T fx fy pw tx ty) {l : List qW} (hM : q_MR I l) (hlen : l.length < 200) {zw ze : Nat} (hw : zw < nv (T 0)) (he : ze < 2) : ∃ J K, f_X12_byCorner zn N I L P 67 (nI zw) (nI ze) = some (J, K) ∧ q_MR J (l ++ q_C T fx fy pw tx ty zw ze) ∧ q_mFr I J ∧ ∀ zq, zq ≠ 67 → K zq = L zq := by
  have h12 : zw < 12 := by have := hwf.1.2; omega
  obtain ⟨hT, s14, s15, s16, s17, s18⟩ := id hs
  have r1 := hwf2 zw hw (2 * ze) (by omega)
  have r2 := hwf2 zw hw (2 * ze + 1) (by omega)
  obtain ⟨za, ha1, ha2⟩ := q_sqN r1 r2 hf1 hf2
  obtain ⟨zb, hb1, hb2⟩ := q_sqN r1 r2 ht1 ht2
  have hab : za * zb ≤ 800 * 800 := Nat.mul_le_mul ha1 hb1
  have e0 : nI 2 * nI ze = nI (2 * ze) := pk_mul 2 ze
  have e1 : nI 2 * nI ze + nI 1 = nI (2 * ze + 1) := by rw [e0, nI_add]
  unfold f_X12_byCorner
  rw [e1, e0, m_wallOfT hG hT h12 (by omega), Option.bind_some, m_wallOfT hG hT h12 (by omega), Option.bind_some]
  unfold q_C
  generalize q_w T zw (2 * ze) = zx at r1 ha2 hb2
  generalize q_w T zw (2 * ze + 1) = zy at r2 ha2 hb2
  have h55 : ¬ (zx = fx ∧ zy = fy) → ¬ (zx = tx ∧ zy = ty) → ∃ J K, J_X12_byCorner_55 zn N I L P 67 (nI zw) (nI ze) zx zy = some (J, K) ∧ q_MR J (l ++ (if (zx = fx ∧ zy = fy) ∨ (zx = tx ∧ zy = ty) ∨ q_ea T zx zy zw = true then [] else q_add [] (nI 3) (nI zw) (nI ze) (q_sq (zx - fx).toInt64 (zy - fy).toInt64) (q_sq (zx - tx).toInt64 (zy - ty).toInt64) (q_leg T (zx.toInt64, zy.toInt64, 1) (tx.toInt64, ty.toInt64, 1) (q_leg T (fx.toInt64, fy.toInt64, 1) (zx.toInt64, zy.toInt64, 1) (q_beg pw (q_sq (zx - fx).toInt64 (zy - fy).toInt64 + q_sq (zx - tx).toInt64 (zy - ty).toInt64 + 2 * q_r64 (q_sq (zx - fx).toInt64 (zy - fy).toInt64 * q_sq (zx - tx).toInt64 (zy - ty).toInt64)) * (T 12).toInt64 / 100, false))))) ∧ q_mFr I J ∧ ∀ zq, zq ≠ 67 → K zq = L zq := by
    intro n1 n2
    unfold J_X12_byCorner_55
    rw [m_isEndAhead hG hT hwf.1.2 hw (by omega), Option.bind_some]
    cases hea : q_ea T zx zy zw with
    | true =>
      rw [bI_ift]
      refine ⟨I, L, rfl, ?_, q_mFr.rf, fun _ _ => rfl⟩
      rw [if_pos (Or.inr (Or.inr rfl)), List.append_nil]
      exact hM
    | false =>
      rw [bI_iff, s14, s15, s16, s17, m_squares, Option.bind_some, m_squares, Option.bind_some, ha2, hb2, lN_mul, m_root (by omega) (by omega), Option.bind_some, m_begins, Option.bind_some, s18, q_r64_N (by omega)]
      dsimp only
      rw [if_neg (fun hz => hz.elim n1 (fun hz2 => hz2.elim n2 (fun hz3 => by cases hz3)))]
      generalize q_beg pw (lN za + lN zb + 2 * lN (q_rt (za * zb))) = zg
      have hs1 : q_ms (p_u I 67 6 (bI false)) T fx fy pw tx ty := hs.fr q_mFr.b
      have hc12 : Int32.toNatClampNeg (nI 12) = 12 := by decide
      have e12 : p_u I 67 6 (bI false) 68 12 = T 12 := by rw [hs1.1]
      rw [gp_67_0 hG, Option.bind_some, n_ck (ib_68 hG (by decide)), hc12, e12, m_weakens, Option.bind_some, p_u_self, p_u_u, hs1.2.1, hs1.2.2.1]
      obtain ⟨I1, L1, g1, g2, g3, g4, g5, g6⟩ := m_legS (L := p_u L 67 5 (zg * (T 12).toInt64 / 100)) (ax := fx.toInt64) (ay := fy.toInt64) (ap := 1) (bx := zx.toInt64) (cy := zy.toInt64) (cp := 1) (zs := (zg * (T 12).toInt64 / 100, false)) hG hwf (zn := zn) (by omega) hs1 p_u_self p_u_self
      rw [g1, Option.bind_some]
      dsimp only
      have hs2 := hs1.fr g4
      rw [hs2.2.2.2.1, hs2.2.2.2.2.1]
      obtain ⟨I2, L2, i1, i2, i3, i4, i5, i6⟩ := m_legS (ax := zx.toInt64) (ay := zy.toInt64) (ap := 1) (bx := tx.toInt64) (cy := ty.toInt64) (cp := 1) hG hwf (zn := zn) (by omega) hs2 g2 g3
      rw [i1, Option.bind_some]
      dsimp only
      obtain ⟨I3, k1, k2, k3⟩ := m_adds (k1 := nI 3) (f1 := nI zw) (g1 := nI ze) (a1 := lN za) (c1 := lN zb) hG (i5 l (g5 l hM.b)) hlen i2 i3
      rw [k1, Option.bind_some]
      refine ⟨I3, L2, rfl, ?_, ((q_mFr.b.tr g4).tr i4).tr k3, fun zq hq => ?_⟩
      · rw [← q_add_nil]
        exact k2
      · rw [i6 zq hq, g6 zq hq, p_u_ne hq]
  have h38 : ¬ (zx = fx ∧ zy = fy) → ∃ J K, J_X12_byCorner_38 zn N I L P zy zx 67 (nI zw) (nI ze) = some (J, K) ∧ q_MR J (l ++ (if (zx = fx ∧ zy = fy) ∨ (zx = tx ∧ zy = ty) ∨ q_ea T zx zy zw = true then [] else q_add [] (nI 3) (nI zw) (nI ze) (q_sq (zx - fx).toInt64 (zy - fy).toInt64) (q_sq (zx - tx).toInt64 (zy - ty).toInt64) (q_leg T (zx.toInt64, zy.toInt64, 1) (tx.toInt64, ty.toInt64, 1) (q_leg T (fx.toInt64, fy.toInt64, 1) (zx.toInt64, zy.toInt64, 1) (q_beg pw (q_sq (zx - fx).toInt64 (zy - fy).toInt64 + q_sq (zx - tx).toInt64 (zy - ty).toInt64 + 2 * q_r64 (q_sq (zx - fx).toInt64 (zy - fy).toInt64 * q_sq (zx - tx).toInt64 (zy - ty).toInt64)) * (T 12).toInt64 / 100, false))))) ∧ q_mFr I J ∧ ∀ zq, zq ≠ 67 → K zq = L zq := by
    intro n1
    unfold J_X12_byCorner_38
    rw [s16, s17]
    by_cases c1 : zx = tx
    · rw [if_pos c1]
      by_cases c2 : zy = ty
      · rw [if_pos c2]
        refine ⟨I, L, rfl, ?_, q_mFr.rf, fun _ _ => rfl⟩
        rw [if_pos (Or.inr (Or.inl ⟨c1, c2⟩)), List.append_nil]
        exact hM
      · rw [if_neg c2]
        exact h55 n1 (fun h => c2 h.2)
    · rw [if_neg c1]
      exact h55 n1 (fun h => c1 h.1)
  rw [s14, s15]
  by_cases c1 : zx = fx
  · rw [if_pos c1]
    by_cases c2 : zy = fy
    · rw [if_pos c2]
      refine ⟨I, L, rfl, ?_, q_mFr.rf, fun _ _ => rfl⟩
      rw [if_pos (Or.inl ⟨c1, c2⟩), List.append_nil]
      exact hM
    · rw [if_neg c2]
      exact h38 (fun h => c2 h.2)
  · rw [if_neg c1]
    exact h38 (fun h => c1 h.1)
end Model6
