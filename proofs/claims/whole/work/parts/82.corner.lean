/-! the class's root; the reference's corners -/
theorem c_rootOf {zv zn : Nat} (hv : zv < 2 ^ 31) (hn : 16 < zn) : f_X2_rootOf zn (nI zv) = some (nI (q_rt zv)) := by
  have hloop := p_loopI (B := B_X2_rootOf_5 (nI zv)) (zJ := fun zk (zs : Int32 × Int32) => ∃ zr zb zc : Nat, zs = (nI zr, nI zb) ∧ zc = 2 ^ (16 - zk) ∧ zb = zc / 2 ∧ zr * zr ≤ zv ∧ zv < (zr + zc) * (zr + zc) ∧ zr + zc ≤ 65536) (zE := fun zt => zt = nI (q_rt zv)) (zm := 16) (zn := zn) hn ?_ ?_ (nI 0, nI 32768) ⟨0, 32768, 65536, rfl, by decide, by decide, by omega, by omega, by decide⟩
  · obtain ⟨zt, ht1, ht2⟩ := hloop
    unfold f_X2_rootOf
    rw [ht1, Option.bind_some, ht2]
  · rintro zk hk zs ⟨zr, zb, zc, e1, e2, e3, e4, e5, e6⟩
    subst e1
    left
    have hpw : 2 ^ (16 - zk) = 2 * 2 ^ (16 - (zk + 1)) := by
      rw [show 16 - zk = (16 - (zk + 1)) + 1 by omega, Nat.pow_succ, Nat.mul_comm]
    generalize hzd : 2 ^ (16 - (zk + 1)) = zd at hpw
    have hd0 : 0 < zd := by rw [← hzd]; exact Nat.two_pow_pos _
    have hzb : zb = zd := by omega
    subst hzb
    have hsq : (zr + zb) * (zr + zb) ≤ 65536 * 65536 := Nat.mul_le_mul (by omega) (by omega)
    have hl1 : (nI zr + nI zb).toInt64 = lN (zr + zb) := by rw [nI_add, nI_l (by omega)]
    have hl2 : (nI zv).toInt64 = lN zv := nI_l hv
    have hsh : nI zb >>> (nI 1 &&& 31) = nI (zb / 2) := pk_shrN (by omega) (nI 1 &&& 31) 1 (by decide)
    have hne : ¬ nI zb ≤ 0 := nI_nle hd0 (by omega)
    by_cases hc : zv < (zr + zb) * (zr + zb)
    · refine ⟨(nI zr, nI (zb / 2)), ⟨zr, zb / 2, zb, rfl, rfl, rfl, e4, hc, by omega⟩, fun zrec => ?_⟩
      unfold B_X2_rootOf_5
      dsimp only
      rw [if_neg hne, n_let, n_let, hl1, hl2, lN_mul, hsh, if_pos ((pk_lLT (by omega) (by omega)).mpr hc)]
    · refine ⟨(nI (zr + zb), nI (zb / 2)), ⟨zr + zb, zb / 2, zb, rfl, rfl, rfl, by omega, ?_, by omega⟩, fun zrec => ?_⟩
      · rw [show zr + zb + zb = zr + zc by omega]; exact e5
      · unfold B_X2_rootOf_5
        dsimp only
        rw [if_neg hne, n_let, n_let, hl1, hl2, lN_mul, hsh, if_neg (fun h => hc ((pk_lLT (by omega) (by omega)).mp h)), nI_add]
  · rintro zs ⟨zr, zb, zc, e1, e2, e3, e4, e5, e6⟩
    subst e1
    have hc1 : zc = 1 := e2
    subst hc1
    have hb0 : zb = 0 := e3
    subst hb0
    refine ⟨nI zr, by rw [← q_rt_un e4 e5], fun zrec => ?_⟩
    unfold B_X2_rootOf_5
    dsimp only
    rw [if_pos (by decide)]
/-- an end of a wall that is seen lies here -/
def q_isE (T : Nat → Int32) (x y : Int32) (v : Nat) : Bool := q_seeW T v && ((decide (q_w T v 0 = x) && decide (q_w T v 1 = y)) || (decide (q_w T v 2 = x) && decide (q_w T v 3 = y)))
def q_ea (T : Nat → Int32) (x y : Int32) (w : Nat) : Bool := q_fold (fun v s => s || q_isE T x y v) w false
section Corner
variable {N : pN} {P : pR} {I : pI} {L : pL} {T : Nat → Int32} {fx fy pw tx ty : Int32}
theorem m_wallOfT (hG : GW N P) (hT : I 68 = T) {zw zk : Nat} (hw : zw < 12) (hk : zk < 7) : f_X12_wallOf N I P 67 (nI zw) (nI zk) = some (q_w T zw zk) := by
  subst hT
  exact m_wallOf hG hw hk
theorem m_isE (hG : GW N P) (hT : I 68 = T) {zv : Nat} (hv : zv < 12) (hv2 : zv < nv (T 0)) {zx zy : Int32} : (Option.bind (f_X12_seesWall N I P 67 (nI zv)) fun q3 => (if q3 = 0 then some (nI 0) else Option.bind (f_X12_wallOf N I P 67 (nI zv) (nI 0)) fun q7 => (if q7 = zx then Option.bind (f_X12_wallOf N I P 67 (nI zv) (nI 1)) fun q18 => (if q18 = zy then some (nI 1) else J_X12_isEndAhead_48 N I P 67 zx zy (nI zv)) else J_X12_isEndAhead_48 N I P 67 zx zy (nI zv)))) = some (bI (q_isE T zx zy zv)) := by
  have hJ : J_X12_isEndAhead_48 N I P 67 zx zy (nI zv) = some (bI (decide (q_w T zv 2 = zx) && decide (q_w T zv 3 = zy))) := by
    unfold J_X12_isEndAhead_48
    rw [m_wallOfT hG hT hv (by decide), Option.bind_some, m_wallOfT hG hT hv (by decide), Option.bind_some]
    by_cases h1 : q_w T zv 2 = zx
    · rw [if_pos h1, decide_eq_true h1]
      by_cases h2 : q_w T zv 3 = zy
      · rw [if_pos h2, decide_eq_true h2]; rfl
      · rw [if_neg h2, decide_eq_false h2]; rfl
    · rw [if_neg h1, decide_eq_false h1]; rfl
  rw [m_seesWallT hG hT hv, Option.bind_some, m_wallOfT hG hT hv (by decide), Option.bind_some, m_wallOfT hG hT hv (by decide), Option.bind_some, hJ]
  unfold q_isE q_seeW
  rw [decide_eq_true hv2]
  cases q_there T (q_w T zv 5) (q_w T zv 6) with
  | false => rw [bI_iff]; rfl
  | true =>
    rw [bI_ift]
    by_cases h1 : q_w T zv 0 = zx
    · rw [if_pos h1, decide_eq_true h1]
      by_cases h2 : q_w T zv 1 = zy
      · rw [if_pos h2, decide_eq_true h2]; rfl
      · rw [if_neg h2, decide_eq_false h2]; simp
    · rw [if_neg h1, decide_eq_false h1]; simp
theorem m_isEndAhead (hG : GW N P) (hT : I 68 = T) (h12 : nv (T 0) ≤ 12) {zw : Nat} (hw : zw < nv (T 0)) {zn : Nat} (hn : 12 < zn) {zx zy : Int32} : f_X12_isEndAhead zn N I P 67 (nI zw) zx zy = some (bI (q_ea T zx zy zw)) := by
  have hloop := p_loopI (B := B_X12_isEndAhead_6 N I P 67 (nI zw) zx zy) (zJ := fun zk (zs : Int32 × Int32) => zs = (bI (q_fold (fun v s => s || q_isE T zx zy v) zk false), nI zk)) (zE := fun zt => zt = bI (q_ea T zx zy zw)) (zm := zw) (zn := zn) (by omega) ?_ ?_ (nI 0, nI 0) rfl
  · obtain ⟨zt, ht1, ht2⟩ := hloop
    unfold f_X12_isEndAhead
    rw [ht1, Option.bind_some, ht2, n_ck (bI_ck _)]
  · rintro zk hk zs e1
    subst e1
    have hc : ¬ nI zw ≤ nI zk := nI_ge hk (by omega)
    cases hf : q_fold (fun v s => s || q_isE T zx zy v) zk false with
    | true =>
      right
      have hmono : ∀ zj, q_fold (fun v s => s || q_isE T zx zy v) (zk + zj) false = true := by
        intro zj
        induction zj with
        | zero => exact hf
        | succ zj ih => show (q_fold (fun v s => s || q_isE T zx zy v) (zk + zj) false || q_isE T zx zy (zk + zj)) = true; rw [ih]; rfl
      have hz := hmono (zw - zk)
      rw [show zk + (zw - zk) = zw by omega] at hz
      refine ⟨bI true, ?_, fun zrec => ?_⟩
      · unfold q_ea; rw [hz]
      · unfold B_X12_isEndAhead_6
        dsimp only
        rw [if_neg hc, bI_ift]
    | false =>
      left
      refine ⟨(bI (q_isE T zx zy zk), nI (zk + 1)), ?_, fun zrec => ?_⟩
      · show _ = (bI (q_fold (fun v s => s || q_isE T zx zy v) zk false || q_isE T zx zy zk), nI (zk + 1))
        rw [hf]; rfl
      · unfold B_X12_isEndAhead_6
        dsimp only
        rw [if_neg hc, bI_iff]
        have h9 := m_isE hG hT (zv := zk) (by omega) (by omega) (zx := zx) (zy := zy)
        rw [m_seesWallT hG hT (by omega), Option.bind_some] at h9 ⊢
        rw [h9, Option.bind_some, nI_add]
  · rintro zs e1
    subst e1
    refine ⟨_, rfl, fun zrec => ?_⟩
    unfold B_X12_isEndAhead_6
    dsimp only
    rw [if_pos (Int32.le_refl _)]
    rfl
end Corner
