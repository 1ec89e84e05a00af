/-! the law's cases -/
def mL (nm : String) : pM := (⟨RL, nm, "([I)Z"⟩, cL_law, 4, some .boolean)
def lw_Qr : pQ := fun r _ _ _ _ => r = some (.int 1)
def lw_c (k : Nat) : Nat := 86 + 19 * k
def lw_s (k : Nat) : Nat := 29808 + 9949 * k
theorem lw_cs {k : Nat} (h : k < 512) : lw_c k + 0 ≤ room_1.cells ∧ lw_s k + 0 ≤ room_1.slots := by
  unfold lw_c lw_s
  constructor
  · show _ ≤ 600000; omega
  · show _ ≤ 7302250; omega
theorem lw_csI {k : Nat} (h : k < 512) : lw_c k + 19 ≤ room_1.cells ∧ lw_s k + 9949 ≤ room_1.slots := by
  unfold lw_c lw_s
  constructor
  · show _ ≤ 600000; omega
  · show _ ≤ 7302250; omega
theorem lw_cu {k : Nat} : lw_c k ≤ lw_c (k + 1) ∧ lw_s k ≤ lw_s (k + 1) := by
  unfold lw_c lw_s
  constructor <;> omega
theorem lw_cuI {k : Nat} : lw_c k + 19 + 0 ≤ lw_c (k + 1) ∧ lw_s k + 9949 + 0 ≤ lw_s (k + 1) := by
  unfold lw_c lw_s
  constructor <;> omega
theorem lw_cs2I {k : Nat} (h : k < 512) : lw_c k + 19 + 0 ≤ room_1.cells ∧ lw_s k + 9949 + 0 ≤ room_1.slots := lw_csI h
theorem lw_nat {k c : Nat} (h : k < 512) (hc : c < 7) : (nI (7 * k) + nI c).toNatClampNeg = 7 * k + c ∧ ¬ (nI (7 * k) + nI c) < 0 := by
  have e : nI (7 * k) + nI c = nI (7 * k + c) := (Int32.ofNat_add (7 * k) c).symm
  have e2 : (nI (7 * k + c)).toInt = ((7 * k + c : Nat) : Int) := Int32.toInt_ofNat_of_lt (by omega)
  rw [e]
  refine ⟨?_, fun h2 => ?_⟩
  · show (nI (7 * k + c)).toInt.toNat = 7 * k + c
    rw [e2]
    omega
  · have h3 := Int32.lt_iff_toInt_lt.mp h2
    rw [e2] at h3
    have h4 : (0 : Int32).toInt = 0 := rfl
    omega
theorem lw_in {G : pG} {k c : Nat} (h : k < 512) (hk : 7 * k + 7 ≤ g_n G) (hc : c < 7) : vp_in (nI (7 * k) + nI c) (g_n G) := by
  obtain ⟨h1, h2⟩ := lw_nat (c := c) h hc
  intro h3
  rcases h3 with h3 | h3
  · exact h2 h3
  · omega
def Sp_feed (n : Nat) (Iv Jv : pN → pI → pL → pR → Prop) : Prop := ∀ N I L P, Iv N I L P → ∀ (x1 : Int32) (x2 : Int32) (x3 : Int32) (x4 : Int32) (x5 : Int32), ∃ (q1 : Int32 × pI) (q2 : Int32 × pI), f_X11_feed n N I P 0 x1 x2 x3 x4 x5 = some q1 ∧ f_X12_feed n N q1.2 P 67 x1 x2 x3 x4 x5 = some q2 ∧ q1.1 = q2.1 ∧ Jv N q2.2 L P
theorem lc_feed {G : pG} {nm : String} {n k : Nat} {N : pN} {I : pI} {L : pL} {P : pR} {Iv Jv : pN → pI → pL → pR → Prop} (hk2 : k < 512) (hk : 7 * k + 7 ≤ g_n G) (hv : WT N P ∧ p_tp N 0 14 ∧ p_tp N 67 15) (hi : Iv N I L P) (hs : Sp_feed n Iv Jv) (kn : ∀ N I L P, Jv N I L P → SW G (mL nm) room_1 600000 7302250 (lw_c (k + 1)) (lw_s (k + 1)) lw_Qr 1366 [(3, .int (nI (7 * k))), (2, .ref 67), (1, .ref 0), (0, .ref 1000050)] [] N I L P) : SW G (mL nm) room_1 600000 7302250 (lw_c k) (lw_s k) lw_Qr 192 [(3, .int (nI (7 * k))), (2, .ref 67), (1, .ref 0), (0, .ref 1000050)] [] N I L P := by
  obtain ⟨q1, q2, h1, h2, hr, hJ⟩ := hs N I L P hi (g_x G (Int32.toNatClampNeg (nI (7 * k) + 1))) (g_x G (Int32.toNatClampNeg (nI (7 * k) + 2))) (g_x G (Int32.toNatClampNeg (nI (7 * k) + 3))) (g_x G (Int32.toNatClampNeg (nI (7 * k) + 4))) (g_x G (Int32.toNatClampNeg (nI (7 * k) + 5)))
  refine s_aload_n (pc := 192) dL_law_192 2 rfl rfl ?_
  refine s_aload_n (pc := 193) dL_law_193 3 rfl rfl ?_
  refine s_iload_n (pc := 194) dL_law_194 0 rfl rfl ?_
  refine s_iconst (pc := 195) dL_law_195 (v := 1) rfl ?_
  refine s_iadd (pc := 196) dL_law_196 ?_
  refine s_xld (pc := 197) dL_law_197 (lw_in (c := 1) hk2 hk (by decide)) ?_
  refine s_aload_n (pc := 198) dL_law_198 3 rfl rfl ?_
  refine s_iload_n (pc := 199) dL_law_199 0 rfl rfl ?_
  refine s_iconst (pc := 200) dL_law_200 (v := 2) rfl ?_
  refine s_iadd (pc := 201) dL_law_201 ?_
  refine s_xld (pc := 202) dL_law_202 (lw_in (c := 2) hk2 hk (by decide)) ?_
  refine s_aload_n (pc := 203) dL_law_203 3 rfl rfl ?_
  refine s_iload_n (pc := 204) dL_law_204 0 rfl rfl ?_
  refine s_iconst (pc := 205) dL_law_205 (v := 3) rfl ?_
  refine s_iadd (pc := 206) dL_law_206 ?_
  refine s_xld (pc := 207) dL_law_207 (lw_in (c := 3) hk2 hk (by decide)) ?_
  refine s_aload_n (pc := 208) dL_law_208 3 rfl rfl ?_
  refine s_iload_n (pc := 209) dL_law_209 0 rfl rfl ?_
  refine s_iconst (pc := 210) dL_law_210 (v := 4) rfl ?_
  refine s_iadd (pc := 211) dL_law_211 ?_
  refine s_xld (pc := 212) dL_law_212 (lw_in (c := 4) hk2 hk (by decide)) ?_
  refine s_aload_n (pc := 213) dL_law_213 3 rfl rfl ?_
  refine s_iload_n (pc := 214) dL_law_214 0 rfl rfl ?_
  refine s_iconst (pc := 215) dL_law_215 (v := 5) rfl ?_
  refine s_iadd (pc := 216) dL_law_216 ?_
  refine s_xld (pc := 217) dL_law_217 (lw_in (c := 5) hk2 hk (by decide)) ?_
  refine x_callV (pc := 218) (ci := 11) (d := 20) (mc' := 0) (ms' := 0) dL_law_218 (c_X11_feed (d := 20) (by decide) hv.1 hv.2.1 h1) mk_X11_feed mv_X11_feed ml_L_13 rfl rfl (Nat.le_of_ble_eq_true rfl) hv.2.1 rfl ⟨by decide, by decide⟩ (lw_cs hk2) ?_
  have hw2 := hv.1
  have ht2 := hv.2.2
  refine s_aload_n (pc := 221) dL_law_221 1 rfl rfl ?_
  refine s_aload_n (pc := 222) dL_law_222 3 rfl rfl ?_
  refine s_iload_n (pc := 223) dL_law_223 0 rfl rfl ?_
  refine s_iconst (pc := 224) dL_law_224 (v := 1) rfl ?_
  refine s_iadd (pc := 225) dL_law_225 ?_
  refine s_xld (pc := 226) dL_law_226 (lw_in (c := 1) hk2 hk (by decide)) ?_
  refine s_aload_n (pc := 227) dL_law_227 3 rfl rfl ?_
  refine s_iload_n (pc := 228) dL_law_228 0 rfl rfl ?_
  refine s_iconst (pc := 229) dL_law_229 (v := 2) rfl ?_
  refine s_iadd (pc := 230) dL_law_230 ?_
  refine s_xld (pc := 231) dL_law_231 (lw_in (c := 2) hk2 hk (by decide)) ?_
  refine s_aload_n (pc := 232) dL_law_232 3 rfl rfl ?_
  refine s_iload_n (pc := 233) dL_law_233 0 rfl rfl ?_
  refine s_iconst (pc := 234) dL_law_234 (v := 3) rfl ?_
  refine s_iadd (pc := 235) dL_law_235 ?_
  refine s_xld (pc := 236) dL_law_236 (lw_in (c := 3) hk2 hk (by decide)) ?_
  refine s_aload_n (pc := 237) dL_law_237 3 rfl rfl ?_
  refine s_iload_n (pc := 238) dL_law_238 0 rfl rfl ?_
  refine s_iconst (pc := 239) dL_law_239 (v := 4) rfl ?_
  refine s_iadd (pc := 240) dL_law_240 ?_
  refine s_xld (pc := 241) dL_law_241 (lw_in (c := 4) hk2 hk (by decide)) ?_
  refine s_aload_n (pc := 242) dL_law_242 3 rfl rfl ?_
  refine s_iload_n (pc := 243) dL_law_243 0 rfl rfl ?_
  refine s_iconst (pc := 244) dL_law_244 (v := 5) rfl ?_
  refine s_iadd (pc := 245) dL_law_245 ?_
  refine s_xld (pc := 246) dL_law_246 (lw_in (c := 5) hk2 hk (by decide)) ?_
  refine x_callV (pc := 247) (ci := 12) (d := 20) (mc' := 0) (ms' := 0) dL_law_247 (c_X12_feed (d := 20) (by decide) hw2 ht2 h2) mk_X12_feed mv_X12_feed ml_L_17 rfl rfl (Nat.le_of_ble_eq_true rfl) ht2 rfl ⟨by decide, by decide⟩ (lw_cs hk2) ?_
  refine s_icmp_eq (pc := 250) (tgt := 1366) dL_law_250 rfl (fun _ => ?_) (fun hc => absurd hr hc)
  refine s_widen lw_cu.1 lw_cu.2 ?_
  exact kn _ _ _ _ hJ
def Sp_end (n : Nat) (Iv Jv : pN → pI → pL → pR → Prop) : Prop := ∀ N I L P, Iv N I L P → ∀ (x1 : Int32), ∃ (q1 : Int32 × pI) (q2 : Int32 × pI), f_X11_end I P 0 x1 = some q1 ∧ f_X12_end N q1.2 P 67 x1 = some q2 ∧ q1.1 = q2.1 ∧ Jv N q2.2 L P
theorem lc_end {G : pG} {nm : String} {n k : Nat} {N : pN} {I : pI} {L : pL} {P : pR} {Iv Jv : pN → pI → pL → pR → Prop} (hk2 : k < 512) (hk : 7 * k + 7 ≤ g_n G) (hv : WT N P ∧ p_tp N 0 14 ∧ p_tp N 67 15) (hi : Iv N I L P) (hs : Sp_end n Iv Jv) (kn : ∀ N I L P, Jv N I L P → SW G (mL nm) room_1 600000 7302250 (lw_c (k + 1)) (lw_s (k + 1)) lw_Qr 1366 [(3, .int (nI (7 * k))), (2, .ref 67), (1, .ref 0), (0, .ref 1000050)] [] N I L P) : SW G (mL nm) room_1 600000 7302250 (lw_c k) (lw_s k) lw_Qr 255 [(3, .int (nI (7 * k))), (2, .ref 67), (1, .ref 0), (0, .ref 1000050)] [] N I L P := by
  obtain ⟨q1, q2, h1, h2, hr, hJ⟩ := hs N I L P hi (g_x G (Int32.toNatClampNeg (nI (7 * k) + 1)))
  refine s_aload_n (pc := 255) dL_law_255 2 rfl rfl ?_
  refine s_aload_n (pc := 256) dL_law_256 3 rfl rfl ?_
  refine s_iload_n (pc := 257) dL_law_257 0 rfl rfl ?_
  refine s_iconst (pc := 258) dL_law_258 (v := 1) rfl ?_
  refine s_iadd (pc := 259) dL_law_259 ?_
  refine s_xld (pc := 260) dL_law_260 (lw_in (c := 1) hk2 hk (by decide)) ?_
  refine x_callV (pc := 261) (ci := 11) (d := 20) (mc' := 0) (ms' := 0) dL_law_261 (c_X11_end (d := 20) (by decide) hv.1 hv.2.1 h1) mk_X11_end mv_X11_end ml_L_18 rfl rfl (Nat.le_of_ble_eq_true rfl) hv.2.1 rfl ⟨by decide, by decide⟩ (lw_cs hk2) ?_
  have hw2 := hv.1
  have ht2 := hv.2.2
  refine s_aload_n (pc := 264) dL_law_264 1 rfl rfl ?_
  refine s_aload_n (pc := 265) dL_law_265 3 rfl rfl ?_
  refine s_iload_n (pc := 266) dL_law_266 0 rfl rfl ?_
  refine s_iconst (pc := 267) dL_law_267 (v := 1) rfl ?_
  refine s_iadd (pc := 268) dL_law_268 ?_
  refine s_xld (pc := 269) dL_law_269 (lw_in (c := 1) hk2 hk (by decide)) ?_
  refine x_callV (pc := 270) (ci := 12) (d := 20) (mc' := 0) (ms' := 0) dL_law_270 (c_X12_end (d := 20) (by decide) hw2 ht2 h2) mk_X12_end mv_X12_end ml_L_22 rfl rfl (Nat.le_of_ble_eq_true rfl) ht2 rfl ⟨by decide, by decide⟩ (lw_cs hk2) ?_
  refine s_icmp_eq (pc := 273) (tgt := 1366) dL_law_273 rfl (fun _ => ?_) (fun hc => absurd hr hc)
  refine s_widen lw_cu.1 lw_cu.2 ?_
  exact kn _ _ _ _ hJ
def Sp_town (n : Nat) (Iv Jv : pN → pI → pL → pR → Prop) : Prop := ∀ N I L P, Iv N I L P → ∃ (q1 : Int32 × pI × pR) (q2 : Int32 × pI), f_X11_town n N I P 0 = some q1 ∧ f_X12_town n N q1.2.1 q1.2.2 67 = some q2 ∧ q1.1 = q2.1 ∧ Jv N q2.2 L q1.2.2
theorem lc_town {G : pG} {nm : String} {n k : Nat} {N : pN} {I : pI} {L : pL} {P : pR} {Iv Jv : pN → pI → pL → pR → Prop} (hk2 : k < 512) (hk : 7 * k + 7 ≤ g_n G) (hv : WT N P ∧ p_tp N 0 14 ∧ p_tp N 67 15) (hi : Iv N I L P) (hs : Sp_town n Iv Jv) (kn : ∀ N I L P, Jv N I L P → SW G (mL nm) room_1 600000 7302250 (lw_c (k + 1)) (lw_s (k + 1)) lw_Qr 1366 [(3, .int (nI (7 * k))), (2, .ref 67), (1, .ref 0), (0, .ref 1000050)] [] N I L P) : SW G (mL nm) room_1 600000 7302250 (lw_c k) (lw_s k) lw_Qr 278 [(3, .int (nI (7 * k))), (2, .ref 67), (1, .ref 0), (0, .ref 1000050)] [] N I L P := by
  obtain ⟨q1, q2, h1, h2, hr, hJ⟩ := hs N I L P hi
  refine s_aload_n (pc := 278) dL_law_278 2 rfl rfl ?_
  refine x_callV (pc := 279) (ci := 11) (d := 20) (mc' := 0) (ms' := 0) dL_law_279 (c_X11_town (d := 20) (by decide) hv.1 hv.2.1 h1) mk_X11_town mv_X11_town ml_L_23 rfl rfl (Nat.le_of_ble_eq_true rfl) hv.2.1 rfl ⟨by decide, by decide⟩ (lw_cs hk2) ?_
  have hw2 := w_X11_town hv.1 hv.2.1 h1
  have ht2 := hv.2.2
  refine s_aload_n (pc := 282) dL_law_282 1 rfl rfl ?_
  refine x_callV (pc := 283) (ci := 12) (d := 20) (mc' := 0) (ms' := 0) dL_law_283 (c_X12_town (d := 20) (by decide) hw2 ht2 h2) mk_X12_town mv_X12_town ml_L_27 rfl rfl (Nat.le_of_ble_eq_true rfl) ht2 rfl ⟨by decide, by decide⟩ (lw_cs hk2) ?_
  refine s_icmp_eq (pc := 286) (tgt := 1366) dL_law_286 rfl (fun _ => ?_) (fun hc => absurd hr hc)
  refine s_widen lw_cu.1 lw_cu.2 ?_
  exact kn _ _ _ _ hJ
def Sp_law (n : Nat) (Iv Jv : pN → pI → pL → pR → Prop) : Prop := ∀ N I L P, Iv N I L P → ∃ (q1 : Int32 × pI × pR) (q2 : Int32 × pI), f_X11_law n N I P 0 = some q1 ∧ f_X12_law n N q1.2.1 q1.2.2 67 = some q2 ∧ q1.1 = q2.1 ∧ Jv N q2.2 L q1.2.2
theorem lc_law {G : pG} {nm : String} {n k : Nat} {N : pN} {I : pI} {L : pL} {P : pR} {Iv Jv : pN → pI → pL → pR → Prop} (hk2 : k < 512) (hk : 7 * k + 7 ≤ g_n G) (hv : WT N P ∧ p_tp N 0 14 ∧ p_tp N 67 15) (hi : Iv N I L P) (hs : Sp_law n Iv Jv) (kn : ∀ N I L P, Jv N I L P → SW G (mL nm) room_1 600000 7302250 (lw_c (k + 1)) (lw_s (k + 1)) lw_Qr 1366 [(3, .int (nI (7 * k))), (2, .ref 67), (1, .ref 0), (0, .ref 1000050)] [] N I L P) : SW G (mL nm) room_1 600000 7302250 (lw_c k) (lw_s k) lw_Qr 291 [(3, .int (nI (7 * k))), (2, .ref 67), (1, .ref 0), (0, .ref 1000050)] [] N I L P := by
  obtain ⟨q1, q2, h1, h2, hr, hJ⟩ := hs N I L P hi
  refine s_aload_n (pc := 291) dL_law_291 2 rfl rfl ?_
  refine x_callV (pc := 292) (ci := 11) (d := 20) (mc' := 0) (ms' := 0) dL_law_292 (c_X11_law (d := 20) (by decide) hv.1 hv.2.1 h1) mk_X11_law mv_X11_law ml_L_28 rfl rfl (Nat.le_of_ble_eq_true rfl) hv.2.1 rfl ⟨by decide, by decide⟩ (lw_cs hk2) ?_
  have hw2 := w_X11_law hv.1 hv.2.1 h1
  have ht2 := hv.2.2
  refine s_aload_n (pc := 295) dL_law_295 1 rfl rfl ?_
  refine x_callV (pc := 296) (ci := 12) (d := 20) (mc' := 0) (ms' := 0) dL_law_296 (c_X12_law (d := 20) (by decide) hw2 ht2 h2) mk_X12_law mv_X12_law ml_L_31 rfl rfl (Nat.le_of_ble_eq_true rfl) ht2 rfl ⟨by decide, by decide⟩ (lw_cs hk2) ?_
  refine s_icmp_eq (pc := 299) (tgt := 1366) dL_law_299 rfl (fun _ => ?_) (fun hc => absurd hr hc)
  refine s_widen lw_cu.1 lw_cu.2 ?_
  exact kn _ _ _ _ hJ
def Sp_fault (n : Nat) (Iv Jv : pN → pI → pL → pR → Prop) : Prop := ∀ N I L P, Iv N I L P → ∀ (x1 : Int32), ∃ (q1 : Int32) (q2 : Int32), f_X11_fault I P 0 x1 = some q1 ∧ f_X12_fault N I P 67 x1 = some q2 ∧ q1 = q2 ∧ Jv N I L P
theorem lc_fault {G : pG} {nm : String} {n k : Nat} {N : pN} {I : pI} {L : pL} {P : pR} {Iv Jv : pN → pI → pL → pR → Prop} (hk2 : k < 512) (hk : 7 * k + 7 ≤ g_n G) (hv : WT N P ∧ p_tp N 0 14 ∧ p_tp N 67 15) (hi : Iv N I L P) (hs : Sp_fault n Iv Jv) (kn : ∀ N I L P, Jv N I L P → SW G (mL nm) room_1 600000 7302250 (lw_c (k + 1)) (lw_s (k + 1)) lw_Qr 1366 [(3, .int (nI (7 * k))), (2, .ref 67), (1, .ref 0), (0, .ref 1000050)] [] N I L P) : SW G (mL nm) room_1 600000 7302250 (lw_c k) (lw_s k) lw_Qr 304 [(3, .int (nI (7 * k))), (2, .ref 67), (1, .ref 0), (0, .ref 1000050)] [] N I L P := by
  obtain ⟨q1, q2, h1, h2, hr, hJ⟩ := hs N I L P hi (g_x G (Int32.toNatClampNeg (nI (7 * k) + 1)))
  refine s_aload_n (pc := 304) dL_law_304 2 rfl rfl ?_
  refine s_aload_n (pc := 305) dL_law_305 3 rfl rfl ?_
  refine s_iload_n (pc := 306) dL_law_306 0 rfl rfl ?_
  refine s_iconst (pc := 307) dL_law_307 (v := 1) rfl ?_
  refine s_iadd (pc := 308) dL_law_308 ?_
  refine s_xld (pc := 309) dL_law_309 (lw_in (c := 1) hk2 hk (by decide)) ?_
  refine x_callV (pc := 310) (ci := 11) (d := 20) (mc' := 0) (ms' := 0) dL_law_310 (c_X11_fault (d := 20) (by decide) hv.1 hv.2.1 h1) mk_X11_fault mv_X11_fault ml_L_32 rfl rfl (Nat.le_of_ble_eq_true rfl) hv.2.1 rfl ⟨by decide, by decide⟩ (lw_cs hk2) ?_
  have hw2 := hv.1
  have ht2 := hv.2.2
  refine s_aload_n (pc := 313) dL_law_313 1 rfl rfl ?_
  refine s_aload_n (pc := 314) dL_law_314 3 rfl rfl ?_
  refine s_iload_n (pc := 315) dL_law_315 0 rfl rfl ?_
  refine s_iconst (pc := 316) dL_law_316 (v := 1) rfl ?_
  refine s_iadd (pc := 317) dL_law_317 ?_
  refine s_xld (pc := 318) dL_law_318 (lw_in (c := 1) hk2 hk (by decide)) ?_
  refine x_callV (pc := 319) (ci := 12) (d := 20) (mc' := 0) (ms' := 0) dL_law_319 (c_X12_fault (d := 20) (by decide) hw2 ht2 h2) mk_X12_fault mv_X12_fault ml_L_35 rfl rfl (Nat.le_of_ble_eq_true rfl) ht2 rfl ⟨by decide, by decide⟩ (lw_cs hk2) ?_
  refine s_icmp_eq (pc := 322) (tgt := 1366) dL_law_322 rfl (fun _ => ?_) (fun hc => absurd hr hc)
  refine s_widen lw_cu.1 lw_cu.2 ?_
  exact kn _ _ _ _ hJ
def Sp_day (n : Nat) (Iv Jv : pN → pI → pL → pR → Prop) : Prop := ∀ N I L P, Iv N I L P → ∀ (x1 : Int32), ∃ (q1 : Int32 × pI) (q2 : Int32 × pI), f_X11_day n N I P 0 x1 = some q1 ∧ f_X12_day n N q1.2 P 67 x1 = some q2 ∧ q1.1 = q2.1 ∧ Jv N q2.2 L P
theorem lc_day {G : pG} {nm : String} {n k : Nat} {N : pN} {I : pI} {L : pL} {P : pR} {Iv Jv : pN → pI → pL → pR → Prop} (hk2 : k < 512) (hk : 7 * k + 7 ≤ g_n G) (hv : WT N P ∧ p_tp N 0 14 ∧ p_tp N 67 15) (hi : Iv N I L P) (hs : Sp_day n Iv Jv) (kn : ∀ N I L P, Jv N I L P → SW G (mL nm) room_1 600000 7302250 (lw_c (k + 1)) (lw_s (k + 1)) lw_Qr 1366 [(3, .int (nI (7 * k))), (2, .ref 67), (1, .ref 0), (0, .ref 1000050)] [] N I L P) : SW G (mL nm) room_1 600000 7302250 (lw_c k) (lw_s k) lw_Qr 327 [(3, .int (nI (7 * k))), (2, .ref 67), (1, .ref 0), (0, .ref 1000050)] [] N I L P := by
  obtain ⟨q1, q2, h1, h2, hr, hJ⟩ := hs N I L P hi (g_x G (Int32.toNatClampNeg (nI (7 * k) + 1)))
  refine s_aload_n (pc := 327) dL_law_327 2 rfl rfl ?_
  refine s_aload_n (pc := 328) dL_law_328 3 rfl rfl ?_
  refine s_iload_n (pc := 329) dL_law_329 0 rfl rfl ?_
  refine s_iconst (pc := 330) dL_law_330 (v := 1) rfl ?_
  refine s_iadd (pc := 331) dL_law_331 ?_
  refine s_xld (pc := 332) dL_law_332 (lw_in (c := 1) hk2 hk (by decide)) ?_
  refine x_callV (pc := 333) (ci := 11) (d := 20) (mc' := 0) (ms' := 0) dL_law_333 (c_X11_day (d := 20) (by decide) hv.1 hv.2.1 h1) mk_X11_day mv_X11_day ml_L_36 rfl rfl (Nat.le_of_ble_eq_true rfl) hv.2.1 rfl ⟨by decide, by decide⟩ (lw_cs hk2) ?_
  have hw2 := hv.1
  have ht2 := hv.2.2
  refine s_aload_n (pc := 336) dL_law_336 1 rfl rfl ?_
  refine s_aload_n (pc := 337) dL_law_337 3 rfl rfl ?_
  refine s_iload_n (pc := 338) dL_law_338 0 rfl rfl ?_
  refine s_iconst (pc := 339) dL_law_339 (v := 1) rfl ?_
  refine s_iadd (pc := 340) dL_law_340 ?_
  refine s_xld (pc := 341) dL_law_341 (lw_in (c := 1) hk2 hk (by decide)) ?_
  refine x_callV (pc := 342) (ci := 12) (d := 20) (mc' := 0) (ms' := 0) dL_law_342 (c_X12_day (d := 20) (by decide) hw2 ht2 h2) mk_X12_day mv_X12_day ml_L_40 rfl rfl (Nat.le_of_ble_eq_true rfl) ht2 rfl ⟨by decide, by decide⟩ (lw_cs hk2) ?_
  refine s_icmp_eq (pc := 345) (tgt := 1366) dL_law_345 rfl (fun _ => ?_) (fun hc => absurd hr hc)
  refine s_widen lw_cu.1 lw_cu.2 ?_
  exact kn _ _ _ _ hJ
def Sp_view (n : Nat) (Iv Jv : pN → pI → pL → pR → Prop) : Prop := ∀ N I L P, Iv N I L P → ∀ (x1 : Int32), ∃ (q1 : Int32 × pI) (q2 : Int32 × pI), f_X11_view n N I P 0 x1 = some q1 ∧ f_X12_view n N q1.2 P 67 x1 = some q2 ∧ q1.1 = q2.1 ∧ Jv N q2.2 L P
theorem lc_view {G : pG} {nm : String} {n k : Nat} {N : pN} {I : pI} {L : pL} {P : pR} {Iv Jv : pN → pI → pL → pR → Prop} (hk2 : k < 512) (hk : 7 * k + 7 ≤ g_n G) (hv : WT N P ∧ p_tp N 0 14 ∧ p_tp N 67 15) (hi : Iv N I L P) (hs : Sp_view n Iv Jv) (kn : ∀ N I L P, Jv N I L P → SW G (mL nm) room_1 600000 7302250 (lw_c (k + 1)) (lw_s (k + 1)) lw_Qr 1366 [(3, .int (nI (7 * k))), (2, .ref 67), (1, .ref 0), (0, .ref 1000050)] [] N I L P) : SW G (mL nm) room_1 600000 7302250 (lw_c k) (lw_s k) lw_Qr 350 [(3, .int (nI (7 * k))), (2, .ref 67), (1, .ref 0), (0, .ref 1000050)] [] N I L P := by
  obtain ⟨q1, q2, h1, h2, hr, hJ⟩ := hs N I L P hi (g_x G (Int32.toNatClampNeg (nI (7 * k) + 1)))
  refine s_aload_n (pc := 350) dL_law_350 2 rfl rfl ?_
  refine s_aload_n (pc := 351) dL_law_351 3 rfl rfl ?_
  refine s_iload_n (pc := 352) dL_law_352 0 rfl rfl ?_
  refine s_iconst (pc := 353) dL_law_353 (v := 1) rfl ?_
  refine s_iadd (pc := 354) dL_law_354 ?_
  refine s_xld (pc := 355) dL_law_355 (lw_in (c := 1) hk2 hk (by decide)) ?_
  refine x_callV (pc := 356) (ci := 11) (d := 20) (mc' := 0) (ms' := 0) dL_law_356 (c_X11_view (d := 20) (by decide) hv.1 hv.2.1 h1) mk_X11_view mv_X11_view ml_L_41 rfl rfl (Nat.le_of_ble_eq_true rfl) hv.2.1 rfl ⟨by decide, by decide⟩ (lw_cs hk2) ?_
  have hw2 := hv.1
  have ht2 := hv.2.2
  refine s_aload_n (pc := 359) dL_law_359 1 rfl rfl ?_
  refine s_aload_n (pc := 360) dL_law_360 3 rfl rfl ?_
  refine s_iload_n (pc := 361) dL_law_361 0 rfl rfl ?_
  refine s_iconst (pc := 362) dL_law_362 (v := 1) rfl ?_
  refine s_iadd (pc := 363) dL_law_363 ?_
  refine s_xld (pc := 364) dL_law_364 (lw_in (c := 1) hk2 hk (by decide)) ?_
  refine x_callV (pc := 365) (ci := 12) (d := 20) (mc' := 0) (ms' := 0) dL_law_365 (c_X12_view (d := 20) (by decide) hw2 ht2 h2) mk_X12_view mv_X12_view ml_L_44 rfl rfl (Nat.le_of_ble_eq_true rfl) ht2 rfl ⟨by decide, by decide⟩ (lw_cs hk2) ?_
  refine s_icmp_eq (pc := 368) (tgt := 1366) dL_law_368 rfl (fun _ => ?_) (fun hc => absurd hr hc)
  refine s_widen lw_cu.1 lw_cu.2 ?_
  exact kn _ _ _ _ hJ
def Sp_pull (n : Nat) (Iv Jv : pN → pI → pL → pR → Prop) : Prop := ∀ N I L P, Iv N I L P → ∀ (x1 : Int32) (x2 : Int32), (x1 = 0 ∨ x1 = 1) → ∃ (q1 : Int32 × pI) (q2 : Int32 × pI), f_X11_pull n N I P 0 x1 x2 = some q1 ∧ f_X12_pull n N q1.2 P 67 x1 x2 = some q2 ∧ q1.1 = q2.1 ∧ Jv N q2.2 L P
theorem lc_pull {G : pG} {nm : String} {n k : Nat} {N : pN} {I : pI} {L : pL} {P : pR} {Iv Jv : pN → pI → pL → pR → Prop} (hk2 : k < 512) (hk : 7 * k + 7 ≤ g_n G) (hv : WT N P ∧ p_tp N 0 14 ∧ p_tp N 67 15) (hi : Iv N I L P) (hs : Sp_pull n Iv Jv) (kn : ∀ N I L P, Jv N I L P → SW G (mL nm) room_1 600000 7302250 (lw_c (k + 1)) (lw_s (k + 1)) lw_Qr 1366 [(3, .int (nI (7 * k))), (2, .ref 67), (1, .ref 0), (0, .ref 1000050)] [] N I L P) : SW G (mL nm) room_1 600000 7302250 (lw_c k) (lw_s k) lw_Qr 373 [(3, .int (nI (7 * k))), (2, .ref 67), (1, .ref 0), (0, .ref 1000050)] [] N I L P := by
  by_cases hz : g_x G (Int32.toNatClampNeg (nI (7 * k) + 1)) = 0
  · obtain ⟨q1, q2, h1, h2, hr, hJ⟩ := hs N I L P hi (0 : Int32) (g_x G (Int32.toNatClampNeg (nI (7 * k) + 2))) (Or.inl rfl)
    refine s_aload_n (pc := 373) dL_law_373 2 rfl rfl ?_
    refine s_aload_n (pc := 374) dL_law_374 3 rfl rfl ?_
    refine s_iload_n (pc := 375) dL_law_375 0 rfl rfl ?_
    refine s_iconst (pc := 376) dL_law_376 (v := 1) rfl ?_
    refine s_iadd (pc := 377) dL_law_377 ?_
    refine s_xld (pc := 378) dL_law_378 (lw_in (c := 1) hk2 hk (by decide)) ?_
    refine s_if_eq (pc := 379) (tgt := 386) dL_law_379 rfl (fun _ => ?_) (fun hc => absurd hz hc)
    refine s_iconst (pc := 386) dL_law_386 (v := 0) rfl ?_
    refine s_aload_n (pc := 387) dL_law_387 3 rfl rfl ?_
    refine s_iload_n (pc := 388) dL_law_388 0 rfl rfl ?_
    refine s_iconst (pc := 389) dL_law_389 (v := 2) rfl ?_
    refine s_iadd (pc := 390) dL_law_390 ?_
    refine s_xld (pc := 391) dL_law_391 (lw_in (c := 2) hk2 hk (by decide)) ?_
    refine x_callV (pc := 392) (ci := 11) (d := 20) (mc' := 0) (ms' := 0) dL_law_392 (c_X11_pull (d := 20) (by decide) hv.1 hv.2.1 h1) mk_X11_pull mv_X11_pull ml_L_45 rfl rfl (Nat.le_of_ble_eq_true rfl) hv.2.1 rfl ⟨by decide, by decide⟩ (lw_cs hk2) ?_
    have hw2 := hv.1
    have ht2 := hv.2.2
    refine s_aload_n (pc := 395) dL_law_395 1 rfl rfl ?_
    refine s_aload_n (pc := 396) dL_law_396 3 rfl rfl ?_
    refine s_iload_n (pc := 397) dL_law_397 0 rfl rfl ?_
    refine s_iconst (pc := 398) dL_law_398 (v := 1) rfl ?_
    refine s_iadd (pc := 399) dL_law_399 ?_
    refine s_xld (pc := 400) dL_law_400 (lw_in (c := 1) hk2 hk (by decide)) ?_
    refine s_if_eq (pc := 401) (tgt := 408) dL_law_401 rfl (fun _ => ?_) (fun hc => absurd hz hc)
    refine s_iconst (pc := 408) dL_law_408 (v := 0) rfl ?_
    refine s_aload_n (pc := 409) dL_law_409 3 rfl rfl ?_
    refine s_iload_n (pc := 410) dL_law_410 0 rfl rfl ?_
    refine s_iconst (pc := 411) dL_law_411 (v := 2) rfl ?_
    refine s_iadd (pc := 412) dL_law_412 ?_
    refine s_xld (pc := 413) dL_law_413 (lw_in (c := 2) hk2 hk (by decide)) ?_
    refine x_callV (pc := 414) (ci := 12) (d := 20) (mc' := 0) (ms' := 0) dL_law_414 (c_X12_pull (d := 20) (by decide) hw2 ht2 h2) mk_X12_pull mv_X12_pull ml_L_49 rfl rfl (Nat.le_of_ble_eq_true rfl) ht2 rfl ⟨by decide, by decide⟩ (lw_cs hk2) ?_
    refine s_icmp_eq (pc := 417) (tgt := 1366) dL_law_417 rfl (fun _ => ?_) (fun hc => absurd hr hc)
    refine s_widen lw_cu.1 lw_cu.2 ?_
    exact kn _ _ _ _ hJ
  · obtain ⟨q1, q2, h1, h2, hr, hJ⟩ := hs N I L P hi (1 : Int32) (g_x G (Int32.toNatClampNeg (nI (7 * k) + 2))) (Or.inr rfl)
    refine s_aload_n (pc := 373) dL_law_373 2 rfl rfl ?_
    refine s_aload_n (pc := 374) dL_law_374 3 rfl rfl ?_
    refine s_iload_n (pc := 375) dL_law_375 0 rfl rfl ?_
    refine s_iconst (pc := 376) dL_law_376 (v := 1) rfl ?_
    refine s_iadd (pc := 377) dL_law_377 ?_
    refine s_xld (pc := 378) dL_law_378 (lw_in (c := 1) hk2 hk (by decide)) ?_
    refine s_if_eq (pc := 379) (tgt := 386) dL_law_379 rfl (fun hc => absurd hc hz) (fun _ => ?_)
    refine s_iconst (pc := 382) dL_law_382 (v := 1) rfl ?_
    refine s_goto (pc := 383) (tgt := 387) dL_law_383 rfl ?_
    refine s_aload_n (pc := 387) dL_law_387 3 rfl rfl ?_
    refine s_iload_n (pc := 388) dL_law_388 0 rfl rfl ?_
    refine s_iconst (pc := 389) dL_law_389 (v := 2) rfl ?_
    refine s_iadd (pc := 390) dL_law_390 ?_
    refine s_xld (pc := 391) dL_law_391 (lw_in (c := 2) hk2 hk (by decide)) ?_
    refine x_callV (pc := 392) (ci := 11) (d := 20) (mc' := 0) (ms' := 0) dL_law_392 (c_X11_pull (d := 20) (by decide) hv.1 hv.2.1 h1) mk_X11_pull mv_X11_pull ml_L_45 rfl rfl (Nat.le_of_ble_eq_true rfl) hv.2.1 rfl ⟨by decide, by decide⟩ (lw_cs hk2) ?_
    have hw2 := hv.1
    have ht2 := hv.2.2
    refine s_aload_n (pc := 395) dL_law_395 1 rfl rfl ?_
    refine s_aload_n (pc := 396) dL_law_396 3 rfl rfl ?_
    refine s_iload_n (pc := 397) dL_law_397 0 rfl rfl ?_
    refine s_iconst (pc := 398) dL_law_398 (v := 1) rfl ?_
    refine s_iadd (pc := 399) dL_law_399 ?_
    refine s_xld (pc := 400) dL_law_400 (lw_in (c := 1) hk2 hk (by decide)) ?_
    refine s_if_eq (pc := 401) (tgt := 408) dL_law_401 rfl (fun hc => absurd hc hz) (fun _ => ?_)
    refine s_iconst (pc := 404) dL_law_404 (v := 1) rfl ?_
    refine s_goto (pc := 405) (tgt := 409) dL_law_405 rfl ?_
    refine s_aload_n (pc := 409) dL_law_409 3 rfl rfl ?_
    refine s_iload_n (pc := 410) dL_law_410 0 rfl rfl ?_
    refine s_iconst (pc := 411) dL_law_411 (v := 2) rfl ?_
    refine s_iadd (pc := 412) dL_law_412 ?_
    refine s_xld (pc := 413) dL_law_413 (lw_in (c := 2) hk2 hk (by decide)) ?_
    refine x_callV (pc := 414) (ci := 12) (d := 20) (mc' := 0) (ms' := 0) dL_law_414 (c_X12_pull (d := 20) (by decide) hw2 ht2 h2) mk_X12_pull mv_X12_pull ml_L_49 rfl rfl (Nat.le_of_ble_eq_true rfl) ht2 rfl ⟨by decide, by decide⟩ (lw_cs hk2) ?_
    refine s_icmp_eq (pc := 417) (tgt := 1366) dL_law_417 rfl (fun _ => ?_) (fun hc => absurd hr hc)
    refine s_widen lw_cu.1 lw_cu.2 ?_
    exact kn _ _ _ _ hJ
def Sp_stuff (n : Nat) (Iv Jv : pN → pI → pL → pR → Prop) : Prop := ∀ N I L P, Iv N I L P → ∀ (x1 : Int32) (x2 : Int32) (x3 : Int32), ∃ (q1 : Int32 × pI) (q2 : Int32 × pI), f_X11_stuff n N I P 0 x1 x2 x3 = some q1 ∧ f_X12_stuff n N q1.2 P 67 x1 x2 x3 = some q2 ∧ q1.1 = q2.1 ∧ Jv N q2.2 L P
theorem lc_stuff {G : pG} {nm : String} {n k : Nat} {N : pN} {I : pI} {L : pL} {P : pR} {Iv Jv : pN → pI → pL → pR → Prop} (hk2 : k < 512) (hk : 7 * k + 7 ≤ g_n G) (hv : WT N P ∧ p_tp N 0 14 ∧ p_tp N 67 15) (hi : Iv N I L P) (hs : Sp_stuff n Iv Jv) (kn : ∀ N I L P, Jv N I L P → SW G (mL nm) room_1 600000 7302250 (lw_c (k + 1)) (lw_s (k + 1)) lw_Qr 1366 [(3, .int (nI (7 * k))), (2, .ref 67), (1, .ref 0), (0, .ref 1000050)] [] N I L P) : SW G (mL nm) room_1 600000 7302250 (lw_c k) (lw_s k) lw_Qr 422 [(3, .int (nI (7 * k))), (2, .ref 67), (1, .ref 0), (0, .ref 1000050)] [] N I L P := by
  obtain ⟨q1, q2, h1, h2, hr, hJ⟩ := hs N I L P hi (g_x G (Int32.toNatClampNeg (nI (7 * k) + 1))) (g_x G (Int32.toNatClampNeg (nI (7 * k) + 2))) (g_x G (Int32.toNatClampNeg (nI (7 * k) + 3)))
  refine s_aload_n (pc := 422) dL_law_422 2 rfl rfl ?_
  refine s_aload_n (pc := 423) dL_law_423 3 rfl rfl ?_
  refine s_iload_n (pc := 424) dL_law_424 0 rfl rfl ?_
  refine s_iconst (pc := 425) dL_law_425 (v := 1) rfl ?_
  refine s_iadd (pc := 426) dL_law_426 ?_
  refine s_xld (pc := 427) dL_law_427 (lw_in (c := 1) hk2 hk (by decide)) ?_
  refine s_aload_n (pc := 428) dL_law_428 3 rfl rfl ?_
  refine s_iload_n (pc := 429) dL_law_429 0 rfl rfl ?_
  refine s_iconst (pc := 430) dL_law_430 (v := 2) rfl ?_
  refine s_iadd (pc := 431) dL_law_431 ?_
  refine s_xld (pc := 432) dL_law_432 (lw_in (c := 2) hk2 hk (by decide)) ?_
  refine s_aload_n (pc := 433) dL_law_433 3 rfl rfl ?_
  refine s_iload_n (pc := 434) dL_law_434 0 rfl rfl ?_
  refine s_iconst (pc := 435) dL_law_435 (v := 3) rfl ?_
  refine s_iadd (pc := 436) dL_law_436 ?_
  refine s_xld (pc := 437) dL_law_437 (lw_in (c := 3) hk2 hk (by decide)) ?_
  refine x_callV (pc := 438) (ci := 11) (d := 20) (mc' := 0) (ms' := 0) dL_law_438 (c_X11_stuff (d := 20) (by decide) hv.1 hv.2.1 h1) mk_X11_stuff mv_X11_stuff ml_L_50 rfl rfl (Nat.le_of_ble_eq_true rfl) hv.2.1 rfl ⟨by decide, by decide⟩ (lw_cs hk2) ?_
  have hw2 := hv.1
  have ht2 := hv.2.2
  refine s_aload_n (pc := 441) dL_law_441 1 rfl rfl ?_
  refine s_aload_n (pc := 442) dL_law_442 3 rfl rfl ?_
  refine s_iload_n (pc := 443) dL_law_443 0 rfl rfl ?_
  refine s_iconst (pc := 444) dL_law_444 (v := 1) rfl ?_
  refine s_iadd (pc := 445) dL_law_445 ?_
  refine s_xld (pc := 446) dL_law_446 (lw_in (c := 1) hk2 hk (by decide)) ?_
  refine s_aload_n (pc := 447) dL_law_447 3 rfl rfl ?_
  refine s_iload_n (pc := 448) dL_law_448 0 rfl rfl ?_
  refine s_iconst (pc := 449) dL_law_449 (v := 2) rfl ?_
  refine s_iadd (pc := 450) dL_law_450 ?_
  refine s_xld (pc := 451) dL_law_451 (lw_in (c := 2) hk2 hk (by decide)) ?_
  refine s_aload_n (pc := 452) dL_law_452 3 rfl rfl ?_
  refine s_iload_n (pc := 453) dL_law_453 0 rfl rfl ?_
  refine s_iconst (pc := 454) dL_law_454 (v := 3) rfl ?_
  refine s_iadd (pc := 455) dL_law_455 ?_
  refine s_xld (pc := 456) dL_law_456 (lw_in (c := 3) hk2 hk (by decide)) ?_
  refine x_callV (pc := 457) (ci := 12) (d := 20) (mc' := 0) (ms' := 0) dL_law_457 (c_X12_stuff (d := 20) (by decide) hw2 ht2 h2) mk_X12_stuff mv_X12_stuff ml_L_54 rfl rfl (Nat.le_of_ble_eq_true rfl) ht2 rfl ⟨by decide, by decide⟩ (lw_cs hk2) ?_
  refine s_icmp_eq (pc := 460) (tgt := 1366) dL_law_460 rfl (fun _ => ?_) (fun hc => absurd hr hc)
  refine s_widen lw_cu.1 lw_cu.2 ?_
  exact kn _ _ _ _ hJ
def Sp_set (n : Nat) (Iv Jv : pN → pI → pL → pR → Prop) : Prop := ∀ N I L P, Iv N I L P → ∀ (x1 : Int32) (x2 : Int32), ∃ (q1 : Int32 × pI) (q2 : Int32 × pI), f_X11_set n N I P 0 x1 x2 = some q1 ∧ f_X12_set n N q1.2 P 67 x1 x2 = some q2 ∧ q1.1 = q2.1 ∧ Jv N q2.2 L P
theorem lc_set {G : pG} {nm : String} {n k : Nat} {N : pN} {I : pI} {L : pL} {P : pR} {Iv Jv : pN → pI → pL → pR → Prop} (hk2 : k < 512) (hk : 7 * k + 7 ≤ g_n G) (hv : WT N P ∧ p_tp N 0 14 ∧ p_tp N 67 15) (hi : Iv N I L P) (hs : Sp_set n Iv Jv) (kn : ∀ N I L P, Jv N I L P → SW G (mL nm) room_1 600000 7302250 (lw_c (k + 1)) (lw_s (k + 1)) lw_Qr 1366 [(3, .int (nI (7 * k))), (2, .ref 67), (1, .ref 0), (0, .ref 1000050)] [] N I L P) : SW G (mL nm) room_1 600000 7302250 (lw_c k) (lw_s k) lw_Qr 465 [(3, .int (nI (7 * k))), (2, .ref 67), (1, .ref 0), (0, .ref 1000050)] [] N I L P := by
  obtain ⟨q1, q2, h1, h2, hr, hJ⟩ := hs N I L P hi (g_x G (Int32.toNatClampNeg (nI (7 * k) + 1))) (g_x G (Int32.toNatClampNeg (nI (7 * k) + 2)))
  refine s_aload_n (pc := 465) dL_law_465 2 rfl rfl ?_
  refine s_aload_n (pc := 466) dL_law_466 3 rfl rfl ?_
  refine s_iload_n (pc := 467) dL_law_467 0 rfl rfl ?_
  refine s_iconst (pc := 468) dL_law_468 (v := 1) rfl ?_
  refine s_iadd (pc := 469) dL_law_469 ?_
  refine s_xld (pc := 470) dL_law_470 (lw_in (c := 1) hk2 hk (by decide)) ?_
  refine s_aload_n (pc := 471) dL_law_471 3 rfl rfl ?_
  refine s_iload_n (pc := 472) dL_law_472 0 rfl rfl ?_
  refine s_iconst (pc := 473) dL_law_473 (v := 2) rfl ?_
  refine s_iadd (pc := 474) dL_law_474 ?_
  refine s_xld (pc := 475) dL_law_475 (lw_in (c := 2) hk2 hk (by decide)) ?_
  refine x_callV (pc := 476) (ci := 11) (d := 20) (mc' := 0) (ms' := 0) dL_law_476 (c_X11_set (d := 20) (by decide) hv.1 hv.2.1 h1) mk_X11_set mv_X11_set ml_L_55 rfl rfl (Nat.le_of_ble_eq_true rfl) hv.2.1 rfl ⟨by decide, by decide⟩ (lw_cs hk2) ?_
  have hw2 := hv.1
  have ht2 := hv.2.2
  refine s_aload_n (pc := 479) dL_law_479 1 rfl rfl ?_
  refine s_aload_n (pc := 480) dL_law_480 3 rfl rfl ?_
  refine s_iload_n (pc := 481) dL_law_481 0 rfl rfl ?_
  refine s_iconst (pc := 482) dL_law_482 (v := 1) rfl ?_
  refine s_iadd (pc := 483) dL_law_483 ?_
  refine s_xld (pc := 484) dL_law_484 (lw_in (c := 1) hk2 hk (by decide)) ?_
  refine s_aload_n (pc := 485) dL_law_485 3 rfl rfl ?_
  refine s_iload_n (pc := 486) dL_law_486 0 rfl rfl ?_
  refine s_iconst (pc := 487) dL_law_487 (v := 2) rfl ?_
  refine s_iadd (pc := 488) dL_law_488 ?_
  refine s_xld (pc := 489) dL_law_489 (lw_in (c := 2) hk2 hk (by decide)) ?_
  refine x_callV (pc := 490) (ci := 12) (d := 20) (mc' := 0) (ms' := 0) dL_law_490 (c_X12_set (d := 20) (by decide) hw2 ht2 h2) mk_X12_set mv_X12_set ml_L_59 rfl rfl (Nat.le_of_ble_eq_true rfl) ht2 rfl ⟨by decide, by decide⟩ (lw_cs hk2) ?_
  refine s_icmp_eq (pc := 493) (tgt := 1366) dL_law_493 rfl (fun _ => ?_) (fun hc => absurd hr hc)
  refine s_widen lw_cu.1 lw_cu.2 ?_
  exact kn _ _ _ _ hJ
def Sp_wall (n : Nat) (Iv Jv : pN → pI → pL → pR → Prop) : Prop := ∀ N I L P, Iv N I L P → ∀ (x1 : Int32) (x2 : Int32), ∃ (q1 : Int32) (q2 : Int32), f_X11_wall N I P 0 x1 x2 = some q1 ∧ f_X12_wall N I P 67 x1 x2 = some q2 ∧ q1 = q2 ∧ Jv N I L P
theorem lc_wall {G : pG} {nm : String} {n k : Nat} {N : pN} {I : pI} {L : pL} {P : pR} {Iv Jv : pN → pI → pL → pR → Prop} (hk2 : k < 512) (hk : 7 * k + 7 ≤ g_n G) (hv : WT N P ∧ p_tp N 0 14 ∧ p_tp N 67 15) (hi : Iv N I L P) (hs : Sp_wall n Iv Jv) (kn : ∀ N I L P, Jv N I L P → SW G (mL nm) room_1 600000 7302250 (lw_c (k + 1)) (lw_s (k + 1)) lw_Qr 1366 [(3, .int (nI (7 * k))), (2, .ref 67), (1, .ref 0), (0, .ref 1000050)] [] N I L P) : SW G (mL nm) room_1 600000 7302250 (lw_c k) (lw_s k) lw_Qr 498 [(3, .int (nI (7 * k))), (2, .ref 67), (1, .ref 0), (0, .ref 1000050)] [] N I L P := by
  obtain ⟨q1, q2, h1, h2, hr, hJ⟩ := hs N I L P hi (g_x G (Int32.toNatClampNeg (nI (7 * k) + 1))) (g_x G (Int32.toNatClampNeg (nI (7 * k) + 2)))
  refine s_aload_n (pc := 498) dL_law_498 2 rfl rfl ?_
  refine s_aload_n (pc := 499) dL_law_499 3 rfl rfl ?_
  refine s_iload_n (pc := 500) dL_law_500 0 rfl rfl ?_
  refine s_iconst (pc := 501) dL_law_501 (v := 1) rfl ?_
  refine s_iadd (pc := 502) dL_law_502 ?_
  refine s_xld (pc := 503) dL_law_503 (lw_in (c := 1) hk2 hk (by decide)) ?_
  refine s_aload_n (pc := 504) dL_law_504 3 rfl rfl ?_
  refine s_iload_n (pc := 505) dL_law_505 0 rfl rfl ?_
  refine s_iconst (pc := 506) dL_law_506 (v := 2) rfl ?_
  refine s_iadd (pc := 507) dL_law_507 ?_
  refine s_xld (pc := 508) dL_law_508 (lw_in (c := 2) hk2 hk (by decide)) ?_
  refine x_callV (pc := 509) (ci := 11) (d := 20) (mc' := 0) (ms' := 0) dL_law_509 (c_X11_wall (d := 20) (by decide) hv.1 hv.2.1 h1) mk_X11_wall mv_X11_wall ml_L_60 rfl rfl (Nat.le_of_ble_eq_true rfl) hv.2.1 rfl ⟨by decide, by decide⟩ (lw_cs hk2) ?_
  have hw2 := hv.1
  have ht2 := hv.2.2
  refine s_aload_n (pc := 512) dL_law_512 1 rfl rfl ?_
  refine s_aload_n (pc := 513) dL_law_513 3 rfl rfl ?_
  refine s_iload_n (pc := 514) dL_law_514 0 rfl rfl ?_
  refine s_iconst (pc := 515) dL_law_515 (v := 1) rfl ?_
  refine s_iadd (pc := 516) dL_law_516 ?_
  refine s_xld (pc := 517) dL_law_517 (lw_in (c := 1) hk2 hk (by decide)) ?_
  refine s_aload_n (pc := 518) dL_law_518 3 rfl rfl ?_
  refine s_iload_n (pc := 519) dL_law_519 0 rfl rfl ?_
  refine s_iconst (pc := 520) dL_law_520 (v := 2) rfl ?_
  refine s_iadd (pc := 521) dL_law_521 ?_
  refine s_xld (pc := 522) dL_law_522 (lw_in (c := 2) hk2 hk (by decide)) ?_
  refine x_callV (pc := 523) (ci := 12) (d := 20) (mc' := 0) (ms' := 0) dL_law_523 (c_X12_wall (d := 20) (by decide) hw2 ht2 h2) mk_X12_wall mv_X12_wall ml_L_64 rfl rfl (Nat.le_of_ble_eq_true rfl) ht2 rfl ⟨by decide, by decide⟩ (lw_cs hk2) ?_
  refine s_icmp_eq (pc := 526) (tgt := 1366) dL_law_526 rfl (fun _ => ?_) (fun hc => absurd hr hc)
  refine s_widen lw_cu.1 lw_cu.2 ?_
  exact kn _ _ _ _ hJ
def Sp_sender (n : Nat) (Iv Jv : pN → pI → pL → pR → Prop) : Prop := ∀ N I L P, Iv N I L P → ∀ (x1 : Int32) (x2 : Int32), ∃ (q1 : Int32) (q2 : Int32), f_X11_sender N I P 0 x1 x2 = some q1 ∧ f_X12_sender N I P 67 x1 x2 = some q2 ∧ q1 = q2 ∧ Jv N I L P
theorem lc_sender {G : pG} {nm : String} {n k : Nat} {N : pN} {I : pI} {L : pL} {P : pR} {Iv Jv : pN → pI → pL → pR → Prop} (hk2 : k < 512) (hk : 7 * k + 7 ≤ g_n G) (hv : WT N P ∧ p_tp N 0 14 ∧ p_tp N 67 15) (hi : Iv N I L P) (hs : Sp_sender n Iv Jv) (kn : ∀ N I L P, Jv N I L P → SW G (mL nm) room_1 600000 7302250 (lw_c (k + 1)) (lw_s (k + 1)) lw_Qr 1366 [(3, .int (nI (7 * k))), (2, .ref 67), (1, .ref 0), (0, .ref 1000050)] [] N I L P) : SW G (mL nm) room_1 600000 7302250 (lw_c k) (lw_s k) lw_Qr 531 [(3, .int (nI (7 * k))), (2, .ref 67), (1, .ref 0), (0, .ref 1000050)] [] N I L P := by
  obtain ⟨q1, q2, h1, h2, hr, hJ⟩ := hs N I L P hi (g_x G (Int32.toNatClampNeg (nI (7 * k) + 1))) (g_x G (Int32.toNatClampNeg (nI (7 * k) + 2)))
  refine s_aload_n (pc := 531) dL_law_531 2 rfl rfl ?_
  refine s_aload_n (pc := 532) dL_law_532 3 rfl rfl ?_
  refine s_iload_n (pc := 533) dL_law_533 0 rfl rfl ?_
  refine s_iconst (pc := 534) dL_law_534 (v := 1) rfl ?_
  refine s_iadd (pc := 535) dL_law_535 ?_
  refine s_xld (pc := 536) dL_law_536 (lw_in (c := 1) hk2 hk (by decide)) ?_
  refine s_aload_n (pc := 537) dL_law_537 3 rfl rfl ?_
  refine s_iload_n (pc := 538) dL_law_538 0 rfl rfl ?_
  refine s_iconst (pc := 539) dL_law_539 (v := 2) rfl ?_
  refine s_iadd (pc := 540) dL_law_540 ?_
  refine s_xld (pc := 541) dL_law_541 (lw_in (c := 2) hk2 hk (by decide)) ?_
  refine x_callV (pc := 542) (ci := 11) (d := 20) (mc' := 0) (ms' := 0) dL_law_542 (c_X11_sender (d := 20) (by decide) hv.1 hv.2.1 h1) mk_X11_sender mv_X11_sender ml_L_65 rfl rfl (Nat.le_of_ble_eq_true rfl) hv.2.1 rfl ⟨by decide, by decide⟩ (lw_cs hk2) ?_
  have hw2 := hv.1
  have ht2 := hv.2.2
  refine s_aload_n (pc := 545) dL_law_545 1 rfl rfl ?_
  refine s_aload_n (pc := 546) dL_law_546 3 rfl rfl ?_
  refine s_iload_n (pc := 547) dL_law_547 0 rfl rfl ?_
  refine s_iconst (pc := 548) dL_law_548 (v := 1) rfl ?_
  refine s_iadd (pc := 549) dL_law_549 ?_
  refine s_xld (pc := 550) dL_law_550 (lw_in (c := 1) hk2 hk (by decide)) ?_
  refine s_aload_n (pc := 551) dL_law_551 3 rfl rfl ?_
  refine s_iload_n (pc := 552) dL_law_552 0 rfl rfl ?_
  refine s_iconst (pc := 553) dL_law_553 (v := 2) rfl ?_
  refine s_iadd (pc := 554) dL_law_554 ?_
  refine s_xld (pc := 555) dL_law_555 (lw_in (c := 2) hk2 hk (by decide)) ?_
  refine x_callV (pc := 556) (ci := 12) (d := 20) (mc' := 0) (ms' := 0) dL_law_556 (c_X12_sender (d := 20) (by decide) hw2 ht2 h2) mk_X12_sender mv_X12_sender ml_L_68 rfl rfl (Nat.le_of_ble_eq_true rfl) ht2 rfl ⟨by decide, by decide⟩ (lw_cs hk2) ?_
  refine s_icmp_eq (pc := 559) (tgt := 1366) dL_law_559 rfl (fun _ => ?_) (fun hc => absurd hr hc)
  refine s_widen lw_cu.1 lw_cu.2 ?_
  exact kn _ _ _ _ hJ
def Sp_sees (n : Nat) (Iv Jv : pN → pI → pL → pR → Prop) : Prop := ∀ N I L P, Iv N I L P → ∀ (x1 : Int32) (x2 : Int32) (x3 : Int32), ∃ (q1 : Int32 × pI × pL) (q2 : Int32 × pI × pL), f_X11_sees n N I L P 0 x1 x2 x3 = some q1 ∧ f_X12_sees n N q1.2.1 q1.2.2 P 67 x1 x2 x3 = some q2 ∧ q1.1 = q2.1 ∧ Jv N q2.2.1 q2.2.2 P
theorem lc_sees {G : pG} {nm : String} {n k : Nat} {N : pN} {I : pI} {L : pL} {P : pR} {Iv Jv : pN → pI → pL → pR → Prop} (hk2 : k < 512) (hk : 7 * k + 7 ≤ g_n G) (hv : WT N P ∧ p_tp N 0 14 ∧ p_tp N 67 15) (hi : Iv N I L P) (hs : Sp_sees n Iv Jv) (kn : ∀ N I L P, Jv N I L P → SW G (mL nm) room_1 600000 7302250 (lw_c (k + 1)) (lw_s (k + 1)) lw_Qr 1366 [(3, .int (nI (7 * k))), (2, .ref 67), (1, .ref 0), (0, .ref 1000050)] [] N I L P) : SW G (mL nm) room_1 600000 7302250 (lw_c k) (lw_s k) lw_Qr 564 [(3, .int (nI (7 * k))), (2, .ref 67), (1, .ref 0), (0, .ref 1000050)] [] N I L P := by
  obtain ⟨q1, q2, h1, h2, hr, hJ⟩ := hs N I L P hi (g_x G (Int32.toNatClampNeg (nI (7 * k) + 1))) (g_x G (Int32.toNatClampNeg (nI (7 * k) + 2))) (g_x G (Int32.toNatClampNeg (nI (7 * k) + 3)))
  refine s_aload_n (pc := 564) dL_law_564 2 rfl rfl ?_
  refine s_aload_n (pc := 565) dL_law_565 3 rfl rfl ?_
  refine s_iload_n (pc := 566) dL_law_566 0 rfl rfl ?_
  refine s_iconst (pc := 567) dL_law_567 (v := 1) rfl ?_
  refine s_iadd (pc := 568) dL_law_568 ?_
  refine s_xld (pc := 569) dL_law_569 (lw_in (c := 1) hk2 hk (by decide)) ?_
  refine s_aload_n (pc := 570) dL_law_570 3 rfl rfl ?_
  refine s_iload_n (pc := 571) dL_law_571 0 rfl rfl ?_
  refine s_iconst (pc := 572) dL_law_572 (v := 2) rfl ?_
  refine s_iadd (pc := 573) dL_law_573 ?_
  refine s_xld (pc := 574) dL_law_574 (lw_in (c := 2) hk2 hk (by decide)) ?_
  refine s_aload_n (pc := 575) dL_law_575 3 rfl rfl ?_
  refine s_iload_n (pc := 576) dL_law_576 0 rfl rfl ?_
  refine s_iconst (pc := 577) dL_law_577 (v := 3) rfl ?_
  refine s_iadd (pc := 578) dL_law_578 ?_
  refine s_xld (pc := 579) dL_law_579 (lw_in (c := 3) hk2 hk (by decide)) ?_
  refine x_callV (pc := 580) (ci := 11) (d := 20) (mc' := 0) (ms' := 0) dL_law_580 (c_X11_sees (d := 20) (by decide) hv.1 hv.2.1 h1) mk_X11_sees mv_X11_sees ml_L_69 rfl rfl (Nat.le_of_ble_eq_true rfl) hv.2.1 rfl ⟨by decide, by decide⟩ (lw_cs hk2) ?_
  have hw2 := hv.1
  have ht2 := hv.2.2
  refine s_aload_n (pc := 583) dL_law_583 1 rfl rfl ?_
  refine s_aload_n (pc := 584) dL_law_584 3 rfl rfl ?_
  refine s_iload_n (pc := 585) dL_law_585 0 rfl rfl ?_
  refine s_iconst (pc := 586) dL_law_586 (v := 1) rfl ?_
  refine s_iadd (pc := 587) dL_law_587 ?_
  refine s_xld (pc := 588) dL_law_588 (lw_in (c := 1) hk2 hk (by decide)) ?_
  refine s_aload_n (pc := 589) dL_law_589 3 rfl rfl ?_
  refine s_iload_n (pc := 590) dL_law_590 0 rfl rfl ?_
  refine s_iconst (pc := 591) dL_law_591 (v := 2) rfl ?_
  refine s_iadd (pc := 592) dL_law_592 ?_
  refine s_xld (pc := 593) dL_law_593 (lw_in (c := 2) hk2 hk (by decide)) ?_
  refine s_aload_n (pc := 594) dL_law_594 3 rfl rfl ?_
  refine s_iload_n (pc := 595) dL_law_595 0 rfl rfl ?_
  refine s_iconst (pc := 596) dL_law_596 (v := 3) rfl ?_
  refine s_iadd (pc := 597) dL_law_597 ?_
  refine s_xld (pc := 598) dL_law_598 (lw_in (c := 3) hk2 hk (by decide)) ?_
  refine x_callV (pc := 599) (ci := 12) (d := 20) (mc' := 0) (ms' := 0) dL_law_599 (c_X12_sees (d := 20) (by decide) hw2 ht2 h2) mk_X12_sees mv_X12_sees ml_L_72 rfl rfl (Nat.le_of_ble_eq_true rfl) ht2 rfl ⟨by decide, by decide⟩ (lw_cs hk2) ?_
  refine s_icmp_eq (pc := 602) (tgt := 1366) dL_law_602 rfl (fun _ => ?_) (fun hc => absurd hr hc)
  refine s_widen lw_cu.1 lw_cu.2 ?_
  exact kn _ _ _ _ hJ
def Sp_ways (n : Nat) (Iv Jv : pN → pI → pL → pR → Prop) : Prop := ∀ N I L P, Iv N I L P → ∀ (x1 : Int32) (x2 : Int32) (x3 : Int32), ∃ (q1 : Int32 × pI × pL) (q2 : Int32 × pI × pL), f_X11_ways n N I L P 0 x1 x2 x3 = some q1 ∧ f_X12_ways n N q1.2.1 q1.2.2 P 67 x1 x2 x3 = some q2 ∧ q1.1 = q2.1 ∧ Jv N q2.2.1 q2.2.2 P
theorem lc_ways {G : pG} {nm : String} {n k : Nat} {N : pN} {I : pI} {L : pL} {P : pR} {Iv Jv : pN → pI → pL → pR → Prop} (hk2 : k < 512) (hk : 7 * k + 7 ≤ g_n G) (hv : WT N P ∧ p_tp N 0 14 ∧ p_tp N 67 15) (hi : Iv N I L P) (hs : Sp_ways n Iv Jv) (kn : ∀ N I L P, Jv N I L P → SW G (mL nm) room_1 600000 7302250 (lw_c (k + 1)) (lw_s (k + 1)) lw_Qr 1366 [(3, .int (nI (7 * k))), (2, .ref 67), (1, .ref 0), (0, .ref 1000050)] [] N I L P) : SW G (mL nm) room_1 600000 7302250 (lw_c k) (lw_s k) lw_Qr 607 [(3, .int (nI (7 * k))), (2, .ref 67), (1, .ref 0), (0, .ref 1000050)] [] N I L P := by
  obtain ⟨q1, q2, h1, h2, hr, hJ⟩ := hs N I L P hi (g_x G (Int32.toNatClampNeg (nI (7 * k) + 1))) (g_x G (Int32.toNatClampNeg (nI (7 * k) + 2))) (g_x G (Int32.toNatClampNeg (nI (7 * k) + 3)))
  refine s_aload_n (pc := 607) dL_law_607 2 rfl rfl ?_
  refine s_aload_n (pc := 608) dL_law_608 3 rfl rfl ?_
  refine s_iload_n (pc := 609) dL_law_609 0 rfl rfl ?_
  refine s_iconst (pc := 610) dL_law_610 (v := 1) rfl ?_
  refine s_iadd (pc := 611) dL_law_611 ?_
  refine s_xld (pc := 612) dL_law_612 (lw_in (c := 1) hk2 hk (by decide)) ?_
  refine s_aload_n (pc := 613) dL_law_613 3 rfl rfl ?_
  refine s_iload_n (pc := 614) dL_law_614 0 rfl rfl ?_
  refine s_iconst (pc := 615) dL_law_615 (v := 2) rfl ?_
  refine s_iadd (pc := 616) dL_law_616 ?_
  refine s_xld (pc := 617) dL_law_617 (lw_in (c := 2) hk2 hk (by decide)) ?_
  refine s_aload_n (pc := 618) dL_law_618 3 rfl rfl ?_
  refine s_iload_n (pc := 619) dL_law_619 0 rfl rfl ?_
  refine s_iconst (pc := 620) dL_law_620 (v := 3) rfl ?_
  refine s_iadd (pc := 621) dL_law_621 ?_
  refine s_xld (pc := 622) dL_law_622 (lw_in (c := 3) hk2 hk (by decide)) ?_
  refine x_callV (pc := 623) (ci := 11) (d := 20) (mc' := 0) (ms' := 0) dL_law_623 (c_X11_ways (d := 20) (by decide) hv.1 hv.2.1 h1) mk_X11_ways mv_X11_ways ml_L_73 rfl rfl (Nat.le_of_ble_eq_true rfl) hv.2.1 rfl ⟨by decide, by decide⟩ (lw_cs hk2) ?_
  have hw2 := hv.1
  have ht2 := hv.2.2
  refine s_aload_n (pc := 626) dL_law_626 1 rfl rfl ?_
  refine s_aload_n (pc := 627) dL_law_627 3 rfl rfl ?_
  refine s_iload_n (pc := 628) dL_law_628 0 rfl rfl ?_
  refine s_iconst (pc := 629) dL_law_629 (v := 1) rfl ?_
  refine s_iadd (pc := 630) dL_law_630 ?_
  refine s_xld (pc := 631) dL_law_631 (lw_in (c := 1) hk2 hk (by decide)) ?_
  refine s_aload_n (pc := 632) dL_law_632 3 rfl rfl ?_
  refine s_iload_n (pc := 633) dL_law_633 0 rfl rfl ?_
  refine s_iconst (pc := 634) dL_law_634 (v := 2) rfl ?_
  refine s_iadd (pc := 635) dL_law_635 ?_
  refine s_xld (pc := 636) dL_law_636 (lw_in (c := 2) hk2 hk (by decide)) ?_
  refine s_aload_n (pc := 637) dL_law_637 3 rfl rfl ?_
  refine s_iload_n (pc := 638) dL_law_638 0 rfl rfl ?_
  refine s_iconst (pc := 639) dL_law_639 (v := 3) rfl ?_
  refine s_iadd (pc := 640) dL_law_640 ?_
  refine s_xld (pc := 641) dL_law_641 (lw_in (c := 3) hk2 hk (by decide)) ?_
  refine x_callV (pc := 642) (ci := 12) (d := 20) (mc' := 0) (ms' := 0) dL_law_642 (c_X12_ways (d := 20) (by decide) hw2 ht2 h2) mk_X12_ways mv_X12_ways ml_L_77 rfl rfl (Nat.le_of_ble_eq_true rfl) ht2 rfl ⟨by decide, by decide⟩ (lw_cs hk2) ?_
  refine s_icmp_eq (pc := 645) (tgt := 1366) dL_law_645 rfl (fun _ => ?_) (fun hc => absurd hr hc)
  refine s_widen lw_cu.1 lw_cu.2 ?_
  exact kn _ _ _ _ hJ
def Sp_way (n : Nat) (Iv Jv : pN → pI → pL → pR → Prop) : Prop := ∀ N I L P, Iv N I L P → ∀ (x1 : Int32) (x2 : Int32) (x3 : Int32) (x4 : Int32) (x5 : Int32), ∃ (q1 : Int32 × pI × pL) (q2 : Int32 × pI × pL), f_X11_way n N I L P 0 x1 x2 x3 x4 x5 = some q1 ∧ f_X12_way n N q1.2.1 q1.2.2 P 67 x1 x2 x3 x4 x5 = some q2 ∧ q1.1 = q2.1 ∧ Jv N q2.2.1 q2.2.2 P
theorem lc_way {G : pG} {nm : String} {n k : Nat} {N : pN} {I : pI} {L : pL} {P : pR} {Iv Jv : pN → pI → pL → pR → Prop} (hk2 : k < 512) (hk : 7 * k + 7 ≤ g_n G) (hv : WT N P ∧ p_tp N 0 14 ∧ p_tp N 67 15) (hi : Iv N I L P) (hs : Sp_way n Iv Jv) (kn : ∀ N I L P, Jv N I L P → SW G (mL nm) room_1 600000 7302250 (lw_c (k + 1)) (lw_s (k + 1)) lw_Qr 1366 [(3, .int (nI (7 * k))), (2, .ref 67), (1, .ref 0), (0, .ref 1000050)] [] N I L P) : SW G (mL nm) room_1 600000 7302250 (lw_c k) (lw_s k) lw_Qr 650 [(3, .int (nI (7 * k))), (2, .ref 67), (1, .ref 0), (0, .ref 1000050)] [] N I L P := by
  obtain ⟨q1, q2, h1, h2, hr, hJ⟩ := hs N I L P hi (g_x G (Int32.toNatClampNeg (nI (7 * k) + 1))) (g_x G (Int32.toNatClampNeg (nI (7 * k) + 2))) (g_x G (Int32.toNatClampNeg (nI (7 * k) + 3))) (g_x G (Int32.toNatClampNeg (nI (7 * k) + 4))) (g_x G (Int32.toNatClampNeg (nI (7 * k) + 5)))
  refine s_aload_n (pc := 650) dL_law_650 2 rfl rfl ?_
  refine s_aload_n (pc := 651) dL_law_651 3 rfl rfl ?_
  refine s_iload_n (pc := 652) dL_law_652 0 rfl rfl ?_
  refine s_iconst (pc := 653) dL_law_653 (v := 1) rfl ?_
  refine s_iadd (pc := 654) dL_law_654 ?_
  refine s_xld (pc := 655) dL_law_655 (lw_in (c := 1) hk2 hk (by decide)) ?_
  refine s_aload_n (pc := 656) dL_law_656 3 rfl rfl ?_
  refine s_iload_n (pc := 657) dL_law_657 0 rfl rfl ?_
  refine s_iconst (pc := 658) dL_law_658 (v := 2) rfl ?_
  refine s_iadd (pc := 659) dL_law_659 ?_
  refine s_xld (pc := 660) dL_law_660 (lw_in (c := 2) hk2 hk (by decide)) ?_
  refine s_aload_n (pc := 661) dL_law_661 3 rfl rfl ?_
  refine s_iload_n (pc := 662) dL_law_662 0 rfl rfl ?_
  refine s_iconst (pc := 663) dL_law_663 (v := 3) rfl ?_
  refine s_iadd (pc := 664) dL_law_664 ?_
  refine s_xld (pc := 665) dL_law_665 (lw_in (c := 3) hk2 hk (by decide)) ?_
  refine s_aload_n (pc := 666) dL_law_666 3 rfl rfl ?_
  refine s_iload_n (pc := 667) dL_law_667 0 rfl rfl ?_
  refine s_iconst (pc := 668) dL_law_668 (v := 4) rfl ?_
  refine s_iadd (pc := 669) dL_law_669 ?_
  refine s_xld (pc := 670) dL_law_670 (lw_in (c := 4) hk2 hk (by decide)) ?_
  refine s_aload_n (pc := 671) dL_law_671 3 rfl rfl ?_
  refine s_iload_n (pc := 672) dL_law_672 0 rfl rfl ?_
  refine s_iconst (pc := 673) dL_law_673 (v := 5) rfl ?_
  refine s_iadd (pc := 674) dL_law_674 ?_
  refine s_xld (pc := 675) dL_law_675 (lw_in (c := 5) hk2 hk (by decide)) ?_
  refine x_callV (pc := 676) (ci := 11) (d := 20) (mc' := 0) (ms' := 0) dL_law_676 (c_X11_way (d := 20) (by decide) hv.1 hv.2.1 h1) mk_X11_way mv_X11_way ml_L_78 rfl rfl (Nat.le_of_ble_eq_true rfl) hv.2.1 rfl ⟨by decide, by decide⟩ (lw_cs hk2) ?_
  have hw2 := hv.1
  have ht2 := hv.2.2
  refine s_aload_n (pc := 679) dL_law_679 1 rfl rfl ?_
  refine s_aload_n (pc := 680) dL_law_680 3 rfl rfl ?_
  refine s_iload_n (pc := 681) dL_law_681 0 rfl rfl ?_
  refine s_iconst (pc := 682) dL_law_682 (v := 1) rfl ?_
  refine s_iadd (pc := 683) dL_law_683 ?_
  refine s_xld (pc := 684) dL_law_684 (lw_in (c := 1) hk2 hk (by decide)) ?_
  refine s_aload_n (pc := 685) dL_law_685 3 rfl rfl ?_
  refine s_iload_n (pc := 686) dL_law_686 0 rfl rfl ?_
  refine s_iconst (pc := 687) dL_law_687 (v := 2) rfl ?_
  refine s_iadd (pc := 688) dL_law_688 ?_
  refine s_xld (pc := 689) dL_law_689 (lw_in (c := 2) hk2 hk (by decide)) ?_
  refine s_aload_n (pc := 690) dL_law_690 3 rfl rfl ?_
  refine s_iload_n (pc := 691) dL_law_691 0 rfl rfl ?_
  refine s_iconst (pc := 692) dL_law_692 (v := 3) rfl ?_
  refine s_iadd (pc := 693) dL_law_693 ?_
  refine s_xld (pc := 694) dL_law_694 (lw_in (c := 3) hk2 hk (by decide)) ?_
  refine s_aload_n (pc := 695) dL_law_695 3 rfl rfl ?_
  refine s_iload_n (pc := 696) dL_law_696 0 rfl rfl ?_
  refine s_iconst (pc := 697) dL_law_697 (v := 4) rfl ?_
  refine s_iadd (pc := 698) dL_law_698 ?_
  refine s_xld (pc := 699) dL_law_699 (lw_in (c := 4) hk2 hk (by decide)) ?_
  refine s_aload_n (pc := 700) dL_law_700 3 rfl rfl ?_
  refine s_iload_n (pc := 701) dL_law_701 0 rfl rfl ?_
  refine s_iconst (pc := 702) dL_law_702 (v := 5) rfl ?_
  refine s_iadd (pc := 703) dL_law_703 ?_
  refine s_xld (pc := 704) dL_law_704 (lw_in (c := 5) hk2 hk (by decide)) ?_
  refine x_callV (pc := 705) (ci := 12) (d := 20) (mc' := 0) (ms' := 0) dL_law_705 (c_X12_way (d := 20) (by decide) hw2 ht2 h2) mk_X12_way mv_X12_way ml_L_81 rfl rfl (Nat.le_of_ble_eq_true rfl) ht2 rfl ⟨by decide, by decide⟩ (lw_cs hk2) ?_
  refine s_icmp_eq (pc := 708) (tgt := 1366) dL_law_708 rfl (fun _ => ?_) (fun hc => absurd hr hc)
  refine s_widen lw_cu.1 lw_cu.2 ?_
  exact kn _ _ _ _ hJ
def Sp_compare (n : Nat) (Iv Jv : pN → pI → pL → pR → Prop) : Prop := ∀ N I L P, Iv N I L P → ∀ (x1 : Int32) (x2 : Int32) (x3 : Int32) (x4 : Int32) (x5 : Int32) (x6 : Int32), ∃ (q1 : Int32 × pI × pL) (q2 : Int32 × pI × pL), f_X11_compare n N I L P 0 x1 x2 x3 x4 x5 x6 = some q1 ∧ f_X12_compare n N q1.2.1 q1.2.2 P 67 x1 x2 x3 x4 x5 x6 = some q2 ∧ q1.1 = q2.1 ∧ Jv N q2.2.1 q2.2.2 P
theorem lc_compare {G : pG} {nm : String} {n k : Nat} {N : pN} {I : pI} {L : pL} {P : pR} {Iv Jv : pN → pI → pL → pR → Prop} (hk2 : k < 512) (hk : 7 * k + 7 ≤ g_n G) (hv : WT N P ∧ p_tp N 0 14 ∧ p_tp N 67 15) (hi : Iv N I L P) (hs : Sp_compare n Iv Jv) (kn : ∀ N I L P, Jv N I L P → SW G (mL nm) room_1 600000 7302250 (lw_c (k + 1)) (lw_s (k + 1)) lw_Qr 1366 [(3, .int (nI (7 * k))), (2, .ref 67), (1, .ref 0), (0, .ref 1000050)] [] N I L P) : SW G (mL nm) room_1 600000 7302250 (lw_c k) (lw_s k) lw_Qr 713 [(3, .int (nI (7 * k))), (2, .ref 67), (1, .ref 0), (0, .ref 1000050)] [] N I L P := by
  obtain ⟨q1, q2, h1, h2, hr, hJ⟩ := hs N I L P hi (g_x G (Int32.toNatClampNeg (nI (7 * k) + 1))) (g_x G (Int32.toNatClampNeg (nI (7 * k) + 2))) (g_x G (Int32.toNatClampNeg (nI (7 * k) + 3))) (g_x G (Int32.toNatClampNeg (nI (7 * k) + 4))) (g_x G (Int32.toNatClampNeg (nI (7 * k) + 5))) (g_x G (Int32.toNatClampNeg (nI (7 * k) + 6)))
  refine s_aload_n (pc := 713) dL_law_713 2 rfl rfl ?_
  refine s_aload_n (pc := 714) dL_law_714 3 rfl rfl ?_
  refine s_iload_n (pc := 715) dL_law_715 0 rfl rfl ?_
  refine s_iconst (pc := 716) dL_law_716 (v := 1) rfl ?_
  refine s_iadd (pc := 717) dL_law_717 ?_
  refine s_xld (pc := 718) dL_law_718 (lw_in (c := 1) hk2 hk (by decide)) ?_
  refine s_aload_n (pc := 719) dL_law_719 3 rfl rfl ?_
  refine s_iload_n (pc := 720) dL_law_720 0 rfl rfl ?_
  refine s_iconst (pc := 721) dL_law_721 (v := 2) rfl ?_
  refine s_iadd (pc := 722) dL_law_722 ?_
  refine s_xld (pc := 723) dL_law_723 (lw_in (c := 2) hk2 hk (by decide)) ?_
  refine s_aload_n (pc := 724) dL_law_724 3 rfl rfl ?_
  refine s_iload_n (pc := 725) dL_law_725 0 rfl rfl ?_
  refine s_iconst (pc := 726) dL_law_726 (v := 3) rfl ?_
  refine s_iadd (pc := 727) dL_law_727 ?_
  refine s_xld (pc := 728) dL_law_728 (lw_in (c := 3) hk2 hk (by decide)) ?_
  refine s_aload_n (pc := 729) dL_law_729 3 rfl rfl ?_
  refine s_iload_n (pc := 730) dL_law_730 0 rfl rfl ?_
  refine s_iconst (pc := 731) dL_law_731 (v := 4) rfl ?_
  refine s_iadd (pc := 732) dL_law_732 ?_
  refine s_xld (pc := 733) dL_law_733 (lw_in (c := 4) hk2 hk (by decide)) ?_
  refine s_aload_n (pc := 734) dL_law_734 3 rfl rfl ?_
  refine s_iload_n (pc := 735) dL_law_735 0 rfl rfl ?_
  refine s_iconst (pc := 736) dL_law_736 (v := 5) rfl ?_
  refine s_iadd (pc := 737) dL_law_737 ?_
  refine s_xld (pc := 738) dL_law_738 (lw_in (c := 5) hk2 hk (by decide)) ?_
  refine s_aload_n (pc := 739) dL_law_739 3 rfl rfl ?_
  refine s_iload_n (pc := 740) dL_law_740 0 rfl rfl ?_
  refine s_bipush (pc := 741) dL_law_741 (v := 6) rfl ?_
  refine s_iadd (pc := 743) dL_law_743 ?_
  refine s_xld (pc := 744) dL_law_744 (lw_in (c := 6) hk2 hk (by decide)) ?_
  refine x_callV (pc := 745) (ci := 11) (d := 20) (mc' := 0) (ms' := 0) dL_law_745 (c_X11_compare (d := 20) (by decide) hv.1 hv.2.1 h1) mk_X11_compare mv_X11_compare ml_L_82 rfl rfl (Nat.le_of_ble_eq_true rfl) hv.2.1 rfl ⟨by decide, by decide⟩ (lw_cs hk2) ?_
  have hw2 := hv.1
  have ht2 := hv.2.2
  refine s_aload_n (pc := 748) dL_law_748 1 rfl rfl ?_
  refine s_aload_n (pc := 749) dL_law_749 3 rfl rfl ?_
  refine s_iload_n (pc := 750) dL_law_750 0 rfl rfl ?_
  refine s_iconst (pc := 751) dL_law_751 (v := 1) rfl ?_
  refine s_iadd (pc := 752) dL_law_752 ?_
  refine s_xld (pc := 753) dL_law_753 (lw_in (c := 1) hk2 hk (by decide)) ?_
  refine s_aload_n (pc := 754) dL_law_754 3 rfl rfl ?_
  refine s_iload_n (pc := 755) dL_law_755 0 rfl rfl ?_
  refine s_iconst (pc := 756) dL_law_756 (v := 2) rfl ?_
  refine s_iadd (pc := 757) dL_law_757 ?_
  refine s_xld (pc := 758) dL_law_758 (lw_in (c := 2) hk2 hk (by decide)) ?_
  refine s_aload_n (pc := 759) dL_law_759 3 rfl rfl ?_
  refine s_iload_n (pc := 760) dL_law_760 0 rfl rfl ?_
  refine s_iconst (pc := 761) dL_law_761 (v := 3) rfl ?_
  refine s_iadd (pc := 762) dL_law_762 ?_
  refine s_xld (pc := 763) dL_law_763 (lw_in (c := 3) hk2 hk (by decide)) ?_
  refine s_aload_n (pc := 764) dL_law_764 3 rfl rfl ?_
  refine s_iload_n (pc := 765) dL_law_765 0 rfl rfl ?_
  refine s_iconst (pc := 766) dL_law_766 (v := 4) rfl ?_
  refine s_iadd (pc := 767) dL_law_767 ?_
  refine s_xld (pc := 768) dL_law_768 (lw_in (c := 4) hk2 hk (by decide)) ?_
  refine s_aload_n (pc := 769) dL_law_769 3 rfl rfl ?_
  refine s_iload_n (pc := 770) dL_law_770 0 rfl rfl ?_
  refine s_iconst (pc := 771) dL_law_771 (v := 5) rfl ?_
  refine s_iadd (pc := 772) dL_law_772 ?_
  refine s_xld (pc := 773) dL_law_773 (lw_in (c := 5) hk2 hk (by decide)) ?_
  refine s_aload_n (pc := 774) dL_law_774 3 rfl rfl ?_
  refine s_iload_n (pc := 775) dL_law_775 0 rfl rfl ?_
  refine s_bipush (pc := 776) dL_law_776 (v := 6) rfl ?_
  refine s_iadd (pc := 778) dL_law_778 ?_
  refine s_xld (pc := 779) dL_law_779 (lw_in (c := 6) hk2 hk (by decide)) ?_
  refine x_callV (pc := 780) (ci := 12) (d := 20) (mc' := 0) (ms' := 0) dL_law_780 (c_X12_compare (d := 20) (by decide) hw2 ht2 h2) mk_X12_compare mv_X12_compare ml_L_86 rfl rfl (Nat.le_of_ble_eq_true rfl) ht2 rfl ⟨by decide, by decide⟩ (lw_cs hk2) ?_
  refine s_icmp_eq (pc := 783) (tgt := 1366) dL_law_783 rfl (fun _ => ?_) (fun hc => absurd hr hc)
  refine s_widen lw_cu.1 lw_cu.2 ?_
  exact kn _ _ _ _ hJ
def Sp_signal (n : Nat) (Iv Jv : pN → pI → pL → pR → Prop) : Prop := ∀ N I L P, Iv N I L P → ∀ (x1 : Int32) (x2 : Int32) (x3 : Int32), ∃ (q1 : Int32 × pI × pL) (q2 : Int32 × pI × pL), f_X11_signal n N I L P 0 x1 x2 x3 = some q1 ∧ f_X12_signal n N q1.2.1 q1.2.2 P 67 x1 x2 x3 = some q2 ∧ q1.1 = q2.1 ∧ Jv N q2.2.1 q2.2.2 P
theorem lc_signal {G : pG} {nm : String} {n k : Nat} {N : pN} {I : pI} {L : pL} {P : pR} {Iv Jv : pN → pI → pL → pR → Prop} (hk2 : k < 512) (hk : 7 * k + 7 ≤ g_n G) (hv : WT N P ∧ p_tp N 0 14 ∧ p_tp N 67 15) (hi : Iv N I L P) (hs : Sp_signal n Iv Jv) (kn : ∀ N I L P, Jv N I L P → SW G (mL nm) room_1 600000 7302250 (lw_c (k + 1)) (lw_s (k + 1)) lw_Qr 1366 [(3, .int (nI (7 * k))), (2, .ref 67), (1, .ref 0), (0, .ref 1000050)] [] N I L P) : SW G (mL nm) room_1 600000 7302250 (lw_c k) (lw_s k) lw_Qr 788 [(3, .int (nI (7 * k))), (2, .ref 67), (1, .ref 0), (0, .ref 1000050)] [] N I L P := by
  obtain ⟨q1, q2, h1, h2, hr, hJ⟩ := hs N I L P hi (g_x G (Int32.toNatClampNeg (nI (7 * k) + 1))) (g_x G (Int32.toNatClampNeg (nI (7 * k) + 2))) (g_x G (Int32.toNatClampNeg (nI (7 * k) + 3)))
  refine s_aload_n (pc := 788) dL_law_788 2 rfl rfl ?_
  refine s_aload_n (pc := 789) dL_law_789 3 rfl rfl ?_
  refine s_iload_n (pc := 790) dL_law_790 0 rfl rfl ?_
  refine s_iconst (pc := 791) dL_law_791 (v := 1) rfl ?_
  refine s_iadd (pc := 792) dL_law_792 ?_
  refine s_xld (pc := 793) dL_law_793 (lw_in (c := 1) hk2 hk (by decide)) ?_
  refine s_aload_n (pc := 794) dL_law_794 3 rfl rfl ?_
  refine s_iload_n (pc := 795) dL_law_795 0 rfl rfl ?_
  refine s_iconst (pc := 796) dL_law_796 (v := 2) rfl ?_
  refine s_iadd (pc := 797) dL_law_797 ?_
  refine s_xld (pc := 798) dL_law_798 (lw_in (c := 2) hk2 hk (by decide)) ?_
  refine s_aload_n (pc := 799) dL_law_799 3 rfl rfl ?_
  refine s_iload_n (pc := 800) dL_law_800 0 rfl rfl ?_
  refine s_iconst (pc := 801) dL_law_801 (v := 3) rfl ?_
  refine s_iadd (pc := 802) dL_law_802 ?_
  refine s_xld (pc := 803) dL_law_803 (lw_in (c := 3) hk2 hk (by decide)) ?_
  refine x_callV (pc := 804) (ci := 11) (d := 20) (mc' := 0) (ms' := 0) dL_law_804 (c_X11_signal (d := 20) (by decide) hv.1 hv.2.1 h1) mk_X11_signal mv_X11_signal ml_L_87 rfl rfl (Nat.le_of_ble_eq_true rfl) hv.2.1 rfl ⟨by decide, by decide⟩ (lw_cs hk2) ?_
  have hw2 := hv.1
  have ht2 := hv.2.2
  refine s_aload_n (pc := 807) dL_law_807 1 rfl rfl ?_
  refine s_aload_n (pc := 808) dL_law_808 3 rfl rfl ?_
  refine s_iload_n (pc := 809) dL_law_809 0 rfl rfl ?_
  refine s_iconst (pc := 810) dL_law_810 (v := 1) rfl ?_
  refine s_iadd (pc := 811) dL_law_811 ?_
  refine s_xld (pc := 812) dL_law_812 (lw_in (c := 1) hk2 hk (by decide)) ?_
  refine s_aload_n (pc := 813) dL_law_813 3 rfl rfl ?_
  refine s_iload_n (pc := 814) dL_law_814 0 rfl rfl ?_
  refine s_iconst (pc := 815) dL_law_815 (v := 2) rfl ?_
  refine s_iadd (pc := 816) dL_law_816 ?_
  refine s_xld (pc := 817) dL_law_817 (lw_in (c := 2) hk2 hk (by decide)) ?_
  refine s_aload_n (pc := 818) dL_law_818 3 rfl rfl ?_
  refine s_iload_n (pc := 819) dL_law_819 0 rfl rfl ?_
  refine s_iconst (pc := 820) dL_law_820 (v := 3) rfl ?_
  refine s_iadd (pc := 821) dL_law_821 ?_
  refine s_xld (pc := 822) dL_law_822 (lw_in (c := 3) hk2 hk (by decide)) ?_
  refine x_callV (pc := 823) (ci := 12) (d := 20) (mc' := 0) (ms' := 0) dL_law_823 (c_X12_signal (d := 20) (by decide) hw2 ht2 h2) mk_X12_signal mv_X12_signal ml_L_90 rfl rfl (Nat.le_of_ble_eq_true rfl) ht2 rfl ⟨by decide, by decide⟩ (lw_cs hk2) ?_
  refine s_icmp_eq (pc := 826) (tgt := 1366) dL_law_826 rfl (fun _ => ?_) (fun hc => absurd hr hc)
  refine s_widen lw_cu.1 lw_cu.2 ?_
  exact kn _ _ _ _ hJ
def Sp_heard (n : Nat) (Iv Jv : pN → pI → pL → pR → Prop) : Prop := ∀ N I L P, Iv N I L P → ∀ (x1 : Int32) (x2 : Int32), ∃ (q1 : Int32 × pI × pL) (q2 : Int32 × pI × pL), f_X11_heard n N I L P 0 x1 x2 = some q1 ∧ f_X12_heard n N q1.2.1 q1.2.2 P 67 x1 x2 = some q2 ∧ q1.1 = q2.1 ∧ Jv N q2.2.1 q2.2.2 P
theorem lc_heard {G : pG} {nm : String} {n k : Nat} {N : pN} {I : pI} {L : pL} {P : pR} {Iv Jv : pN → pI → pL → pR → Prop} (hk2 : k < 512) (hk : 7 * k + 7 ≤ g_n G) (hv : WT N P ∧ p_tp N 0 14 ∧ p_tp N 67 15) (hi : Iv N I L P) (hs : Sp_heard n Iv Jv) (kn : ∀ N I L P, Jv N I L P → SW G (mL nm) room_1 600000 7302250 (lw_c (k + 1)) (lw_s (k + 1)) lw_Qr 1366 [(3, .int (nI (7 * k))), (2, .ref 67), (1, .ref 0), (0, .ref 1000050)] [] N I L P) : SW G (mL nm) room_1 600000 7302250 (lw_c k) (lw_s k) lw_Qr 831 [(3, .int (nI (7 * k))), (2, .ref 67), (1, .ref 0), (0, .ref 1000050)] [] N I L P := by
  obtain ⟨q1, q2, h1, h2, hr, hJ⟩ := hs N I L P hi (g_x G (Int32.toNatClampNeg (nI (7 * k) + 1))) (g_x G (Int32.toNatClampNeg (nI (7 * k) + 2)))
  refine s_aload_n (pc := 831) dL_law_831 2 rfl rfl ?_
  refine s_aload_n (pc := 832) dL_law_832 3 rfl rfl ?_
  refine s_iload_n (pc := 833) dL_law_833 0 rfl rfl ?_
  refine s_iconst (pc := 834) dL_law_834 (v := 1) rfl ?_
  refine s_iadd (pc := 835) dL_law_835 ?_
  refine s_xld (pc := 836) dL_law_836 (lw_in (c := 1) hk2 hk (by decide)) ?_
  refine s_aload_n (pc := 837) dL_law_837 3 rfl rfl ?_
  refine s_iload_n (pc := 838) dL_law_838 0 rfl rfl ?_
  refine s_iconst (pc := 839) dL_law_839 (v := 2) rfl ?_
  refine s_iadd (pc := 840) dL_law_840 ?_
  refine s_xld (pc := 841) dL_law_841 (lw_in (c := 2) hk2 hk (by decide)) ?_
  refine x_callV (pc := 842) (ci := 11) (d := 20) (mc' := 0) (ms' := 0) dL_law_842 (c_X11_heard (d := 20) (by decide) hv.1 hv.2.1 h1) mk_X11_heard mv_X11_heard ml_L_91 rfl rfl (Nat.le_of_ble_eq_true rfl) hv.2.1 rfl ⟨by decide, by decide⟩ (lw_cs hk2) ?_
  have hw2 := hv.1
  have ht2 := hv.2.2
  refine s_aload_n (pc := 845) dL_law_845 1 rfl rfl ?_
  refine s_aload_n (pc := 846) dL_law_846 3 rfl rfl ?_
  refine s_iload_n (pc := 847) dL_law_847 0 rfl rfl ?_
  refine s_iconst (pc := 848) dL_law_848 (v := 1) rfl ?_
  refine s_iadd (pc := 849) dL_law_849 ?_
  refine s_xld (pc := 850) dL_law_850 (lw_in (c := 1) hk2 hk (by decide)) ?_
  refine s_aload_n (pc := 851) dL_law_851 3 rfl rfl ?_
  refine s_iload_n (pc := 852) dL_law_852 0 rfl rfl ?_
  refine s_iconst (pc := 853) dL_law_853 (v := 2) rfl ?_
  refine s_iadd (pc := 854) dL_law_854 ?_
  refine s_xld (pc := 855) dL_law_855 (lw_in (c := 2) hk2 hk (by decide)) ?_
  refine x_callV (pc := 856) (ci := 12) (d := 20) (mc' := 0) (ms' := 0) dL_law_856 (c_X12_heard (d := 20) (by decide) hw2 ht2 h2) mk_X12_heard mv_X12_heard ml_L_94 rfl rfl (Nat.le_of_ble_eq_true rfl) ht2 rfl ⟨by decide, by decide⟩ (lw_cs hk2) ?_
  refine s_icmp_eq (pc := 859) (tgt := 1366) dL_law_859 rfl (fun _ => ?_) (fun hc => absurd hr hc)
  refine s_widen lw_cu.1 lw_cu.2 ?_
  exact kn _ _ _ _ hJ
def Sp_best (n : Nat) (Iv Jv : pN → pI → pL → pR → Prop) : Prop := ∀ N I L P, Iv N I L P → ∀ (x1 : Int32) (x2 : Int32), ∃ (q1 : Int32 × pI × pL) (q2 : Int32 × pI × pL), f_X11_best n N I L P 0 x1 x2 = some q1 ∧ f_X12_best n N q1.2.1 q1.2.2 P 67 x1 x2 = some q2 ∧ q1.1 = q2.1 ∧ Jv N q2.2.1 q2.2.2 P
theorem lc_best {G : pG} {nm : String} {n k : Nat} {N : pN} {I : pI} {L : pL} {P : pR} {Iv Jv : pN → pI → pL → pR → Prop} (hk2 : k < 512) (hk : 7 * k + 7 ≤ g_n G) (hv : WT N P ∧ p_tp N 0 14 ∧ p_tp N 67 15) (hi : Iv N I L P) (hs : Sp_best n Iv Jv) (kn : ∀ N I L P, Jv N I L P → SW G (mL nm) room_1 600000 7302250 (lw_c (k + 1)) (lw_s (k + 1)) lw_Qr 1366 [(3, .int (nI (7 * k))), (2, .ref 67), (1, .ref 0), (0, .ref 1000050)] [] N I L P) : SW G (mL nm) room_1 600000 7302250 (lw_c k) (lw_s k) lw_Qr 864 [(3, .int (nI (7 * k))), (2, .ref 67), (1, .ref 0), (0, .ref 1000050)] [] N I L P := by
  obtain ⟨q1, q2, h1, h2, hr, hJ⟩ := hs N I L P hi (g_x G (Int32.toNatClampNeg (nI (7 * k) + 1))) (g_x G (Int32.toNatClampNeg (nI (7 * k) + 2)))
  refine s_aload_n (pc := 864) dL_law_864 2 rfl rfl ?_
  refine s_aload_n (pc := 865) dL_law_865 3 rfl rfl ?_
  refine s_iload_n (pc := 866) dL_law_866 0 rfl rfl ?_
  refine s_iconst (pc := 867) dL_law_867 (v := 1) rfl ?_
  refine s_iadd (pc := 868) dL_law_868 ?_
  refine s_xld (pc := 869) dL_law_869 (lw_in (c := 1) hk2 hk (by decide)) ?_
  refine s_aload_n (pc := 870) dL_law_870 3 rfl rfl ?_
  refine s_iload_n (pc := 871) dL_law_871 0 rfl rfl ?_
  refine s_iconst (pc := 872) dL_law_872 (v := 2) rfl ?_
  refine s_iadd (pc := 873) dL_law_873 ?_
  refine s_xld (pc := 874) dL_law_874 (lw_in (c := 2) hk2 hk (by decide)) ?_
  refine x_callV (pc := 875) (ci := 11) (d := 20) (mc' := 0) (ms' := 0) dL_law_875 (c_X11_best (d := 20) (by decide) hv.1 hv.2.1 h1) mk_X11_best mv_X11_best ml_L_95 rfl rfl (Nat.le_of_ble_eq_true rfl) hv.2.1 rfl ⟨by decide, by decide⟩ (lw_cs hk2) ?_
  have hw2 := hv.1
  have ht2 := hv.2.2
  refine s_aload_n (pc := 878) dL_law_878 1 rfl rfl ?_
  refine s_aload_n (pc := 879) dL_law_879 3 rfl rfl ?_
  refine s_iload_n (pc := 880) dL_law_880 0 rfl rfl ?_
  refine s_iconst (pc := 881) dL_law_881 (v := 1) rfl ?_
  refine s_iadd (pc := 882) dL_law_882 ?_
  refine s_xld (pc := 883) dL_law_883 (lw_in (c := 1) hk2 hk (by decide)) ?_
  refine s_aload_n (pc := 884) dL_law_884 3 rfl rfl ?_
  refine s_iload_n (pc := 885) dL_law_885 0 rfl rfl ?_
  refine s_iconst (pc := 886) dL_law_886 (v := 2) rfl ?_
  refine s_iadd (pc := 887) dL_law_887 ?_
  refine s_xld (pc := 888) dL_law_888 (lw_in (c := 2) hk2 hk (by decide)) ?_
  refine x_callV (pc := 889) (ci := 12) (d := 20) (mc' := 0) (ms' := 0) dL_law_889 (c_X12_best (d := 20) (by decide) hw2 ht2 h2) mk_X12_best mv_X12_best ml_L_98 rfl rfl (Nat.le_of_ble_eq_true rfl) ht2 rfl ⟨by decide, by decide⟩ (lw_cs hk2) ?_
  refine s_icmp_eq (pc := 892) (tgt := 1366) dL_law_892 rfl (fun _ => ?_) (fun hc => absurd hr hc)
  refine s_widen lw_cu.1 lw_cu.2 ?_
  exact kn _ _ _ _ hJ
def Sp_step (n : Nat) (Iv Jv : pN → pI → pL → pR → Prop) : Prop := ∀ N I L P, Iv N I L P → ∀ (x1 : Int32) (x2 : Int32), ∃ (q1 : Int32 × pI) (q2 : Int32 × pI), f_X11_step N I P 0 x1 x2 = some q1 ∧ f_X12_step N q1.2 P 67 x1 x2 = some q2 ∧ q1.1 = q2.1 ∧ Jv N q2.2 L P
theorem lc_step {G : pG} {nm : String} {n k : Nat} {N : pN} {I : pI} {L : pL} {P : pR} {Iv Jv : pN → pI → pL → pR → Prop} (hk2 : k < 512) (hk : 7 * k + 7 ≤ g_n G) (hv : WT N P ∧ p_tp N 0 14 ∧ p_tp N 67 15) (hi : Iv N I L P) (hs : Sp_step n Iv Jv) (kn : ∀ N I L P, Jv N I L P → SW G (mL nm) room_1 600000 7302250 (lw_c (k + 1)) (lw_s (k + 1)) lw_Qr 1366 [(3, .int (nI (7 * k))), (2, .ref 67), (1, .ref 0), (0, .ref 1000050)] [] N I L P) : SW G (mL nm) room_1 600000 7302250 (lw_c k) (lw_s k) lw_Qr 897 [(3, .int (nI (7 * k))), (2, .ref 67), (1, .ref 0), (0, .ref 1000050)] [] N I L P := by
  obtain ⟨q1, q2, h1, h2, hr, hJ⟩ := hs N I L P hi (g_x G (Int32.toNatClampNeg (nI (7 * k) + 1))) (g_x G (Int32.toNatClampNeg (nI (7 * k) + 2)))
  refine s_aload_n (pc := 897) dL_law_897 2 rfl rfl ?_
  refine s_aload_n (pc := 898) dL_law_898 3 rfl rfl ?_
  refine s_iload_n (pc := 899) dL_law_899 0 rfl rfl ?_
  refine s_iconst (pc := 900) dL_law_900 (v := 1) rfl ?_
  refine s_iadd (pc := 901) dL_law_901 ?_
  refine s_xld (pc := 902) dL_law_902 (lw_in (c := 1) hk2 hk (by decide)) ?_
  refine s_aload_n (pc := 903) dL_law_903 3 rfl rfl ?_
  refine s_iload_n (pc := 904) dL_law_904 0 rfl rfl ?_
  refine s_iconst (pc := 905) dL_law_905 (v := 2) rfl ?_
  refine s_iadd (pc := 906) dL_law_906 ?_
  refine s_xld (pc := 907) dL_law_907 (lw_in (c := 2) hk2 hk (by decide)) ?_
  refine x_callV (pc := 908) (ci := 11) (d := 20) (mc' := 0) (ms' := 0) dL_law_908 (c_X11_step (d := 20) (by decide) hv.1 hv.2.1 h1) mk_X11_step mv_X11_step ml_L_99 rfl rfl (Nat.le_of_ble_eq_true rfl) hv.2.1 rfl ⟨by decide, by decide⟩ (lw_cs hk2) ?_
  have hw2 := hv.1
  have ht2 := hv.2.2
  refine s_aload_n (pc := 911) dL_law_911 1 rfl rfl ?_
  refine s_aload_n (pc := 912) dL_law_912 3 rfl rfl ?_
  refine s_iload_n (pc := 913) dL_law_913 0 rfl rfl ?_
  refine s_iconst (pc := 914) dL_law_914 (v := 1) rfl ?_
  refine s_iadd (pc := 915) dL_law_915 ?_
  refine s_xld (pc := 916) dL_law_916 (lw_in (c := 1) hk2 hk (by decide)) ?_
  refine s_aload_n (pc := 917) dL_law_917 3 rfl rfl ?_
  refine s_iload_n (pc := 918) dL_law_918 0 rfl rfl ?_
  refine s_iconst (pc := 919) dL_law_919 (v := 2) rfl ?_
  refine s_iadd (pc := 920) dL_law_920 ?_
  refine s_xld (pc := 921) dL_law_921 (lw_in (c := 2) hk2 hk (by decide)) ?_
  refine x_callV (pc := 922) (ci := 12) (d := 20) (mc' := 0) (ms' := 0) dL_law_922 (c_X12_step (d := 20) (by decide) hw2 ht2 h2) mk_X12_step mv_X12_step ml_L_102 rfl rfl (Nat.le_of_ble_eq_true rfl) ht2 rfl ⟨by decide, by decide⟩ (lw_cs hk2) ?_
  refine s_icmp_eq (pc := 925) (tgt := 1366) dL_law_925 rfl (fun _ => ?_) (fun hc => absurd hr hc)
  refine s_widen lw_cu.1 lw_cu.2 ?_
  exact kn _ _ _ _ hJ
def Sp_unwalk (n : Nat) (Iv Jv : pN → pI → pL → pR → Prop) : Prop := ∀ N I L P, Iv N I L P → ∃ (q1 : pI) (q2 : pI), f_X11_unwalk I P 0 = some q1 ∧ f_X12_unwalk N q1 P 67 = some q2 ∧ Jv N q2 L P
theorem lc_unwalk {G : pG} {nm : String} {n k : Nat} {N : pN} {I : pI} {L : pL} {P : pR} {Iv Jv : pN → pI → pL → pR → Prop} (hk2 : k < 512) (hk : 7 * k + 7 ≤ g_n G) (hv : WT N P ∧ p_tp N 0 14 ∧ p_tp N 67 15) (hi : Iv N I L P) (hs : Sp_unwalk n Iv Jv) (kn : ∀ N I L P, Jv N I L P → SW G (mL nm) room_1 600000 7302250 (lw_c (k + 1)) (lw_s (k + 1)) lw_Qr 1366 [(3, .int (nI (7 * k))), (2, .ref 67), (1, .ref 0), (0, .ref 1000050)] [] N I L P) : SW G (mL nm) room_1 600000 7302250 (lw_c k) (lw_s k) lw_Qr 930 [(3, .int (nI (7 * k))), (2, .ref 67), (1, .ref 0), (0, .ref 1000050)] [] N I L P := by
  obtain ⟨q1, q2, h1, h2, hJ⟩ := hs N I L P hi
  refine s_aload_n (pc := 930) dL_law_930 2 rfl rfl ?_
  refine x_callV (pc := 931) (ci := 11) (d := 20) (mc' := 0) (ms' := 0) dL_law_931 (c_X11_unwalk (d := 20) (by decide) hv.1 hv.2.1 h1) mk_X11_unwalk mv_X11_unwalk ml_L_103 rfl rfl (Nat.le_of_ble_eq_true rfl) hv.2.1 rfl ⟨by decide, by decide⟩ (lw_cs hk2) ?_
  have hw2 := hv.1
  have ht2 := hv.2.2
  refine s_aload_n (pc := 934) dL_law_934 1 rfl rfl ?_
  refine x_callV (pc := 935) (ci := 12) (d := 20) (mc' := 0) (ms' := 0) dL_law_935 (c_X12_unwalk (d := 20) (by decide) hw2 ht2 h2) mk_X12_unwalk mv_X12_unwalk ml_L_106 rfl rfl (Nat.le_of_ble_eq_true rfl) ht2 rfl ⟨by decide, by decide⟩ (lw_cs hk2) ?_
  refine s_goto (pc := 938) (tgt := 1366) dL_law_938 rfl ?_
  refine s_widen lw_cu.1 lw_cu.2 ?_
  exact kn _ _ _ _ hJ
def Sp_served (n : Nat) (Iv Jv : pN → pI → pL → pR → Prop) : Prop := ∀ N I L P, Iv N I L P → ∀ (x1 : Int32), ∃ (q1 : Int32 × pI × pL) (q2 : Int32 × pI × pL), f_X11_served n N I L P 0 x1 = some q1 ∧ f_X12_served n N q1.2.1 q1.2.2 P 67 x1 = some q2 ∧ q1.1 = q2.1 ∧ Jv N q2.2.1 q2.2.2 P
theorem lc_served {G : pG} {nm : String} {n k : Nat} {N : pN} {I : pI} {L : pL} {P : pR} {Iv Jv : pN → pI → pL → pR → Prop} (hk2 : k < 512) (hk : 7 * k + 7 ≤ g_n G) (hv : WT N P ∧ p_tp N 0 14 ∧ p_tp N 67 15) (hi : Iv N I L P) (hs : Sp_served n Iv Jv) (kn : ∀ N I L P, Jv N I L P → SW G (mL nm) room_1 600000 7302250 (lw_c (k + 1)) (lw_s (k + 1)) lw_Qr 1366 [(3, .int (nI (7 * k))), (2, .ref 67), (1, .ref 0), (0, .ref 1000050)] [] N I L P) : SW G (mL nm) room_1 600000 7302250 (lw_c k) (lw_s k) lw_Qr 941 [(3, .int (nI (7 * k))), (2, .ref 67), (1, .ref 0), (0, .ref 1000050)] [] N I L P := by
  obtain ⟨q1, q2, h1, h2, hr, hJ⟩ := hs N I L P hi (g_x G (Int32.toNatClampNeg (nI (7 * k) + 1)))
  refine s_aload_n (pc := 941) dL_law_941 2 rfl rfl ?_
  refine s_aload_n (pc := 942) dL_law_942 3 rfl rfl ?_
  refine s_iload_n (pc := 943) dL_law_943 0 rfl rfl ?_
  refine s_iconst (pc := 944) dL_law_944 (v := 1) rfl ?_
  refine s_iadd (pc := 945) dL_law_945 ?_
  refine s_xld (pc := 946) dL_law_946 (lw_in (c := 1) hk2 hk (by decide)) ?_
  refine x_callV (pc := 947) (ci := 11) (d := 20) (mc' := 0) (ms' := 0) dL_law_947 (c_X11_served (d := 20) (by decide) hv.1 hv.2.1 h1) mk_X11_served mv_X11_served ml_L_107 rfl rfl (Nat.le_of_ble_eq_true rfl) hv.2.1 rfl ⟨by decide, by decide⟩ (lw_cs hk2) ?_
  have hw2 := hv.1
  have ht2 := hv.2.2
  refine s_aload_n (pc := 950) dL_law_950 1 rfl rfl ?_
  refine s_aload_n (pc := 951) dL_law_951 3 rfl rfl ?_
  refine s_iload_n (pc := 952) dL_law_952 0 rfl rfl ?_
  refine s_iconst (pc := 953) dL_law_953 (v := 1) rfl ?_
  refine s_iadd (pc := 954) dL_law_954 ?_
  refine s_xld (pc := 955) dL_law_955 (lw_in (c := 1) hk2 hk (by decide)) ?_
  refine x_callV (pc := 956) (ci := 12) (d := 20) (mc' := 0) (ms' := 0) dL_law_956 (c_X12_served (d := 20) (by decide) hw2 ht2 h2) mk_X12_served mv_X12_served ml_L_110 rfl rfl (Nat.le_of_ble_eq_true rfl) ht2 rfl ⟨by decide, by decide⟩ (lw_cs hk2) ?_
  refine s_icmp_eq (pc := 959) (tgt := 1366) dL_law_959 rfl (fun _ => ?_) (fun hc => absurd hr hc)
  refine s_widen lw_cu.1 lw_cu.2 ?_
  exact kn _ _ _ _ hJ
def Sp_walk (n : Nat) (Iv Jv : pN → pI → pL → pR → Prop) : Prop := ∀ N I L P, Iv N I L P → ∀ (x1 : Int32), ∃ (q1 : Int32 × pI × pL) (q2 : Int32 × pI × pL), f_X11_walk n N I L P 0 x1 = some q1 ∧ f_X12_walk n N q1.2.1 q1.2.2 P 67 x1 = some q2 ∧ q1.1 = q2.1 ∧ Jv N q2.2.1 q2.2.2 P
theorem lc_walk {G : pG} {nm : String} {n k : Nat} {N : pN} {I : pI} {L : pL} {P : pR} {Iv Jv : pN → pI → pL → pR → Prop} (hk2 : k < 512) (hk : 7 * k + 7 ≤ g_n G) (hv : WT N P ∧ p_tp N 0 14 ∧ p_tp N 67 15) (hi : Iv N I L P) (hs : Sp_walk n Iv Jv) (kn : ∀ N I L P, Jv N I L P → SW G (mL nm) room_1 600000 7302250 (lw_c (k + 1)) (lw_s (k + 1)) lw_Qr 1366 [(3, .int (nI (7 * k))), (2, .ref 67), (1, .ref 0), (0, .ref 1000050)] [] N I L P) : SW G (mL nm) room_1 600000 7302250 (lw_c k) (lw_s k) lw_Qr 964 [(3, .int (nI (7 * k))), (2, .ref 67), (1, .ref 0), (0, .ref 1000050)] [] N I L P := by
  obtain ⟨q1, q2, h1, h2, hr, hJ⟩ := hs N I L P hi (g_x G (Int32.toNatClampNeg (nI (7 * k) + 1)))
  refine s_aload_n (pc := 964) dL_law_964 2 rfl rfl ?_
  refine s_aload_n (pc := 965) dL_law_965 3 rfl rfl ?_
  refine s_iload_n (pc := 966) dL_law_966 0 rfl rfl ?_
  refine s_iconst (pc := 967) dL_law_967 (v := 1) rfl ?_
  refine s_iadd (pc := 968) dL_law_968 ?_
  refine s_xld (pc := 969) dL_law_969 (lw_in (c := 1) hk2 hk (by decide)) ?_
  refine x_callV (pc := 970) (ci := 11) (d := 20) (mc' := 0) (ms' := 0) dL_law_970 (c_X11_walk (d := 20) (by decide) hv.1 hv.2.1 h1) mk_X11_walk mv_X11_walk ml_L_111 rfl rfl (Nat.le_of_ble_eq_true rfl) hv.2.1 rfl ⟨by decide, by decide⟩ (lw_cs hk2) ?_
  have hw2 := hv.1
  have ht2 := hv.2.2
  refine s_aload_n (pc := 973) dL_law_973 1 rfl rfl ?_
  refine s_aload_n (pc := 974) dL_law_974 3 rfl rfl ?_
  refine s_iload_n (pc := 975) dL_law_975 0 rfl rfl ?_
  refine s_iconst (pc := 976) dL_law_976 (v := 1) rfl ?_
  refine s_iadd (pc := 977) dL_law_977 ?_
  refine s_xld (pc := 978) dL_law_978 (lw_in (c := 1) hk2 hk (by decide)) ?_
  refine x_callV (pc := 979) (ci := 12) (d := 20) (mc' := 0) (ms' := 0) dL_law_979 (c_X12_walk (d := 20) (by decide) hw2 ht2 h2) mk_X12_walk mv_X12_walk ml_L_114 rfl rfl (Nat.le_of_ble_eq_true rfl) ht2 rfl ⟨by decide, by decide⟩ (lw_cs hk2) ?_
  refine s_icmp_eq (pc := 982) (tgt := 1366) dL_law_982 rfl (fun _ => ?_) (fun hc => absurd hr hc)
  refine s_widen lw_cu.1 lw_cu.2 ?_
  exact kn _ _ _ _ hJ
def Sp_cover (n : Nat) (Iv Jv : pN → pI → pL → pR → Prop) : Prop := ∀ N I L P, Iv N I L P → ∀ (x1 : Int32), ∃ (q1 : Int32 × pI × pL) (q2 : Int32 × pI × pL), f_X11_cover n N I L P 0 x1 = some q1 ∧ f_X12_cover n N q1.2.1 q1.2.2 P 67 x1 = some q2 ∧ q1.1 = q2.1 ∧ Jv N q2.2.1 q2.2.2 P
theorem lc_cover {G : pG} {nm : String} {n k : Nat} {N : pN} {I : pI} {L : pL} {P : pR} {Iv Jv : pN → pI → pL → pR → Prop} (hk2 : k < 512) (hk : 7 * k + 7 ≤ g_n G) (hv : WT N P ∧ p_tp N 0 14 ∧ p_tp N 67 15) (hi : Iv N I L P) (hs : Sp_cover n Iv Jv) (kn : ∀ N I L P, Jv N I L P → SW G (mL nm) room_1 600000 7302250 (lw_c (k + 1)) (lw_s (k + 1)) lw_Qr 1366 [(3, .int (nI (7 * k))), (2, .ref 67), (1, .ref 0), (0, .ref 1000050)] [] N I L P) : SW G (mL nm) room_1 600000 7302250 (lw_c k) (lw_s k) lw_Qr 987 [(3, .int (nI (7 * k))), (2, .ref 67), (1, .ref 0), (0, .ref 1000050)] [] N I L P := by
  obtain ⟨q1, q2, h1, h2, hr, hJ⟩ := hs N I L P hi (g_x G (Int32.toNatClampNeg (nI (7 * k) + 1)))
  refine s_aload_n (pc := 987) dL_law_987 2 rfl rfl ?_
  refine s_aload_n (pc := 988) dL_law_988 3 rfl rfl ?_
  refine s_iload_n (pc := 989) dL_law_989 0 rfl rfl ?_
  refine s_iconst (pc := 990) dL_law_990 (v := 1) rfl ?_
  refine s_iadd (pc := 991) dL_law_991 ?_
  refine s_xld (pc := 992) dL_law_992 (lw_in (c := 1) hk2 hk (by decide)) ?_
  refine x_callV (pc := 993) (ci := 11) (d := 20) (mc' := 0) (ms' := 0) dL_law_993 (c_X11_cover (d := 20) (by decide) hv.1 hv.2.1 h1) mk_X11_cover mv_X11_cover ml_L_115 rfl rfl (Nat.le_of_ble_eq_true rfl) hv.2.1 rfl ⟨by decide, by decide⟩ (lw_cs hk2) ?_
  have hw2 := hv.1
  have ht2 := hv.2.2
  refine s_aload_n (pc := 996) dL_law_996 1 rfl rfl ?_
  refine s_aload_n (pc := 997) dL_law_997 3 rfl rfl ?_
  refine s_iload_n (pc := 998) dL_law_998 0 rfl rfl ?_
  refine s_iconst (pc := 999) dL_law_999 (v := 1) rfl ?_
  refine s_iadd (pc := 1000) dL_law_1000 ?_
  refine s_xld (pc := 1001) dL_law_1001 (lw_in (c := 1) hk2 hk (by decide)) ?_
  refine x_callV (pc := 1002) (ci := 12) (d := 20) (mc' := 0) (ms' := 0) dL_law_1002 (c_X12_cover (d := 20) (by decide) hw2 ht2 h2) mk_X12_cover mv_X12_cover ml_L_118 rfl rfl (Nat.le_of_ble_eq_true rfl) ht2 rfl ⟨by decide, by decide⟩ (lw_cs hk2) ?_
  refine s_icmp_eq (pc := 1005) (tgt := 1366) dL_law_1005 rfl (fun _ => ?_) (fun hc => absurd hr hc)
  refine s_widen lw_cu.1 lw_cu.2 ?_
  exact kn _ _ _ _ hJ
def Sp_serves (n : Nat) (Iv Jv : pN → pI → pL → pR → Prop) : Prop := ∀ N I L P, Iv N I L P → ∀ (x1 : Int32) (x2 : Int32), ∃ (q1 : Int32 × pI × pL) (q2 : Int32 × pI × pL), f_X11_serves n N I L P 0 x1 x2 = some q1 ∧ f_X12_serves n N q1.2.1 q1.2.2 P 67 x1 x2 = some q2 ∧ q1.1 = q2.1 ∧ Jv N q2.2.1 q2.2.2 P
theorem lc_serves {G : pG} {nm : String} {n k : Nat} {N : pN} {I : pI} {L : pL} {P : pR} {Iv Jv : pN → pI → pL → pR → Prop} (hk2 : k < 512) (hk : 7 * k + 7 ≤ g_n G) (hv : WT N P ∧ p_tp N 0 14 ∧ p_tp N 67 15) (hi : Iv N I L P) (hs : Sp_serves n Iv Jv) (kn : ∀ N I L P, Jv N I L P → SW G (mL nm) room_1 600000 7302250 (lw_c (k + 1)) (lw_s (k + 1)) lw_Qr 1366 [(3, .int (nI (7 * k))), (2, .ref 67), (1, .ref 0), (0, .ref 1000050)] [] N I L P) : SW G (mL nm) room_1 600000 7302250 (lw_c k) (lw_s k) lw_Qr 1010 [(3, .int (nI (7 * k))), (2, .ref 67), (1, .ref 0), (0, .ref 1000050)] [] N I L P := by
  obtain ⟨q1, q2, h1, h2, hr, hJ⟩ := hs N I L P hi (g_x G (Int32.toNatClampNeg (nI (7 * k) + 1))) (g_x G (Int32.toNatClampNeg (nI (7 * k) + 2)))
  refine s_aload_n (pc := 1010) dL_law_1010 2 rfl rfl ?_
  refine s_aload_n (pc := 1011) dL_law_1011 3 rfl rfl ?_
  refine s_iload_n (pc := 1012) dL_law_1012 0 rfl rfl ?_
  refine s_iconst (pc := 1013) dL_law_1013 (v := 1) rfl ?_
  refine s_iadd (pc := 1014) dL_law_1014 ?_
  refine s_xld (pc := 1015) dL_law_1015 (lw_in (c := 1) hk2 hk (by decide)) ?_
  refine s_aload_n (pc := 1016) dL_law_1016 3 rfl rfl ?_
  refine s_iload_n (pc := 1017) dL_law_1017 0 rfl rfl ?_
  refine s_iconst (pc := 1018) dL_law_1018 (v := 2) rfl ?_
  refine s_iadd (pc := 1019) dL_law_1019 ?_
  refine s_xld (pc := 1020) dL_law_1020 (lw_in (c := 2) hk2 hk (by decide)) ?_
  refine x_callV (pc := 1021) (ci := 11) (d := 20) (mc' := 0) (ms' := 0) dL_law_1021 (c_X11_serves (d := 20) (by decide) hv.1 hv.2.1 h1) mk_X11_serves mv_X11_serves ml_L_119 rfl rfl (Nat.le_of_ble_eq_true rfl) hv.2.1 rfl ⟨by decide, by decide⟩ (lw_cs hk2) ?_
  have hw2 := hv.1
  have ht2 := hv.2.2
  refine s_aload_n (pc := 1024) dL_law_1024 1 rfl rfl ?_
  refine s_aload_n (pc := 1025) dL_law_1025 3 rfl rfl ?_
  refine s_iload_n (pc := 1026) dL_law_1026 0 rfl rfl ?_
  refine s_iconst (pc := 1027) dL_law_1027 (v := 1) rfl ?_
  refine s_iadd (pc := 1028) dL_law_1028 ?_
  refine s_xld (pc := 1029) dL_law_1029 (lw_in (c := 1) hk2 hk (by decide)) ?_
  refine s_aload_n (pc := 1030) dL_law_1030 3 rfl rfl ?_
  refine s_iload_n (pc := 1031) dL_law_1031 0 rfl rfl ?_
  refine s_iconst (pc := 1032) dL_law_1032 (v := 2) rfl ?_
  refine s_iadd (pc := 1033) dL_law_1033 ?_
  refine s_xld (pc := 1034) dL_law_1034 (lw_in (c := 2) hk2 hk (by decide)) ?_
  refine x_callV (pc := 1035) (ci := 12) (d := 20) (mc' := 0) (ms' := 0) dL_law_1035 (c_X12_serves (d := 20) (by decide) hw2 ht2 h2) mk_X12_serves mv_X12_serves ml_L_122 rfl rfl (Nat.le_of_ble_eq_true rfl) ht2 rfl ⟨by decide, by decide⟩ (lw_cs hk2) ?_
  refine s_icmp_eq (pc := 1038) (tgt := 1366) dL_law_1038 rfl (fun _ => ?_) (fun hc => absurd hr hc)
  refine s_widen lw_cu.1 lw_cu.2 ?_
  exact kn _ _ _ _ hJ
def Sp_clash (n : Nat) (Iv Jv : pN → pI → pL → pR → Prop) : Prop := ∀ N I L P, Iv N I L P → ∀ (x1 : Int32) (x2 : Int32), ∃ (q1 : Int32 × pI × pL) (q2 : Int32 × pI × pL), f_X11_clash n N I L P 0 x1 x2 = some q1 ∧ f_X12_clash n N q1.2.1 q1.2.2 P 67 x1 x2 = some q2 ∧ q1.1 = q2.1 ∧ Jv N q2.2.1 q2.2.2 P
theorem lc_clash {G : pG} {nm : String} {n k : Nat} {N : pN} {I : pI} {L : pL} {P : pR} {Iv Jv : pN → pI → pL → pR → Prop} (hk2 : k < 512) (hk : 7 * k + 7 ≤ g_n G) (hv : WT N P ∧ p_tp N 0 14 ∧ p_tp N 67 15) (hi : Iv N I L P) (hs : Sp_clash n Iv Jv) (kn : ∀ N I L P, Jv N I L P → SW G (mL nm) room_1 600000 7302250 (lw_c (k + 1)) (lw_s (k + 1)) lw_Qr 1366 [(3, .int (nI (7 * k))), (2, .ref 67), (1, .ref 0), (0, .ref 1000050)] [] N I L P) : SW G (mL nm) room_1 600000 7302250 (lw_c k) (lw_s k) lw_Qr 1043 [(3, .int (nI (7 * k))), (2, .ref 67), (1, .ref 0), (0, .ref 1000050)] [] N I L P := by
  obtain ⟨q1, q2, h1, h2, hr, hJ⟩ := hs N I L P hi (g_x G (Int32.toNatClampNeg (nI (7 * k) + 1))) (g_x G (Int32.toNatClampNeg (nI (7 * k) + 2)))
  refine s_aload_n (pc := 1043) dL_law_1043 2 rfl rfl ?_
  refine s_aload_n (pc := 1044) dL_law_1044 3 rfl rfl ?_
  refine s_iload_n (pc := 1045) dL_law_1045 0 rfl rfl ?_
  refine s_iconst (pc := 1046) dL_law_1046 (v := 1) rfl ?_
  refine s_iadd (pc := 1047) dL_law_1047 ?_
  refine s_xld (pc := 1048) dL_law_1048 (lw_in (c := 1) hk2 hk (by decide)) ?_
  refine s_aload_n (pc := 1049) dL_law_1049 3 rfl rfl ?_
  refine s_iload_n (pc := 1050) dL_law_1050 0 rfl rfl ?_
  refine s_iconst (pc := 1051) dL_law_1051 (v := 2) rfl ?_
  refine s_iadd (pc := 1052) dL_law_1052 ?_
  refine s_xld (pc := 1053) dL_law_1053 (lw_in (c := 2) hk2 hk (by decide)) ?_
  refine x_callV (pc := 1054) (ci := 11) (d := 20) (mc' := 0) (ms' := 0) dL_law_1054 (c_X11_clash (d := 20) (by decide) hv.1 hv.2.1 h1) mk_X11_clash mv_X11_clash ml_L_123 rfl rfl (Nat.le_of_ble_eq_true rfl) hv.2.1 rfl ⟨by decide, by decide⟩ (lw_cs hk2) ?_
  have hw2 := hv.1
  have ht2 := hv.2.2
  refine s_aload_n (pc := 1057) dL_law_1057 1 rfl rfl ?_
  refine s_aload_n (pc := 1058) dL_law_1058 3 rfl rfl ?_
  refine s_iload_n (pc := 1059) dL_law_1059 0 rfl rfl ?_
  refine s_iconst (pc := 1060) dL_law_1060 (v := 1) rfl ?_
  refine s_iadd (pc := 1061) dL_law_1061 ?_
  refine s_xld (pc := 1062) dL_law_1062 (lw_in (c := 1) hk2 hk (by decide)) ?_
  refine s_aload_n (pc := 1063) dL_law_1063 3 rfl rfl ?_
  refine s_iload_n (pc := 1064) dL_law_1064 0 rfl rfl ?_
  refine s_iconst (pc := 1065) dL_law_1065 (v := 2) rfl ?_
  refine s_iadd (pc := 1066) dL_law_1066 ?_
  refine s_xld (pc := 1067) dL_law_1067 (lw_in (c := 2) hk2 hk (by decide)) ?_
  refine x_callV (pc := 1068) (ci := 12) (d := 20) (mc' := 0) (ms' := 0) dL_law_1068 (c_X12_clash (d := 20) (by decide) hw2 ht2 h2) mk_X12_clash mv_X12_clash ml_L_126 rfl rfl (Nat.le_of_ble_eq_true rfl) ht2 rfl ⟨by decide, by decide⟩ (lw_cs hk2) ?_
  refine s_icmp_eq (pc := 1071) (tgt := 1366) dL_law_1071 rfl (fun _ => ?_) (fun hc => absurd hr hc)
  refine s_widen lw_cu.1 lw_cu.2 ?_
  exact kn _ _ _ _ hJ
def Sp_colour (n : Nat) (Iv Jv : pN → pI → pL → pR → Prop) : Prop := ∀ N I L P, Iv N I L P → ∀ (x1 : Int32), ∃ (q1 : Int32 × pI × pL) (q2 : Int32 × pI × pL), f_X11_colour n N I L P 0 x1 = some q1 ∧ f_X12_colour n N q1.2.1 q1.2.2 P 67 x1 = some q2 ∧ q1.1 = q2.1 ∧ Jv N q2.2.1 q2.2.2 P
theorem lc_colour {G : pG} {nm : String} {n k : Nat} {N : pN} {I : pI} {L : pL} {P : pR} {Iv Jv : pN → pI → pL → pR → Prop} (hk2 : k < 512) (hk : 7 * k + 7 ≤ g_n G) (hv : WT N P ∧ p_tp N 0 14 ∧ p_tp N 67 15) (hi : Iv N I L P) (hs : Sp_colour n Iv Jv) (kn : ∀ N I L P, Jv N I L P → SW G (mL nm) room_1 600000 7302250 (lw_c (k + 1)) (lw_s (k + 1)) lw_Qr 1366 [(3, .int (nI (7 * k))), (2, .ref 67), (1, .ref 0), (0, .ref 1000050)] [] N I L P) : SW G (mL nm) room_1 600000 7302250 (lw_c k) (lw_s k) lw_Qr 1076 [(3, .int (nI (7 * k))), (2, .ref 67), (1, .ref 0), (0, .ref 1000050)] [] N I L P := by
  obtain ⟨q1, q2, h1, h2, hr, hJ⟩ := hs N I L P hi (g_x G (Int32.toNatClampNeg (nI (7 * k) + 1)))
  refine s_aload_n (pc := 1076) dL_law_1076 2 rfl rfl ?_
  refine s_aload_n (pc := 1077) dL_law_1077 3 rfl rfl ?_
  refine s_iload_n (pc := 1078) dL_law_1078 0 rfl rfl ?_
  refine s_iconst (pc := 1079) dL_law_1079 (v := 1) rfl ?_
  refine s_iadd (pc := 1080) dL_law_1080 ?_
  refine s_xld (pc := 1081) dL_law_1081 (lw_in (c := 1) hk2 hk (by decide)) ?_
  refine x_callV (pc := 1082) (ci := 11) (d := 20) (mc' := 0) (ms' := 0) dL_law_1082 (c_X11_colour (d := 20) (by decide) hv.1 hv.2.1 h1) mk_X11_colour mv_X11_colour ml_L_127 rfl rfl (Nat.le_of_ble_eq_true rfl) hv.2.1 rfl ⟨by decide, by decide⟩ (lw_cs hk2) ?_
  have hw2 := hv.1
  have ht2 := hv.2.2
  refine s_aload_n (pc := 1085) dL_law_1085 1 rfl rfl ?_
  refine s_aload_n (pc := 1086) dL_law_1086 3 rfl rfl ?_
  refine s_iload_n (pc := 1087) dL_law_1087 0 rfl rfl ?_
  refine s_iconst (pc := 1088) dL_law_1088 (v := 1) rfl ?_
  refine s_iadd (pc := 1089) dL_law_1089 ?_
  refine s_xld (pc := 1090) dL_law_1090 (lw_in (c := 1) hk2 hk (by decide)) ?_
  refine x_callV (pc := 1091) (ci := 12) (d := 20) (mc' := 0) (ms' := 0) dL_law_1091 (c_X12_colour (d := 20) (by decide) hw2 ht2 h2) mk_X12_colour mv_X12_colour ml_L_130 rfl rfl (Nat.le_of_ble_eq_true rfl) ht2 rfl ⟨by decide, by decide⟩ (lw_cs hk2) ?_
  refine s_icmp_eq (pc := 1094) (tgt := 1366) dL_law_1094 rfl (fun _ => ?_) (fun hc => absurd hr hc)
  refine s_widen lw_cu.1 lw_cu.2 ?_
  exact kn _ _ _ _ hJ
def Sp_span (n : Nat) (Iv Jv : pN → pI → pL → pR → Prop) : Prop := ∀ N I L P, Iv N I L P → ∀ (x1 : Int32) (x2 : Int32) (x3 : Int32), ∃ (q1 : Int32 × pI) (q2 : Int32 × pI), f_X11_span N I P 0 x1 x2 x3 = some q1 ∧ f_X12_span N q1.2 P 67 x1 x2 x3 = some q2 ∧ q1.1 = q2.1 ∧ Jv N q2.2 L P
theorem lc_span {G : pG} {nm : String} {n k : Nat} {N : pN} {I : pI} {L : pL} {P : pR} {Iv Jv : pN → pI → pL → pR → Prop} (hk2 : k < 512) (hk : 7 * k + 7 ≤ g_n G) (hv : WT N P ∧ p_tp N 0 14 ∧ p_tp N 67 15) (hi : Iv N I L P) (hs : Sp_span n Iv Jv) (kn : ∀ N I L P, Jv N I L P → SW G (mL nm) room_1 600000 7302250 (lw_c (k + 1)) (lw_s (k + 1)) lw_Qr 1366 [(3, .int (nI (7 * k))), (2, .ref 67), (1, .ref 0), (0, .ref 1000050)] [] N I L P) : SW G (mL nm) room_1 600000 7302250 (lw_c k) (lw_s k) lw_Qr 1099 [(3, .int (nI (7 * k))), (2, .ref 67), (1, .ref 0), (0, .ref 1000050)] [] N I L P := by
  obtain ⟨q1, q2, h1, h2, hr, hJ⟩ := hs N I L P hi (g_x G (Int32.toNatClampNeg (nI (7 * k) + 1))) (g_x G (Int32.toNatClampNeg (nI (7 * k) + 2))) (g_x G (Int32.toNatClampNeg (nI (7 * k) + 3)))
  refine s_aload_n (pc := 1099) dL_law_1099 2 rfl rfl ?_
  refine s_aload_n (pc := 1100) dL_law_1100 3 rfl rfl ?_
  refine s_iload_n (pc := 1101) dL_law_1101 0 rfl rfl ?_
  refine s_iconst (pc := 1102) dL_law_1102 (v := 1) rfl ?_
  refine s_iadd (pc := 1103) dL_law_1103 ?_
  refine s_xld (pc := 1104) dL_law_1104 (lw_in (c := 1) hk2 hk (by decide)) ?_
  refine s_aload_n (pc := 1105) dL_law_1105 3 rfl rfl ?_
  refine s_iload_n (pc := 1106) dL_law_1106 0 rfl rfl ?_
  refine s_iconst (pc := 1107) dL_law_1107 (v := 2) rfl ?_
  refine s_iadd (pc := 1108) dL_law_1108 ?_
  refine s_xld (pc := 1109) dL_law_1109 (lw_in (c := 2) hk2 hk (by decide)) ?_
  refine s_aload_n (pc := 1110) dL_law_1110 3 rfl rfl ?_
  refine s_iload_n (pc := 1111) dL_law_1111 0 rfl rfl ?_
  refine s_iconst (pc := 1112) dL_law_1112 (v := 3) rfl ?_
  refine s_iadd (pc := 1113) dL_law_1113 ?_
  refine s_xld (pc := 1114) dL_law_1114 (lw_in (c := 3) hk2 hk (by decide)) ?_
  refine x_callV (pc := 1115) (ci := 11) (d := 20) (mc' := 0) (ms' := 0) dL_law_1115 (c_X11_span (d := 20) (by decide) hv.1 hv.2.1 h1) mk_X11_span mv_X11_span ml_L_131 rfl rfl (Nat.le_of_ble_eq_true rfl) hv.2.1 rfl ⟨by decide, by decide⟩ (lw_cs hk2) ?_
  have hw2 := hv.1
  have ht2 := hv.2.2
  refine s_aload_n (pc := 1118) dL_law_1118 1 rfl rfl ?_
  refine s_aload_n (pc := 1119) dL_law_1119 3 rfl rfl ?_
  refine s_iload_n (pc := 1120) dL_law_1120 0 rfl rfl ?_
  refine s_iconst (pc := 1121) dL_law_1121 (v := 1) rfl ?_
  refine s_iadd (pc := 1122) dL_law_1122 ?_
  refine s_xld (pc := 1123) dL_law_1123 (lw_in (c := 1) hk2 hk (by decide)) ?_
  refine s_aload_n (pc := 1124) dL_law_1124 3 rfl rfl ?_
  refine s_iload_n (pc := 1125) dL_law_1125 0 rfl rfl ?_
  refine s_iconst (pc := 1126) dL_law_1126 (v := 2) rfl ?_
  refine s_iadd (pc := 1127) dL_law_1127 ?_
  refine s_xld (pc := 1128) dL_law_1128 (lw_in (c := 2) hk2 hk (by decide)) ?_
  refine s_aload_n (pc := 1129) dL_law_1129 3 rfl rfl ?_
  refine s_iload_n (pc := 1130) dL_law_1130 0 rfl rfl ?_
  refine s_iconst (pc := 1131) dL_law_1131 (v := 3) rfl ?_
  refine s_iadd (pc := 1132) dL_law_1132 ?_
  refine s_xld (pc := 1133) dL_law_1133 (lw_in (c := 3) hk2 hk (by decide)) ?_
  refine x_callV (pc := 1134) (ci := 12) (d := 20) (mc' := 0) (ms' := 0) dL_law_1134 (c_X12_span (d := 20) (by decide) hw2 ht2 h2) mk_X12_span mv_X12_span ml_L_134 rfl rfl (Nat.le_of_ble_eq_true rfl) ht2 rfl ⟨by decide, by decide⟩ (lw_cs hk2) ?_
  refine s_icmp_eq (pc := 1137) (tgt := 1366) dL_law_1137 rfl (fun _ => ?_) (fun hc => absurd hr hc)
  refine s_widen lw_cu.1 lw_cu.2 ?_
  exact kn _ _ _ _ hJ
def Sp_places (n : Nat) (Iv Jv : pN → pI → pL → pR → Prop) : Prop := ∀ N I L P, Iv N I L P → ∃ (q1 : Int32 × pI × pL) (q2 : Int32 × pI × pL), f_X11_places n N I L P 0 = some q1 ∧ f_X12_places n N q1.2.1 q1.2.2 P 67 = some q2 ∧ q1.1 = q2.1 ∧ Jv N q2.2.1 q2.2.2 P
theorem lc_places {G : pG} {nm : String} {n k : Nat} {N : pN} {I : pI} {L : pL} {P : pR} {Iv Jv : pN → pI → pL → pR → Prop} (hk2 : k < 512) (hk : 7 * k + 7 ≤ g_n G) (hv : WT N P ∧ p_tp N 0 14 ∧ p_tp N 67 15) (hi : Iv N I L P) (hs : Sp_places n Iv Jv) (kn : ∀ N I L P, Jv N I L P → SW G (mL nm) room_1 600000 7302250 (lw_c (k + 1)) (lw_s (k + 1)) lw_Qr 1366 [(3, .int (nI (7 * k))), (2, .ref 67), (1, .ref 0), (0, .ref 1000050)] [] N I L P) : SW G (mL nm) room_1 600000 7302250 (lw_c k) (lw_s k) lw_Qr 1142 [(3, .int (nI (7 * k))), (2, .ref 67), (1, .ref 0), (0, .ref 1000050)] [] N I L P := by
  obtain ⟨q1, q2, h1, h2, hr, hJ⟩ := hs N I L P hi
  refine s_aload_n (pc := 1142) dL_law_1142 2 rfl rfl ?_
  refine x_callV (pc := 1143) (ci := 11) (d := 20) (mc' := 0) (ms' := 0) dL_law_1143 (c_X11_places (d := 20) (by decide) hv.1 hv.2.1 h1) mk_X11_places mv_X11_places ml_L_135 rfl rfl (Nat.le_of_ble_eq_true rfl) hv.2.1 rfl ⟨by decide, by decide⟩ (lw_cs hk2) ?_
  have hw2 := hv.1
  have ht2 := hv.2.2
  refine s_aload_n (pc := 1146) dL_law_1146 1 rfl rfl ?_
  refine x_callV (pc := 1147) (ci := 12) (d := 20) (mc' := 0) (ms' := 0) dL_law_1147 (c_X12_places (d := 20) (by decide) hw2 ht2 h2) mk_X12_places mv_X12_places ml_L_138 rfl rfl (Nat.le_of_ble_eq_true rfl) ht2 rfl ⟨by decide, by decide⟩ (lw_cs hk2) ?_
  refine s_icmp_eq (pc := 1150) (tgt := 1366) dL_law_1150 rfl (fun _ => ?_) (fun hc => absurd hr hc)
  refine s_widen lw_cu.1 lw_cu.2 ?_
  exact kn _ _ _ _ hJ
def Sp_place (n : Nat) (Iv Jv : pN → pI → pL → pR → Prop) : Prop := ∀ N I L P, Iv N I L P → ∀ (x1 : Int32), ∃ (q1 : Int32 × pI × pL) (q2 : Int32 × pI × pL), f_X11_place n N I L P 0 x1 = some q1 ∧ f_X12_place n N q1.2.1 q1.2.2 P 67 x1 = some q2 ∧ q1.1 = q2.1 ∧ Jv N q2.2.1 q2.2.2 P
theorem lc_place {G : pG} {nm : String} {n k : Nat} {N : pN} {I : pI} {L : pL} {P : pR} {Iv Jv : pN → pI → pL → pR → Prop} (hk2 : k < 512) (hk : 7 * k + 7 ≤ g_n G) (hv : WT N P ∧ p_tp N 0 14 ∧ p_tp N 67 15) (hi : Iv N I L P) (hs : Sp_place n Iv Jv) (kn : ∀ N I L P, Jv N I L P → SW G (mL nm) room_1 600000 7302250 (lw_c (k + 1)) (lw_s (k + 1)) lw_Qr 1366 [(3, .int (nI (7 * k))), (2, .ref 67), (1, .ref 0), (0, .ref 1000050)] [] N I L P) : SW G (mL nm) room_1 600000 7302250 (lw_c k) (lw_s k) lw_Qr 1155 [(3, .int (nI (7 * k))), (2, .ref 67), (1, .ref 0), (0, .ref 1000050)] [] N I L P := by
  obtain ⟨q1, q2, h1, h2, hr, hJ⟩ := hs N I L P hi (g_x G (Int32.toNatClampNeg (nI (7 * k) + 1)))
  refine s_aload_n (pc := 1155) dL_law_1155 2 rfl rfl ?_
  refine s_aload_n (pc := 1156) dL_law_1156 3 rfl rfl ?_
  refine s_iload_n (pc := 1157) dL_law_1157 0 rfl rfl ?_
  refine s_iconst (pc := 1158) dL_law_1158 (v := 1) rfl ?_
  refine s_iadd (pc := 1159) dL_law_1159 ?_
  refine s_xld (pc := 1160) dL_law_1160 (lw_in (c := 1) hk2 hk (by decide)) ?_
  refine x_callV (pc := 1161) (ci := 11) (d := 20) (mc' := 0) (ms' := 0) dL_law_1161 (c_X11_place (d := 20) (by decide) hv.1 hv.2.1 h1) mk_X11_place mv_X11_place ml_L_139 rfl rfl (Nat.le_of_ble_eq_true rfl) hv.2.1 rfl ⟨by decide, by decide⟩ (lw_cs hk2) ?_
  have hw2 := hv.1
  have ht2 := hv.2.2
  refine s_aload_n (pc := 1164) dL_law_1164 1 rfl rfl ?_
  refine s_aload_n (pc := 1165) dL_law_1165 3 rfl rfl ?_
  refine s_iload_n (pc := 1166) dL_law_1166 0 rfl rfl ?_
  refine s_iconst (pc := 1167) dL_law_1167 (v := 1) rfl ?_
  refine s_iadd (pc := 1168) dL_law_1168 ?_
  refine s_xld (pc := 1169) dL_law_1169 (lw_in (c := 1) hk2 hk (by decide)) ?_
  refine x_callV (pc := 1170) (ci := 12) (d := 20) (mc' := 0) (ms' := 0) dL_law_1170 (c_X12_place (d := 20) (by decide) hw2 ht2 h2) mk_X12_place mv_X12_place ml_L_142 rfl rfl (Nat.le_of_ble_eq_true rfl) ht2 rfl ⟨by decide, by decide⟩ (lw_cs hk2) ?_
  refine s_icmp_eq (pc := 1173) (tgt := 1366) dL_law_1173 rfl (fun _ => ?_) (fun hc => absurd hr hc)
  refine s_widen lw_cu.1 lw_cu.2 ?_
  exact kn _ _ _ _ hJ
def Sp_echo (n : Nat) (Iv Jv : pN → pI → pL → pR → Prop) : Prop := ∀ N I L P, Iv N I L P → ∀ (x1 : Int32) (x2 : Int32) (x3 : Int32) (x4 : Int32) (x5 : Int32), ∃ (q1 : Int32) (q2 : Int32), f_X11_echo n N I P 0 x1 x2 x3 x4 x5 = some q1 ∧ f_X12_echo n N I P 67 x1 x2 x3 x4 x5 = some q2 ∧ q1 = q2 ∧ Jv N I L P
theorem lc_echo {G : pG} {nm : String} {n k : Nat} {N : pN} {I : pI} {L : pL} {P : pR} {Iv Jv : pN → pI → pL → pR → Prop} (hk2 : k < 512) (hk : 7 * k + 7 ≤ g_n G) (hv : WT N P ∧ p_tp N 0 14 ∧ p_tp N 67 15) (hi : Iv N I L P) (hs : Sp_echo n Iv Jv) (kn : ∀ N I L P, Jv N I L P → SW G (mL nm) room_1 600000 7302250 (lw_c (k + 1)) (lw_s (k + 1)) lw_Qr 1366 [(3, .int (nI (7 * k))), (2, .ref 67), (1, .ref 0), (0, .ref 1000050)] [] N I L P) : SW G (mL nm) room_1 600000 7302250 (lw_c k) (lw_s k) lw_Qr 1178 [(3, .int (nI (7 * k))), (2, .ref 67), (1, .ref 0), (0, .ref 1000050)] [] N I L P := by
  obtain ⟨q1, q2, h1, h2, hr, hJ⟩ := hs N I L P hi (g_x G (Int32.toNatClampNeg (nI (7 * k) + 1))) (g_x G (Int32.toNatClampNeg (nI (7 * k) + 2))) (g_x G (Int32.toNatClampNeg (nI (7 * k) + 3))) (g_x G (Int32.toNatClampNeg (nI (7 * k) + 4))) (g_x G (Int32.toNatClampNeg (nI (7 * k) + 5)))
  refine s_aload_n (pc := 1178) dL_law_1178 2 rfl rfl ?_
  refine s_aload_n (pc := 1179) dL_law_1179 3 rfl rfl ?_
  refine s_iload_n (pc := 1180) dL_law_1180 0 rfl rfl ?_
  refine s_iconst (pc := 1181) dL_law_1181 (v := 1) rfl ?_
  refine s_iadd (pc := 1182) dL_law_1182 ?_
  refine s_xld (pc := 1183) dL_law_1183 (lw_in (c := 1) hk2 hk (by decide)) ?_
  refine s_aload_n (pc := 1184) dL_law_1184 3 rfl rfl ?_
  refine s_iload_n (pc := 1185) dL_law_1185 0 rfl rfl ?_
  refine s_iconst (pc := 1186) dL_law_1186 (v := 2) rfl ?_
  refine s_iadd (pc := 1187) dL_law_1187 ?_
  refine s_xld (pc := 1188) dL_law_1188 (lw_in (c := 2) hk2 hk (by decide)) ?_
  refine s_aload_n (pc := 1189) dL_law_1189 3 rfl rfl ?_
  refine s_iload_n (pc := 1190) dL_law_1190 0 rfl rfl ?_
  refine s_iconst (pc := 1191) dL_law_1191 (v := 3) rfl ?_
  refine s_iadd (pc := 1192) dL_law_1192 ?_
  refine s_xld (pc := 1193) dL_law_1193 (lw_in (c := 3) hk2 hk (by decide)) ?_
  refine s_aload_n (pc := 1194) dL_law_1194 3 rfl rfl ?_
  refine s_iload_n (pc := 1195) dL_law_1195 0 rfl rfl ?_
  refine s_iconst (pc := 1196) dL_law_1196 (v := 4) rfl ?_
  refine s_iadd (pc := 1197) dL_law_1197 ?_
  refine s_xld (pc := 1198) dL_law_1198 (lw_in (c := 4) hk2 hk (by decide)) ?_
  refine s_aload_n (pc := 1199) dL_law_1199 3 rfl rfl ?_
  refine s_iload_n (pc := 1200) dL_law_1200 0 rfl rfl ?_
  refine s_iconst (pc := 1201) dL_law_1201 (v := 5) rfl ?_
  refine s_iadd (pc := 1202) dL_law_1202 ?_
  refine s_xld (pc := 1203) dL_law_1203 (lw_in (c := 5) hk2 hk (by decide)) ?_
  refine x_callV (pc := 1204) (ci := 11) (d := 20) (mc' := 0) (ms' := 0) dL_law_1204 (c_X11_echo (d := 20) (by decide) hv.1 hv.2.1 h1) mk_X11_echo mv_X11_echo ml_L_143 rfl rfl (Nat.le_of_ble_eq_true rfl) hv.2.1 rfl ⟨by decide, by decide⟩ (lw_cs hk2) ?_
  have hw2 := hv.1
  have ht2 := hv.2.2
  refine s_aload_n (pc := 1207) dL_law_1207 1 rfl rfl ?_
  refine s_aload_n (pc := 1208) dL_law_1208 3 rfl rfl ?_
  refine s_iload_n (pc := 1209) dL_law_1209 0 rfl rfl ?_
  refine s_iconst (pc := 1210) dL_law_1210 (v := 1) rfl ?_
  refine s_iadd (pc := 1211) dL_law_1211 ?_
  refine s_xld (pc := 1212) dL_law_1212 (lw_in (c := 1) hk2 hk (by decide)) ?_
  refine s_aload_n (pc := 1213) dL_law_1213 3 rfl rfl ?_
  refine s_iload_n (pc := 1214) dL_law_1214 0 rfl rfl ?_
  refine s_iconst (pc := 1215) dL_law_1215 (v := 2) rfl ?_
  refine s_iadd (pc := 1216) dL_law_1216 ?_
  refine s_xld (pc := 1217) dL_law_1217 (lw_in (c := 2) hk2 hk (by decide)) ?_
  refine s_aload_n (pc := 1218) dL_law_1218 3 rfl rfl ?_
  refine s_iload_n (pc := 1219) dL_law_1219 0 rfl rfl ?_
  refine s_iconst (pc := 1220) dL_law_1220 (v := 3) rfl ?_
  refine s_iadd (pc := 1221) dL_law_1221 ?_
  refine s_xld (pc := 1222) dL_law_1222 (lw_in (c := 3) hk2 hk (by decide)) ?_
  refine s_aload_n (pc := 1223) dL_law_1223 3 rfl rfl ?_
  refine s_iload_n (pc := 1224) dL_law_1224 0 rfl rfl ?_
  refine s_iconst (pc := 1225) dL_law_1225 (v := 4) rfl ?_
  refine s_iadd (pc := 1226) dL_law_1226 ?_
  refine s_xld (pc := 1227) dL_law_1227 (lw_in (c := 4) hk2 hk (by decide)) ?_
  refine s_aload_n (pc := 1228) dL_law_1228 3 rfl rfl ?_
  refine s_iload_n (pc := 1229) dL_law_1229 0 rfl rfl ?_
  refine s_iconst (pc := 1230) dL_law_1230 (v := 5) rfl ?_
  refine s_iadd (pc := 1231) dL_law_1231 ?_
  refine s_xld (pc := 1232) dL_law_1232 (lw_in (c := 5) hk2 hk (by decide)) ?_
  refine x_callV (pc := 1233) (ci := 12) (d := 20) (mc' := 0) (ms' := 0) dL_law_1233 (c_X12_echo (d := 20) (by decide) hw2 ht2 h2) mk_X12_echo mv_X12_echo ml_L_146 rfl rfl (Nat.le_of_ble_eq_true rfl) ht2 rfl ⟨by decide, by decide⟩ (lw_cs hk2) ?_
  refine s_icmp_eq (pc := 1236) (tgt := 1366) dL_law_1236 rfl (fun _ => ?_) (fun hc => absurd hr hc)
  refine s_widen lw_cu.1 lw_cu.2 ?_
  exact kn _ _ _ _ hJ
def Sp_why (n : Nat) (Iv Jv : pN → pI → pL → pR → Prop) : Prop := ∀ N I L P, Iv N I L P → ∀ (x1 : Int32) (x2 : Int32), ∃ (q1 : Int32 × pI × pL) (q2 : Int32 × pI × pL), f_X11_why n N I L P 0 x1 x2 = some q1 ∧ f_X12_why n N q1.2.1 q1.2.2 P 67 x1 x2 = some q2 ∧ q1.1 = q2.1 ∧ Jv N q2.2.1 q2.2.2 P
theorem lc_why {G : pG} {nm : String} {n k : Nat} {N : pN} {I : pI} {L : pL} {P : pR} {Iv Jv : pN → pI → pL → pR → Prop} (hk2 : k < 512) (hk : 7 * k + 7 ≤ g_n G) (hv : WT N P ∧ p_tp N 0 14 ∧ p_tp N 67 15) (hi : Iv N I L P) (hs : Sp_why n Iv Jv) (kn : ∀ N I L P, Jv N I L P → SW G (mL nm) room_1 600000 7302250 (lw_c (k + 1)) (lw_s (k + 1)) lw_Qr 1366 [(3, .int (nI (7 * k))), (2, .ref 67), (1, .ref 0), (0, .ref 1000050)] [] N I L P) : SW G (mL nm) room_1 600000 7302250 (lw_c k) (lw_s k) lw_Qr 1241 [(3, .int (nI (7 * k))), (2, .ref 67), (1, .ref 0), (0, .ref 1000050)] [] N I L P := by
  obtain ⟨q1, q2, h1, h2, hr, hJ⟩ := hs N I L P hi (g_x G (Int32.toNatClampNeg (nI (7 * k) + 1))) (g_x G (Int32.toNatClampNeg (nI (7 * k) + 2)))
  refine s_aload_n (pc := 1241) dL_law_1241 2 rfl rfl ?_
  refine s_aload_n (pc := 1242) dL_law_1242 3 rfl rfl ?_
  refine s_iload_n (pc := 1243) dL_law_1243 0 rfl rfl ?_
  refine s_iconst (pc := 1244) dL_law_1244 (v := 1) rfl ?_
  refine s_iadd (pc := 1245) dL_law_1245 ?_
  refine s_xld (pc := 1246) dL_law_1246 (lw_in (c := 1) hk2 hk (by decide)) ?_
  refine s_aload_n (pc := 1247) dL_law_1247 3 rfl rfl ?_
  refine s_iload_n (pc := 1248) dL_law_1248 0 rfl rfl ?_
  refine s_iconst (pc := 1249) dL_law_1249 (v := 2) rfl ?_
  refine s_iadd (pc := 1250) dL_law_1250 ?_
  refine s_xld (pc := 1251) dL_law_1251 (lw_in (c := 2) hk2 hk (by decide)) ?_
  refine x_callV (pc := 1252) (ci := 11) (d := 20) (mc' := 0) (ms' := 0) dL_law_1252 (c_X11_why (d := 20) (by decide) hv.1 hv.2.1 h1) mk_X11_why mv_X11_why ml_L_147 rfl rfl (Nat.le_of_ble_eq_true rfl) hv.2.1 rfl ⟨by decide, by decide⟩ (lw_cs hk2) ?_
  have hw2 := hv.1
  have ht2 := hv.2.2
  refine s_aload_n (pc := 1255) dL_law_1255 1 rfl rfl ?_
  refine s_aload_n (pc := 1256) dL_law_1256 3 rfl rfl ?_
  refine s_iload_n (pc := 1257) dL_law_1257 0 rfl rfl ?_
  refine s_iconst (pc := 1258) dL_law_1258 (v := 1) rfl ?_
  refine s_iadd (pc := 1259) dL_law_1259 ?_
  refine s_xld (pc := 1260) dL_law_1260 (lw_in (c := 1) hk2 hk (by decide)) ?_
  refine s_aload_n (pc := 1261) dL_law_1261 3 rfl rfl ?_
  refine s_iload_n (pc := 1262) dL_law_1262 0 rfl rfl ?_
  refine s_iconst (pc := 1263) dL_law_1263 (v := 2) rfl ?_
  refine s_iadd (pc := 1264) dL_law_1264 ?_
  refine s_xld (pc := 1265) dL_law_1265 (lw_in (c := 2) hk2 hk (by decide)) ?_
  refine x_callV (pc := 1266) (ci := 12) (d := 20) (mc' := 0) (ms' := 0) dL_law_1266 (c_X12_why (d := 20) (by decide) hw2 ht2 h2) mk_X12_why mv_X12_why ml_L_150 rfl rfl (Nat.le_of_ble_eq_true rfl) ht2 rfl ⟨by decide, by decide⟩ (lw_cs hk2) ?_
  refine s_icmp_eq (pc := 1269) (tgt := 1366) dL_law_1269 rfl (fun _ => ?_) (fun hc => absurd hr hc)
  refine s_widen lw_cu.1 lw_cu.2 ?_
  exact kn _ _ _ _ hJ
def Sp_breach (n : Nat) (Iv Jv : pN → pI → pL → pR → Prop) : Prop := ∀ N I L P, Iv N I L P → ∀ (x1 : Int32), ∃ (q1 : Int32 × pI × pL) (q2 : Int32 × pI × pL), f_X11_breach n N I L P 0 x1 = some q1 ∧ f_X12_breach n N q1.2.1 q1.2.2 P 67 x1 = some q2 ∧ q1.1 = q2.1 ∧ Jv N q2.2.1 q2.2.2 P
theorem lc_breach {G : pG} {nm : String} {n k : Nat} {N : pN} {I : pI} {L : pL} {P : pR} {Iv Jv : pN → pI → pL → pR → Prop} (hk2 : k < 512) (hk : 7 * k + 7 ≤ g_n G) (hv : WT N P ∧ p_tp N 0 14 ∧ p_tp N 67 15) (hi : Iv N I L P) (hs : Sp_breach n Iv Jv) (kn : ∀ N I L P, Jv N I L P → SW G (mL nm) room_1 600000 7302250 (lw_c (k + 1)) (lw_s (k + 1)) lw_Qr 1366 [(3, .int (nI (7 * k))), (2, .ref 67), (1, .ref 0), (0, .ref 1000050)] [] N I L P) : SW G (mL nm) room_1 600000 7302250 (lw_c k) (lw_s k) lw_Qr 1274 [(3, .int (nI (7 * k))), (2, .ref 67), (1, .ref 0), (0, .ref 1000050)] [] N I L P := by
  obtain ⟨q1, q2, h1, h2, hr, hJ⟩ := hs N I L P hi (g_x G (Int32.toNatClampNeg (nI (7 * k) + 1)))
  refine s_aload_n (pc := 1274) dL_law_1274 2 rfl rfl ?_
  refine s_aload_n (pc := 1275) dL_law_1275 3 rfl rfl ?_
  refine s_iload_n (pc := 1276) dL_law_1276 0 rfl rfl ?_
  refine s_iconst (pc := 1277) dL_law_1277 (v := 1) rfl ?_
  refine s_iadd (pc := 1278) dL_law_1278 ?_
  refine s_xld (pc := 1279) dL_law_1279 (lw_in (c := 1) hk2 hk (by decide)) ?_
  refine x_callV (pc := 1280) (ci := 11) (d := 20) (mc' := 0) (ms' := 0) dL_law_1280 (c_X11_breach (d := 20) (by decide) hv.1 hv.2.1 h1) mk_X11_breach mv_X11_breach ml_L_151 rfl rfl (Nat.le_of_ble_eq_true rfl) hv.2.1 rfl ⟨by decide, by decide⟩ (lw_cs hk2) ?_
  have hw2 := hv.1
  have ht2 := hv.2.2
  refine s_aload_n (pc := 1283) dL_law_1283 1 rfl rfl ?_
  refine s_aload_n (pc := 1284) dL_law_1284 3 rfl rfl ?_
  refine s_iload_n (pc := 1285) dL_law_1285 0 rfl rfl ?_
  refine s_iconst (pc := 1286) dL_law_1286 (v := 1) rfl ?_
  refine s_iadd (pc := 1287) dL_law_1287 ?_
  refine s_xld (pc := 1288) dL_law_1288 (lw_in (c := 1) hk2 hk (by decide)) ?_
  refine x_callV (pc := 1289) (ci := 12) (d := 20) (mc' := 0) (ms' := 0) dL_law_1289 (c_X12_breach (d := 20) (by decide) hw2 ht2 h2) mk_X12_breach mv_X12_breach ml_L_154 rfl rfl (Nat.le_of_ble_eq_true rfl) ht2 rfl ⟨by decide, by decide⟩ (lw_cs hk2) ?_
  refine s_icmp_eq (pc := 1292) (tgt := 1366) dL_law_1292 rfl (fun _ => ?_) (fun hc => absurd hr hc)
  refine s_widen lw_cu.1 lw_cu.2 ?_
  exact kn _ _ _ _ hJ
def Sp_count (n : Nat) (Iv Jv : pN → pI → pL → pR → Prop) : Prop := ∀ N I L P, Iv N I L P → ∀ (x1 : Int32), ∃ (q1 : Int32 × pI × pL) (q2 : Int32 × pI × pL), f_X11_count n N I L P 0 x1 = some q1 ∧ f_X12_count n N q1.2.1 q1.2.2 P 67 x1 = some q2 ∧ q1.1 = q2.1 ∧ Jv N q2.2.1 q2.2.2 P
theorem lc_count {G : pG} {nm : String} {n k : Nat} {N : pN} {I : pI} {L : pL} {P : pR} {Iv Jv : pN → pI → pL → pR → Prop} (hk2 : k < 512) (hk : 7 * k + 7 ≤ g_n G) (hv : WT N P ∧ p_tp N 0 14 ∧ p_tp N 67 15) (hi : Iv N I L P) (hs : Sp_count n Iv Jv) (kn : ∀ N I L P, Jv N I L P → SW G (mL nm) room_1 600000 7302250 (lw_c (k + 1)) (lw_s (k + 1)) lw_Qr 1366 [(3, .int (nI (7 * k))), (2, .ref 67), (1, .ref 0), (0, .ref 1000050)] [] N I L P) : SW G (mL nm) room_1 600000 7302250 (lw_c k) (lw_s k) lw_Qr 1297 [(3, .int (nI (7 * k))), (2, .ref 67), (1, .ref 0), (0, .ref 1000050)] [] N I L P := by
  obtain ⟨q1, q2, h1, h2, hr, hJ⟩ := hs N I L P hi (g_x G (Int32.toNatClampNeg (nI (7 * k) + 1)))
  refine s_aload_n (pc := 1297) dL_law_1297 2 rfl rfl ?_
  refine s_aload_n (pc := 1298) dL_law_1298 3 rfl rfl ?_
  refine s_iload_n (pc := 1299) dL_law_1299 0 rfl rfl ?_
  refine s_iconst (pc := 1300) dL_law_1300 (v := 1) rfl ?_
  refine s_iadd (pc := 1301) dL_law_1301 ?_
  refine s_xld (pc := 1302) dL_law_1302 (lw_in (c := 1) hk2 hk (by decide)) ?_
  refine x_callV (pc := 1303) (ci := 11) (d := 20) (mc' := 0) (ms' := 0) dL_law_1303 (c_X11_count (d := 20) (by decide) hv.1 hv.2.1 h1) mk_X11_count mv_X11_count ml_L_155 rfl rfl (Nat.le_of_ble_eq_true rfl) hv.2.1 rfl ⟨by decide, by decide⟩ (lw_cs hk2) ?_
  have hw2 := hv.1
  have ht2 := hv.2.2
  refine s_aload_n (pc := 1306) dL_law_1306 1 rfl rfl ?_
  refine s_aload_n (pc := 1307) dL_law_1307 3 rfl rfl ?_
  refine s_iload_n (pc := 1308) dL_law_1308 0 rfl rfl ?_
  refine s_iconst (pc := 1309) dL_law_1309 (v := 1) rfl ?_
  refine s_iadd (pc := 1310) dL_law_1310 ?_
  refine s_xld (pc := 1311) dL_law_1311 (lw_in (c := 1) hk2 hk (by decide)) ?_
  refine x_callV (pc := 1312) (ci := 12) (d := 20) (mc' := 0) (ms' := 0) dL_law_1312 (c_X12_count (d := 20) (by decide) hw2 ht2 h2) mk_X12_count mv_X12_count ml_L_158 rfl rfl (Nat.le_of_ble_eq_true rfl) ht2 rfl ⟨by decide, by decide⟩ (lw_cs hk2) ?_
  refine s_icmp_eq (pc := 1315) (tgt := 1366) dL_law_1315 rfl (fun _ => ?_) (fun hc => absurd hr hc)
  refine s_widen lw_cu.1 lw_cu.2 ?_
  exact kn _ _ _ _ hJ
def Sp_image (n : Nat) (Iv Jv : pN → pI → pL → pR → Prop) : Prop := ∀ N I L P, Iv N I L P → ∀ (x1 : Int32), ∃ (q1 : Int32 × pN × pI × pL × pR) (q2 : Int32 × pI), f_X11_image N I L P 0 x1 = some q1 ∧ f_X12_image n q1.2.1 q1.2.2.1 q1.2.2.2.2 67 x1 = some q2 ∧ q1.1 = q2.1 ∧ WT q1.2.1 q1.2.2.2.2 ∧ p_tp q1.2.1 67 15 ∧ Jv q1.2.1 q2.2 q1.2.2.2.1 q1.2.2.2.2
theorem lc_image {G : pG} {nm : String} {n k : Nat} {N : pN} {I : pI} {L : pL} {P : pR} {Iv Jv : pN → pI → pL → pR → Prop} (hk2 : k < 512) (hk : 7 * k + 7 ≤ g_n G) (hv : WT N P ∧ p_tp N 0 14 ∧ p_tp N 67 15) (hi : Iv N I L P) (hs : Sp_image n Iv Jv) (kn : ∀ N I L P, Jv N I L P → SW G (mL nm) room_1 600000 7302250 (lw_c (k + 1)) (lw_s (k + 1)) lw_Qr 1366 [(3, .int (nI (7 * k))), (2, .ref 67), (1, .ref 0), (0, .ref 1000050)] [] N I L P) : SW G (mL nm) room_1 600000 7302250 (lw_c k) (lw_s k) lw_Qr 1320 [(3, .int (nI (7 * k))), (2, .ref 67), (1, .ref 0), (0, .ref 1000050)] [] N I L P := by
  obtain ⟨q1, q2, h1, h2, hr, hw2, ht2, hJ⟩ := hs N I L P hi (g_x G (Int32.toNatClampNeg (nI (7 * k) + 1)))
  refine s_aload_n (pc := 1320) dL_law_1320 2 rfl rfl ?_
  refine s_aload_n (pc := 1321) dL_law_1321 3 rfl rfl ?_
  refine s_iload_n (pc := 1322) dL_law_1322 0 rfl rfl ?_
  refine s_iconst (pc := 1323) dL_law_1323 (v := 1) rfl ?_
  refine s_iadd (pc := 1324) dL_law_1324 ?_
  refine s_xld (pc := 1325) dL_law_1325 (lw_in (c := 1) hk2 hk (by decide)) ?_
  refine x_callV (pc := 1326) (ci := 11) (d := 20) (mc' := 19) (ms' := 9949) dL_law_1326 (c_X11_image (d := 20) (by decide) hv.1 hv.2.1 h1) mk_X11_image mv_X11_image ml_L_159 rfl rfl (Nat.le_of_ble_eq_true rfl) hv.2.1 rfl ⟨by decide, by decide⟩ (lw_csI hk2) ?_
  refine s_aload_n (pc := 1329) dL_law_1329 1 rfl rfl ?_
  refine s_aload_n (pc := 1330) dL_law_1330 3 rfl rfl ?_
  refine s_iload_n (pc := 1331) dL_law_1331 0 rfl rfl ?_
  refine s_iconst (pc := 1332) dL_law_1332 (v := 1) rfl ?_
  refine s_iadd (pc := 1333) dL_law_1333 ?_
  refine s_xld (pc := 1334) dL_law_1334 (lw_in (c := 1) hk2 hk (by decide)) ?_
  refine x_callV (pc := 1335) (ci := 12) (d := 20) (mc' := 0) (ms' := 0) dL_law_1335 (c_X12_image (d := 20) (by decide) hw2 ht2 h2) mk_X12_image mv_X12_image ml_L_162 rfl rfl (Nat.le_of_ble_eq_true rfl) ht2 rfl ⟨by decide, by decide⟩ (lw_cs2I hk2) ?_
  refine s_icmp_eq (pc := 1338) (tgt := 1366) dL_law_1338 rfl (fun _ => ?_) (fun hc => absurd hr hc)
  refine s_widen lw_cuI.1 lw_cuI.2 ?_
  exact kn _ _ _ _ hJ
def Sp_again (n : Nat) (Iv Jv : pN → pI → pL → pR → Prop) : Prop := ∀ N I L P, Iv N I L P → ∀ (x1 : Int32), ∃ (q1 : Int32 × pI) (q2 : Int32 × pI), f_X11_again n N I P 0 x1 = some q1 ∧ f_X12_again n N q1.2 P 67 x1 = some q2 ∧ q1.1 = q2.1 ∧ Jv N q2.2 L P
theorem lc_again {G : pG} {nm : String} {n k : Nat} {N : pN} {I : pI} {L : pL} {P : pR} {Iv Jv : pN → pI → pL → pR → Prop} (hk2 : k < 512) (hk : 7 * k + 7 ≤ g_n G) (hv : WT N P ∧ p_tp N 0 14 ∧ p_tp N 67 15) (hi : Iv N I L P) (hs : Sp_again n Iv Jv) (kn : ∀ N I L P, Jv N I L P → SW G (mL nm) room_1 600000 7302250 (lw_c (k + 1)) (lw_s (k + 1)) lw_Qr 1366 [(3, .int (nI (7 * k))), (2, .ref 67), (1, .ref 0), (0, .ref 1000050)] [] N I L P) : SW G (mL nm) room_1 600000 7302250 (lw_c k) (lw_s k) lw_Qr 1343 [(3, .int (nI (7 * k))), (2, .ref 67), (1, .ref 0), (0, .ref 1000050)] [] N I L P := by
  obtain ⟨q1, q2, h1, h2, hr, hJ⟩ := hs N I L P hi (g_x G (Int32.toNatClampNeg (nI (7 * k) + 1)))
  refine s_aload_n (pc := 1343) dL_law_1343 2 rfl rfl ?_
  refine s_aload_n (pc := 1344) dL_law_1344 3 rfl rfl ?_
  refine s_iload_n (pc := 1345) dL_law_1345 0 rfl rfl ?_
  refine s_iconst (pc := 1346) dL_law_1346 (v := 1) rfl ?_
  refine s_iadd (pc := 1347) dL_law_1347 ?_
  refine s_xld (pc := 1348) dL_law_1348 (lw_in (c := 1) hk2 hk (by decide)) ?_
  refine x_callV (pc := 1349) (ci := 11) (d := 20) (mc' := 0) (ms' := 0) dL_law_1349 (c_X11_again (d := 20) (by decide) hv.1 hv.2.1 h1) mk_X11_again mv_X11_again ml_L_163 rfl rfl (Nat.le_of_ble_eq_true rfl) hv.2.1 rfl ⟨by decide, by decide⟩ (lw_cs hk2) ?_
  have hw2 := hv.1
  have ht2 := hv.2.2
  refine s_aload_n (pc := 1352) dL_law_1352 1 rfl rfl ?_
  refine s_aload_n (pc := 1353) dL_law_1353 3 rfl rfl ?_
  refine s_iload_n (pc := 1354) dL_law_1354 0 rfl rfl ?_
  refine s_iconst (pc := 1355) dL_law_1355 (v := 1) rfl ?_
  refine s_iadd (pc := 1356) dL_law_1356 ?_
  refine s_xld (pc := 1357) dL_law_1357 (lw_in (c := 1) hk2 hk (by decide)) ?_
  refine x_callV (pc := 1358) (ci := 12) (d := 20) (mc' := 0) (ms' := 0) dL_law_1358 (c_X12_again (d := 20) (by decide) hw2 ht2 h2) mk_X12_again mv_X12_again ml_L_166 rfl rfl (Nat.le_of_ble_eq_true rfl) ht2 rfl ⟨by decide, by decide⟩ (lw_cs hk2) ?_
  refine s_icmp_eq (pc := 1361) (tgt := 1366) dL_law_1361 rfl (fun _ => ?_) (fun hc => absurd hr hc)
  refine s_widen lw_cu.1 lw_cu.2 ?_
  exact kn _ _ _ _ hJ
theorem lw_in0 {G : pG} {k : Nat} (h : k < 512) (hk : 7 * k + 7 ≤ g_n G) : vp_in (nI (7 * k)) (g_n G) := by
  have h2 := lw_in (c := 0) h hk (by decide)
  have e : nI (7 * k) + nI 0 = nI (7 * k) := (Int32.ofNat_add (7 * k) 0).symm
  rw [e] at h2
  exact h2
