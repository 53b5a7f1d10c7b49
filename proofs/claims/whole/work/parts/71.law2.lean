/-! The law's cases. -/
set_option maxHeartbeats 4000000 in
set_option maxRecDepth 100000 in
theorem w_0 {X : CX} {h : HP} {v4 : Int32} {L : Nat} {sx : Nat → Int32} {ce sl : Nat} (C : Cok X code 7 R_Lw ret) (N : NW (xs X)) (Rm : xR X = room_1) (S : SC X L sx) (hm : ce + 1 ≤ (xR X).cells ∧ sl + 6 ≤ (xR X).slots)
    (K : vp_in (v4 + 1) L ∧ (H_La_nil [.ref 14, .int (sx (v4 + 1).toNatClampNeg)] h (fun r1 h1 => vp_in (v4 + 1) L ∧ (K_Mo_nil [.ref 0, .int (sx (v4 + 1).toNatClampNeg)] h1 (fun h2 => K_Mo_thrown [.ref 0] h2 (fun r3 h3 => (r3 = r1 → Wg X (ce + 1) (sl + 6) h3 [(0, .ref 59), (1, .ref 14), (2, .ref 0), (3, .ref 58), (4, .int v4)] [] 1206) ∧ (¬ r3 = r1 → False))))))) :
    Wg X ce sl h [(0, .ref 59), (1, .ref 14), (2, .ref 0), (3, .ref 58), (4, .int v4)] [] 124 := by
  refine r_aload_n C 1 rfl d_La_law_124 ?_
  refine r_aload_n C 0 rfl d_La_law_125 ?_
  refine r_iload C 4 rfl d_La_law_126 ?_
  refine r_iconst (v := 1) C (by decide) d_La_law_128 ?_
  refine r_iadd C d_La_law_129 ?_
  obtain ⟨s0, K⟩ := K
  refine r_sld C S s0 d_La_law_130 ?_
  refine r_callSH (lv := 0) (mc := 0) (ms := 0) (As := [.ref 14, .int (sx (v4 + 1).toNatClampNeg)]) (st := []) (lvc := 12) (mcc := 1) (msc := 6) C N (by rw [Rm]; exact ⟨Nat.le_of_ble_eq_true rfl, Nat.le_of_ble_eq_true rfl⟩) M_La_nil rfl k_290 (Nat.le_of_ble_eq_true rfl) hm d_La_law_131 ?_
  refine CanH.mono K (fun _ h1 z => ?_)
  obtain ⟨r1, rfl, K⟩ := z
  show Wg X (ce + 1) (sl + 6) h1 [(0, .ref 59), (1, .ref 14), (2, .ref 0), (3, .ref 58), (4, .int v4)] [.int r1] 134
  refine r_istore (ls2 := [(0, .ref 59), (1, .ref 14), (2, .ref 0), (3, .ref 58), (4, .int v4), (5, .int r1)]) C (by decide) rfl d_La_law_134 ?_
  refine r_aload_n C 2 rfl d_La_law_136 ?_
  refine r_aload_n C 0 rfl d_La_law_137 ?_
  refine r_iload C 4 rfl d_La_law_138 ?_
  refine r_iconst (v := 1) C (by decide) d_La_law_140 ?_
  refine r_iadd C d_La_law_141 ?_
  obtain ⟨s0, K⟩ := K
  refine r_sld C S s0 d_La_law_142 ?_
  refine r_callVL (As := [.int (sx (v4 + 1).toNatClampNeg)]) (st := []) (lvc := 1) (mcc := 0) (msc := 0) C (by rw [Rm]; exact ⟨Nat.le_of_ble_eq_true rfl, Nat.le_of_ble_eq_true rfl⟩) M_Mo_nil rfl k_1087 rfl (Nat.le_of_ble_eq_true rfl) hm d_La_law_143 ?_
  refine Can.mono K (fun _ h2 z => ?_)
  obtain ⟨rfl, K⟩ := z
  show Wg X (ce + 1) (sl + 6) h2 [(0, .ref 59), (1, .ref 14), (2, .ref 0), (3, .ref 58), (4, .int v4), (5, .int r1)] [] 146
  refine r_aload_n C 2 rfl d_La_law_146 ?_
  refine r_callVL (As := []) (st := []) (lvc := 0) (mcc := 0) (msc := 0) C (by rw [Rm]; exact ⟨Nat.le_of_ble_eq_true rfl, Nat.le_of_ble_eq_true rfl⟩) M_Mo_thrown rfl k_1083 rfl (Nat.le_of_ble_eq_true rfl) hm d_La_law_147 ?_
  refine Can.mono K (fun _ h3 z => ?_)
  obtain ⟨r3, rfl, K⟩ := z
  show Wg X (ce + 1) (sl + 6) h3 [(0, .ref 59), (1, .ref 14), (2, .ref 0), (3, .ref 58), (4, .int v4), (5, .int r1)] [.int r3] 150
  refine r_iload C 5 rfl d_La_law_150 ?_
  refine r_icmp_eq C 157 d_La_law_152 (by decide) ⟨fun c0 => ?_, fun c0 => ?_⟩
  · have K := K.1 c0
    refine r_goto C 1206 d_La_law_157 (by decide) ?_
    exact Wg.drop (by simp) K
  · have K := K.2 c0
    exact K.elim
set_option maxHeartbeats 4000000 in
set_option maxRecDepth 100000 in
theorem w_1 {X : CX} {h : HP} {v4 : Int32} {L : Nat} {sx : Nat → Int32} {ce sl : Nat} (C : Cok X code 7 R_Lw ret) (N : NW (xs X)) (Rm : xR X = room_1) (S : SC X L sx) (hm : ce + 1 ≤ (xR X).cells ∧ sl + 6 ≤ (xR X).slots)
    (K : vp_in (v4 + 1) L ∧ (vp_in (v4 + 2) L ∧ (vp_in (v4 + 3) L ∧ (H_La_load [.ref 14, .int (sx (v4 + 1).toNatClampNeg), .long ((lshl (Int32.toInt64 (sx (v4 + 2).toNatClampNeg)) 32) ||| ((Int32.toInt64 (sx (v4 + 3).toNatClampNeg)) &&& 4294967295)), .ref 58] h (fun r1 h1 => vp_in (v4 + 1) L ∧ (vp_in (v4 + 2) L ∧ (vp_in (v4 + 3) L ∧ (K_Mo_load [.ref 0, .int (sx (v4 + 1).toNatClampNeg), .long ((lshl (Int32.toInt64 (sx (v4 + 2).toNatClampNeg)) 32) ||| ((Int32.toInt64 (sx (v4 + 3).toNatClampNeg)) &&& 4294967295))] h1 (fun r2 h2 => K_Mo_thrown [.ref 0] h2 (fun r3 h3 => (r3 = r1 → (¬ r1 = 0 → Wg X (ce + 1) (sl + 6) h3 [(0, .ref 59), (1, .ref 14), (2, .ref 0), (3, .ref 58), (4, .int v4)] [] 1206) ∧ (r1 = 0 → vp_in 0 1 ∧ (((lg_cmp (Int32.toInt64 (h3 58 (0 : Int32).toNatClampNeg)) (Int32.toInt64 r2)) = 0 → Wg X (ce + 1) (sl + 6) h3 [(0, .ref 59), (1, .ref 14), (2, .ref 0), (3, .ref 58), (4, .int v4)] [] 1206) ∧ (¬ (lg_cmp (Int32.toInt64 (h3 58 (0 : Int32).toNatClampNeg)) (Int32.toInt64 r2)) = 0 → False)))) ∧ (¬ r3 = r1 → False))))))))))) :
    Wg X ce sl h [(0, .ref 59), (1, .ref 14), (2, .ref 0), (3, .ref 58), (4, .int v4)] [] 160 := by
  refine r_aload_n C 1 rfl d_La_law_160 ?_
  refine r_aload_n C 0 rfl d_La_law_161 ?_
  refine r_iload C 4 rfl d_La_law_162 ?_
  refine r_iconst (v := 1) C (by decide) d_La_law_164 ?_
  refine r_iadd C d_La_law_165 ?_
  obtain ⟨s0, K⟩ := K
  refine r_sld C S s0 d_La_law_166 ?_
  refine r_aload_n C 0 rfl d_La_law_167 ?_
  refine r_iload C 4 rfl d_La_law_168 ?_
  refine r_iconst (v := 2) C (by decide) d_La_law_170 ?_
  refine r_iadd C d_La_law_171 ?_
  obtain ⟨s0, K⟩ := K
  refine r_sld C S s0 d_La_law_172 ?_
  refine r_i2l C d_La_law_173 ?_
  refine r_bipush (v := 32) C (by decide) d_La_law_174 ?_
  refine r_lshl C d_La_law_176 ?_
  refine r_aload_n C 0 rfl d_La_law_177 ?_
  refine r_iload C 4 rfl d_La_law_178 ?_
  refine r_iconst (v := 3) C (by decide) d_La_law_180 ?_
  refine r_iadd C d_La_law_181 ?_
  obtain ⟨s0, K⟩ := K
  refine r_sld C S s0 d_La_law_182 ?_
  refine r_i2l C d_La_law_183 ?_
  refine r_ldc2 (v := 4294967295) C k_1323 d_La_law_184 ?_
  refine r_land C d_La_law_187 ?_
  refine r_lor C d_La_law_188 ?_
  refine r_aload_n C 3 rfl d_La_law_189 ?_
  refine r_callSH (lv := 0) (mc := 0) (ms := 0) (As := [.ref 14, .int (sx (v4 + 1).toNatClampNeg), .long ((lshl (Int32.toInt64 (sx (v4 + 2).toNatClampNeg)) 32) ||| ((Int32.toInt64 (sx (v4 + 3).toNatClampNeg)) &&& 4294967295)), .ref 58]) (st := []) (lvc := 12) (mcc := 1) (msc := 6) C N (by rw [Rm]; exact ⟨Nat.le_of_ble_eq_true rfl, Nat.le_of_ble_eq_true rfl⟩) M_La_load rfl k_367 (Nat.le_of_ble_eq_true rfl) hm d_La_law_190 ?_
  refine CanH.mono K (fun _ h1 z => ?_)
  obtain ⟨r1, rfl, K⟩ := z
  show Wg X (ce + 1) (sl + 6) h1 [(0, .ref 59), (1, .ref 14), (2, .ref 0), (3, .ref 58), (4, .int v4)] [.int r1] 193
  refine r_istore (ls2 := [(0, .ref 59), (1, .ref 14), (2, .ref 0), (3, .ref 58), (4, .int v4), (5, .int r1)]) C (by decide) rfl d_La_law_193 ?_
  refine r_aload_n C 2 rfl d_La_law_195 ?_
  refine r_aload_n C 0 rfl d_La_law_196 ?_
  refine r_iload C 4 rfl d_La_law_197 ?_
  refine r_iconst (v := 1) C (by decide) d_La_law_199 ?_
  refine r_iadd C d_La_law_200 ?_
  obtain ⟨s0, K⟩ := K
  refine r_sld C S s0 d_La_law_201 ?_
  refine r_aload_n C 0 rfl d_La_law_202 ?_
  refine r_iload C 4 rfl d_La_law_203 ?_
  refine r_iconst (v := 2) C (by decide) d_La_law_205 ?_
  refine r_iadd C d_La_law_206 ?_
  obtain ⟨s0, K⟩ := K
  refine r_sld C S s0 d_La_law_207 ?_
  refine r_i2l C d_La_law_208 ?_
  refine r_bipush (v := 32) C (by decide) d_La_law_209 ?_
  refine r_lshl C d_La_law_211 ?_
  refine r_aload_n C 0 rfl d_La_law_212 ?_
  refine r_iload C 4 rfl d_La_law_213 ?_
  refine r_iconst (v := 3) C (by decide) d_La_law_215 ?_
  refine r_iadd C d_La_law_216 ?_
  obtain ⟨s0, K⟩ := K
  refine r_sld C S s0 d_La_law_217 ?_
  refine r_i2l C d_La_law_218 ?_
  refine r_ldc2 (v := 4294967295) C k_1323 d_La_law_219 ?_
  refine r_land C d_La_law_222 ?_
  refine r_lor C d_La_law_223 ?_
  refine r_callVL (As := [.int (sx (v4 + 1).toNatClampNeg), .long ((lshl (Int32.toInt64 (sx (v4 + 2).toNatClampNeg)) 32) ||| ((Int32.toInt64 (sx (v4 + 3).toNatClampNeg)) &&& 4294967295))]) (st := []) (lvc := 5) (mcc := 0) (msc := 0) C (by rw [Rm]; exact ⟨Nat.le_of_ble_eq_true rfl, Nat.le_of_ble_eq_true rfl⟩) M_Mo_load rfl k_1102 rfl (Nat.le_of_ble_eq_true rfl) hm d_La_law_224 ?_
  refine Can.mono K (fun _ h2 z => ?_)
  obtain ⟨r2, rfl, K⟩ := z
  show Wg X (ce + 1) (sl + 6) h2 [(0, .ref 59), (1, .ref 14), (2, .ref 0), (3, .ref 58), (4, .int v4), (5, .int r1)] [.int r2] 227
  refine r_istore (ls2 := [(0, .ref 59), (1, .ref 14), (2, .ref 0), (3, .ref 58), (4, .int v4), (5, .int r1), (6, .int r2)]) C (by decide) rfl d_La_law_227 ?_
  refine r_aload_n C 2 rfl d_La_law_229 ?_
  refine r_callVL (As := []) (st := []) (lvc := 0) (mcc := 0) (msc := 0) C (by rw [Rm]; exact ⟨Nat.le_of_ble_eq_true rfl, Nat.le_of_ble_eq_true rfl⟩) M_Mo_thrown rfl k_1083 rfl (Nat.le_of_ble_eq_true rfl) hm d_La_law_230 ?_
  refine Can.mono K (fun _ h3 z => ?_)
  obtain ⟨r3, rfl, K⟩ := z
  show Wg X (ce + 1) (sl + 6) h3 [(0, .ref 59), (1, .ref 14), (2, .ref 0), (3, .ref 58), (4, .int v4), (5, .int r1), (6, .int r2)] [.int r3] 233
  refine r_iload C 5 rfl d_La_law_233 ?_
  refine r_icmp_eq C 240 d_La_law_235 (by decide) ⟨fun c0 => ?_, fun c0 => ?_⟩
  · have K := K.1 c0
    refine r_iload C 5 rfl d_La_law_240 ?_
    refine r_if_ne C 257 d_La_law_242 (by decide) ⟨fun c0 => ?_, fun c0 => ?_⟩
    · have K := K.1 c0
      refine r_goto C 1206 d_La_law_257 (by decide) ?_
      exact Wg.drop (by simp) K
    · have K := K.2 c0
      refine r_aload_n C 3 rfl d_La_law_245 ?_
      refine r_iconst (v := 0) C (by decide) d_La_law_246 ?_
      obtain ⟨s0, K⟩ := K
      refine r_lald C rfl s0 d_La_law_247 ?_
      refine r_iload C 6 rfl d_La_law_248 ?_
      refine r_i2l C d_La_law_250 ?_
      refine r_lcmp C d_La_law_251 ?_
      refine r_if_eq C 257 d_La_law_252 (by decide) ⟨fun c0 => ?_, fun c0 => ?_⟩
      · have K := K.1 c0
        refine r_goto C 1206 d_La_law_257 (by decide) ?_
        exact Wg.drop (by simp) K
      · have K := K.2 c0
        exact K.elim
  · have K := K.2 c0
    exact K.elim
set_option maxHeartbeats 4000000 in
set_option maxRecDepth 100000 in
theorem w_2 {X : CX} {h : HP} {v4 : Int32} {L : Nat} {sx : Nat → Int32} {ce sl : Nat} (C : Cok X code 7 R_Lw ret) (N : NW (xs X)) (Rm : xR X = room_1) (S : SC X L sx) (hm : ce + 1 ≤ (xR X).cells ∧ sl + 6 ≤ (xR X).slots)
    (K : vp_in (v4 + 1) L ∧ (vp_in (v4 + 2) L ∧ (H_La_copy [.ref 14, .int (sx (v4 + 1).toNatClampNeg), .int (sx (v4 + 2).toNatClampNeg)] h (fun r1 h1 => vp_in (v4 + 1) L ∧ (vp_in (v4 + 2) L ∧ (K_Mo_copy [.ref 0, .int (sx (v4 + 1).toNatClampNeg), .int (sx (v4 + 2).toNatClampNeg)] h1 (fun h2 => K_Mo_thrown [.ref 0] h2 (fun r3 h3 => (r3 = r1 → Wg X (ce + 1) (sl + 6) h3 [(0, .ref 59), (1, .ref 14), (2, .ref 0), (3, .ref 58), (4, .int v4)] [] 1206) ∧ (¬ r3 = r1 → False))))))))) :
    Wg X ce sl h [(0, .ref 59), (1, .ref 14), (2, .ref 0), (3, .ref 58), (4, .int v4)] [] 260 := by
  refine r_aload_n C 1 rfl d_La_law_260 ?_
  refine r_aload_n C 0 rfl d_La_law_261 ?_
  refine r_iload C 4 rfl d_La_law_262 ?_
  refine r_iconst (v := 1) C (by decide) d_La_law_264 ?_
  refine r_iadd C d_La_law_265 ?_
  obtain ⟨s0, K⟩ := K
  refine r_sld C S s0 d_La_law_266 ?_
  refine r_aload_n C 0 rfl d_La_law_267 ?_
  refine r_iload C 4 rfl d_La_law_268 ?_
  refine r_iconst (v := 2) C (by decide) d_La_law_270 ?_
  refine r_iadd C d_La_law_271 ?_
  obtain ⟨s0, K⟩ := K
  refine r_sld C S s0 d_La_law_272 ?_
  refine r_callSH (lv := 0) (mc := 0) (ms := 0) (As := [.ref 14, .int (sx (v4 + 1).toNatClampNeg), .int (sx (v4 + 2).toNatClampNeg)]) (st := []) (lvc := 12) (mcc := 1) (msc := 6) C N (by rw [Rm]; exact ⟨Nat.le_of_ble_eq_true rfl, Nat.le_of_ble_eq_true rfl⟩) M_La_copy rfl k_435 (Nat.le_of_ble_eq_true rfl) hm d_La_law_273 ?_
  refine CanH.mono K (fun _ h1 z => ?_)
  obtain ⟨r1, rfl, K⟩ := z
  show Wg X (ce + 1) (sl + 6) h1 [(0, .ref 59), (1, .ref 14), (2, .ref 0), (3, .ref 58), (4, .int v4)] [.int r1] 276
  refine r_istore (ls2 := [(0, .ref 59), (1, .ref 14), (2, .ref 0), (3, .ref 58), (4, .int v4), (5, .int r1)]) C (by decide) rfl d_La_law_276 ?_
  refine r_aload_n C 2 rfl d_La_law_278 ?_
  refine r_aload_n C 0 rfl d_La_law_279 ?_
  refine r_iload C 4 rfl d_La_law_280 ?_
  refine r_iconst (v := 1) C (by decide) d_La_law_282 ?_
  refine r_iadd C d_La_law_283 ?_
  obtain ⟨s0, K⟩ := K
  refine r_sld C S s0 d_La_law_284 ?_
  refine r_aload_n C 0 rfl d_La_law_285 ?_
  refine r_iload C 4 rfl d_La_law_286 ?_
  refine r_iconst (v := 2) C (by decide) d_La_law_288 ?_
  refine r_iadd C d_La_law_289 ?_
  obtain ⟨s0, K⟩ := K
  refine r_sld C S s0 d_La_law_290 ?_
  refine r_callVL (As := [.int (sx (v4 + 1).toNatClampNeg), .int (sx (v4 + 2).toNatClampNeg)]) (st := []) (lvc := 1) (mcc := 0) (msc := 0) C (by rw [Rm]; exact ⟨Nat.le_of_ble_eq_true rfl, Nat.le_of_ble_eq_true rfl⟩) M_Mo_copy rfl k_1175 rfl (Nat.le_of_ble_eq_true rfl) hm d_La_law_291 ?_
  refine Can.mono K (fun _ h2 z => ?_)
  obtain ⟨rfl, K⟩ := z
  show Wg X (ce + 1) (sl + 6) h2 [(0, .ref 59), (1, .ref 14), (2, .ref 0), (3, .ref 58), (4, .int v4), (5, .int r1)] [] 294
  refine r_aload_n C 2 rfl d_La_law_294 ?_
  refine r_callVL (As := []) (st := []) (lvc := 0) (mcc := 0) (msc := 0) C (by rw [Rm]; exact ⟨Nat.le_of_ble_eq_true rfl, Nat.le_of_ble_eq_true rfl⟩) M_Mo_thrown rfl k_1083 rfl (Nat.le_of_ble_eq_true rfl) hm d_La_law_295 ?_
  refine Can.mono K (fun _ h3 z => ?_)
  obtain ⟨r3, rfl, K⟩ := z
  show Wg X (ce + 1) (sl + 6) h3 [(0, .ref 59), (1, .ref 14), (2, .ref 0), (3, .ref 58), (4, .int v4), (5, .int r1)] [.int r3] 298
  refine r_iload C 5 rfl d_La_law_298 ?_
  refine r_icmp_eq C 305 d_La_law_300 (by decide) ⟨fun c0 => ?_, fun c0 => ?_⟩
  · have K := K.1 c0
    refine r_goto C 1206 d_La_law_305 (by decide) ?_
    exact Wg.drop (by simp) K
  · have K := K.2 c0
    exact K.elim
set_option maxHeartbeats 4000000 in
set_option maxRecDepth 100000 in
theorem w_3 {X : CX} {h : HP} {v4 : Int32} {L : Nat} {sx : Nat → Int32} {ce sl : Nat} (C : Cok X code 7 R_Lw ret) (N : NW (xs X)) (Rm : xR X = room_1) (S : SC X L sx) (hm : ce + 1 ≤ (xR X).cells ∧ sl + 6 ≤ (xR X).slots)
    (K : vp_in (v4 + 1) L ∧ (vp_in (v4 + 2) L ∧ (vp_in (v4 + 3) L ∧ (H_La_cons [.ref 14, .int (sx (v4 + 1).toNatClampNeg), .int (sx (v4 + 2).toNatClampNeg), .int (sx (v4 + 3).toNatClampNeg), .ref 58] h (fun r1 h1 => vp_in (v4 + 1) L ∧ (vp_in (v4 + 2) L ∧ (vp_in (v4 + 3) L ∧ (K_Mo_cons [.ref 0, .int (sx (v4 + 1).toNatClampNeg), .int (sx (v4 + 2).toNatClampNeg), .int (sx (v4 + 3).toNatClampNeg)] h1 (fun r2 h2 => K_Mo_thrown [.ref 0] h2 (fun r3 h3 => (r3 = r1 → (¬ r1 = 0 → Wg X (ce + 1) (sl + 6) h3 [(0, .ref 59), (1, .ref 14), (2, .ref 0), (3, .ref 58), (4, .int v4)] [] 1206) ∧ (r1 = 0 → vp_in 0 1 ∧ (((lg_cmp (Int32.toInt64 (h3 58 (0 : Int32).toNatClampNeg)) (Int32.toInt64 r2)) = 0 → Wg X (ce + 1) (sl + 6) h3 [(0, .ref 59), (1, .ref 14), (2, .ref 0), (3, .ref 58), (4, .int v4)] [] 1206) ∧ (¬ (lg_cmp (Int32.toInt64 (h3 58 (0 : Int32).toNatClampNeg)) (Int32.toInt64 r2)) = 0 → False)))) ∧ (¬ r3 = r1 → False))))))))))) :
    Wg X ce sl h [(0, .ref 59), (1, .ref 14), (2, .ref 0), (3, .ref 58), (4, .int v4)] [] 308 := by
  refine r_aload_n C 1 rfl d_La_law_308 ?_
  refine r_aload_n C 0 rfl d_La_law_309 ?_
  refine r_iload C 4 rfl d_La_law_310 ?_
  refine r_iconst (v := 1) C (by decide) d_La_law_312 ?_
  refine r_iadd C d_La_law_313 ?_
  obtain ⟨s0, K⟩ := K
  refine r_sld C S s0 d_La_law_314 ?_
  refine r_aload_n C 0 rfl d_La_law_315 ?_
  refine r_iload C 4 rfl d_La_law_316 ?_
  refine r_iconst (v := 2) C (by decide) d_La_law_318 ?_
  refine r_iadd C d_La_law_319 ?_
  obtain ⟨s0, K⟩ := K
  refine r_sld C S s0 d_La_law_320 ?_
  refine r_aload_n C 0 rfl d_La_law_321 ?_
  refine r_iload C 4 rfl d_La_law_322 ?_
  refine r_iconst (v := 3) C (by decide) d_La_law_324 ?_
  refine r_iadd C d_La_law_325 ?_
  obtain ⟨s0, K⟩ := K
  refine r_sld C S s0 d_La_law_326 ?_
  refine r_aload_n C 3 rfl d_La_law_327 ?_
  refine r_callSH (lv := 0) (mc := 0) (ms := 0) (As := [.ref 14, .int (sx (v4 + 1).toNatClampNeg), .int (sx (v4 + 2).toNatClampNeg), .int (sx (v4 + 3).toNatClampNeg), .ref 58]) (st := []) (lvc := 12) (mcc := 1) (msc := 6) C N (by rw [Rm]; exact ⟨Nat.le_of_ble_eq_true rfl, Nat.le_of_ble_eq_true rfl⟩) M_La_cons rfl k_442 (Nat.le_of_ble_eq_true rfl) hm d_La_law_328 ?_
  refine CanH.mono K (fun _ h1 z => ?_)
  obtain ⟨r1, rfl, K⟩ := z
  show Wg X (ce + 1) (sl + 6) h1 [(0, .ref 59), (1, .ref 14), (2, .ref 0), (3, .ref 58), (4, .int v4)] [.int r1] 331
  refine r_istore (ls2 := [(0, .ref 59), (1, .ref 14), (2, .ref 0), (3, .ref 58), (4, .int v4), (5, .int r1)]) C (by decide) rfl d_La_law_331 ?_
  refine r_aload_n C 2 rfl d_La_law_333 ?_
  refine r_aload_n C 0 rfl d_La_law_334 ?_
  refine r_iload C 4 rfl d_La_law_335 ?_
  refine r_iconst (v := 1) C (by decide) d_La_law_337 ?_
  refine r_iadd C d_La_law_338 ?_
  obtain ⟨s0, K⟩ := K
  refine r_sld C S s0 d_La_law_339 ?_
  refine r_aload_n C 0 rfl d_La_law_340 ?_
  refine r_iload C 4 rfl d_La_law_341 ?_
  refine r_iconst (v := 2) C (by decide) d_La_law_343 ?_
  refine r_iadd C d_La_law_344 ?_
  obtain ⟨s0, K⟩ := K
  refine r_sld C S s0 d_La_law_345 ?_
  refine r_aload_n C 0 rfl d_La_law_346 ?_
  refine r_iload C 4 rfl d_La_law_347 ?_
  refine r_iconst (v := 3) C (by decide) d_La_law_349 ?_
  refine r_iadd C d_La_law_350 ?_
  obtain ⟨s0, K⟩ := K
  refine r_sld C S s0 d_La_law_351 ?_
  refine r_callVL (As := [.int (sx (v4 + 1).toNatClampNeg), .int (sx (v4 + 2).toNatClampNeg), .int (sx (v4 + 3).toNatClampNeg)]) (st := []) (lvc := 4) (mcc := 0) (msc := 0) C (by rw [Rm]; exact ⟨Nat.le_of_ble_eq_true rfl, Nat.le_of_ble_eq_true rfl⟩) M_Mo_cons rfl k_1179 rfl (Nat.le_of_ble_eq_true rfl) hm d_La_law_352 ?_
  refine Can.mono K (fun _ h2 z => ?_)
  obtain ⟨r2, rfl, K⟩ := z
  show Wg X (ce + 1) (sl + 6) h2 [(0, .ref 59), (1, .ref 14), (2, .ref 0), (3, .ref 58), (4, .int v4), (5, .int r1)] [.int r2] 355
  refine r_istore (ls2 := [(0, .ref 59), (1, .ref 14), (2, .ref 0), (3, .ref 58), (4, .int v4), (5, .int r1), (6, .int r2)]) C (by decide) rfl d_La_law_355 ?_
  refine r_aload_n C 2 rfl d_La_law_357 ?_
  refine r_callVL (As := []) (st := []) (lvc := 0) (mcc := 0) (msc := 0) C (by rw [Rm]; exact ⟨Nat.le_of_ble_eq_true rfl, Nat.le_of_ble_eq_true rfl⟩) M_Mo_thrown rfl k_1083 rfl (Nat.le_of_ble_eq_true rfl) hm d_La_law_358 ?_
  refine Can.mono K (fun _ h3 z => ?_)
  obtain ⟨r3, rfl, K⟩ := z
  show Wg X (ce + 1) (sl + 6) h3 [(0, .ref 59), (1, .ref 14), (2, .ref 0), (3, .ref 58), (4, .int v4), (5, .int r1), (6, .int r2)] [.int r3] 361
  refine r_iload C 5 rfl d_La_law_361 ?_
  refine r_icmp_eq C 368 d_La_law_363 (by decide) ⟨fun c0 => ?_, fun c0 => ?_⟩
  · have K := K.1 c0
    refine r_iload C 5 rfl d_La_law_368 ?_
    refine r_if_ne C 385 d_La_law_370 (by decide) ⟨fun c0 => ?_, fun c0 => ?_⟩
    · have K := K.1 c0
      refine r_goto C 1206 d_La_law_385 (by decide) ?_
      exact Wg.drop (by simp) K
    · have K := K.2 c0
      refine r_aload_n C 3 rfl d_La_law_373 ?_
      refine r_iconst (v := 0) C (by decide) d_La_law_374 ?_
      obtain ⟨s0, K⟩ := K
      refine r_lald C rfl s0 d_La_law_375 ?_
      refine r_iload C 6 rfl d_La_law_376 ?_
      refine r_i2l C d_La_law_378 ?_
      refine r_lcmp C d_La_law_379 ?_
      refine r_if_eq C 385 d_La_law_380 (by decide) ⟨fun c0 => ?_, fun c0 => ?_⟩
      · have K := K.1 c0
        refine r_goto C 1206 d_La_law_385 (by decide) ?_
        exact Wg.drop (by simp) K
      · have K := K.2 c0
        exact K.elim
  · have K := K.2 c0
    exact K.elim
set_option maxHeartbeats 4000000 in
set_option maxRecDepth 100000 in
theorem w_4 {X : CX} {h : HP} {v4 : Int32} {L : Nat} {sx : Nat → Int32} {ce sl : Nat} (C : Cok X code 7 R_Lw ret) (N : NW (xs X)) (Rm : xR X = room_1) (S : SC X L sx) (hm : ce + 1 ≤ (xR X).cells ∧ sl + 6 ≤ (xR X).slots)
    (K : vp_in (v4 + 1) L ∧ (vp_in (v4 + 2) L ∧ (vp_in (v4 + 3) L ∧ (((sx (v4 + 3).toNatClampNeg) = 0 → H_La_part [.ref 14, .int (sx (v4 + 1).toNatClampNeg), .int (sx (v4 + 2).toNatClampNeg), .int 0, .ref 58] h (fun r1 h1 => vp_in (v4 + 1) L ∧ (vp_in (v4 + 2) L ∧ (vp_in (v4 + 3) L ∧ (((sx (v4 + 3).toNatClampNeg) = 0 → K_Mo_part [.ref 0, .int (sx (v4 + 1).toNatClampNeg), .int (sx (v4 + 2).toNatClampNeg), .int 0] h1 (fun r2 h2 => K_Mo_thrown [.ref 0] h2 (fun r3 h3 => (r3 = r1 → (¬ r1 = 0 → Wg X (ce + 1) (sl + 6) h3 [(0, .ref 59), (1, .ref 14), (2, .ref 0), (3, .ref 58), (4, .int v4)] [] 1206) ∧ (r1 = 0 → vp_in 0 1 ∧ (((lg_cmp (Int32.toInt64 (h3 58 (0 : Int32).toNatClampNeg)) (Int32.toInt64 r2)) = 0 → Wg X (ce + 1) (sl + 6) h3 [(0, .ref 59), (1, .ref 14), (2, .ref 0), (3, .ref 58), (4, .int v4)] [] 1206) ∧ (¬ (lg_cmp (Int32.toInt64 (h3 58 (0 : Int32).toNatClampNeg)) (Int32.toInt64 r2)) = 0 → False)))) ∧ (¬ r3 = r1 → False)))) ∧ (¬ (sx (v4 + 3).toNatClampNeg) = 0 → K_Mo_part [.ref 0, .int (sx (v4 + 1).toNatClampNeg), .int (sx (v4 + 2).toNatClampNeg), .int 1] h1 (fun r4 h4 => K_Mo_thrown [.ref 0] h4 (fun r5 h5 => (r5 = r1 → (¬ r1 = 0 → Wg X (ce + 1) (sl + 6) h5 [(0, .ref 59), (1, .ref 14), (2, .ref 0), (3, .ref 58), (4, .int v4)] [] 1206) ∧ (r1 = 0 → vp_in 0 1 ∧ (((lg_cmp (Int32.toInt64 (h5 58 (0 : Int32).toNatClampNeg)) (Int32.toInt64 r4)) = 0 → Wg X (ce + 1) (sl + 6) h5 [(0, .ref 59), (1, .ref 14), (2, .ref 0), (3, .ref 58), (4, .int v4)] [] 1206) ∧ (¬ (lg_cmp (Int32.toInt64 (h5 58 (0 : Int32).toNatClampNeg)) (Int32.toInt64 r4)) = 0 → False)))) ∧ (¬ r5 = r1 → False))))))))) ∧ (¬ (sx (v4 + 3).toNatClampNeg) = 0 → H_La_part [.ref 14, .int (sx (v4 + 1).toNatClampNeg), .int (sx (v4 + 2).toNatClampNeg), .int 1, .ref 58] h (fun r6 h6 => vp_in (v4 + 1) L ∧ (vp_in (v4 + 2) L ∧ (vp_in (v4 + 3) L ∧ (((sx (v4 + 3).toNatClampNeg) = 0 → K_Mo_part [.ref 0, .int (sx (v4 + 1).toNatClampNeg), .int (sx (v4 + 2).toNatClampNeg), .int 0] h6 (fun r7 h7 => K_Mo_thrown [.ref 0] h7 (fun r8 h8 => (r8 = r6 → (¬ r6 = 0 → Wg X (ce + 1) (sl + 6) h8 [(0, .ref 59), (1, .ref 14), (2, .ref 0), (3, .ref 58), (4, .int v4)] [] 1206) ∧ (r6 = 0 → vp_in 0 1 ∧ (((lg_cmp (Int32.toInt64 (h8 58 (0 : Int32).toNatClampNeg)) (Int32.toInt64 r7)) = 0 → Wg X (ce + 1) (sl + 6) h8 [(0, .ref 59), (1, .ref 14), (2, .ref 0), (3, .ref 58), (4, .int v4)] [] 1206) ∧ (¬ (lg_cmp (Int32.toInt64 (h8 58 (0 : Int32).toNatClampNeg)) (Int32.toInt64 r7)) = 0 → False)))) ∧ (¬ r8 = r6 → False)))) ∧ (¬ (sx (v4 + 3).toNatClampNeg) = 0 → K_Mo_part [.ref 0, .int (sx (v4 + 1).toNatClampNeg), .int (sx (v4 + 2).toNatClampNeg), .int 1] h6 (fun r9 h9 => K_Mo_thrown [.ref 0] h9 (fun r10 h10 => (r10 = r6 → (¬ r6 = 0 → Wg X (ce + 1) (sl + 6) h10 [(0, .ref 59), (1, .ref 14), (2, .ref 0), (3, .ref 58), (4, .int v4)] [] 1206) ∧ (r6 = 0 → vp_in 0 1 ∧ (((lg_cmp (Int32.toInt64 (h10 58 (0 : Int32).toNatClampNeg)) (Int32.toInt64 r9)) = 0 → Wg X (ce + 1) (sl + 6) h10 [(0, .ref 59), (1, .ref 14), (2, .ref 0), (3, .ref 58), (4, .int v4)] [] 1206) ∧ (¬ (lg_cmp (Int32.toInt64 (h10 58 (0 : Int32).toNatClampNeg)) (Int32.toInt64 r9)) = 0 → False)))) ∧ (¬ r10 = r6 → False))))))))))))) :
    Wg X ce sl h [(0, .ref 59), (1, .ref 14), (2, .ref 0), (3, .ref 58), (4, .int v4)] [] 388 := by
  refine r_aload_n C 1 rfl d_La_law_388 ?_
  refine r_aload_n C 0 rfl d_La_law_389 ?_
  refine r_iload C 4 rfl d_La_law_390 ?_
  refine r_iconst (v := 1) C (by decide) d_La_law_392 ?_
  refine r_iadd C d_La_law_393 ?_
  obtain ⟨s0, K⟩ := K
  refine r_sld C S s0 d_La_law_394 ?_
  refine r_aload_n C 0 rfl d_La_law_395 ?_
  refine r_iload C 4 rfl d_La_law_396 ?_
  refine r_iconst (v := 2) C (by decide) d_La_law_398 ?_
  refine r_iadd C d_La_law_399 ?_
  obtain ⟨s0, K⟩ := K
  refine r_sld C S s0 d_La_law_400 ?_
  refine r_aload_n C 0 rfl d_La_law_401 ?_
  refine r_iload C 4 rfl d_La_law_402 ?_
  refine r_iconst (v := 3) C (by decide) d_La_law_404 ?_
  refine r_iadd C d_La_law_405 ?_
  obtain ⟨s0, K⟩ := K
  refine r_sld C S s0 d_La_law_406 ?_
  refine r_if_eq C 414 d_La_law_407 (by decide) ⟨fun c0 => ?_, fun c0 => ?_⟩
  · have K := K.1 c0
    refine r_iconst (v := 0) C (by decide) d_La_law_414 ?_
    refine r_aload_n C 3 rfl d_La_law_415 ?_
    refine r_callSH (lv := 0) (mc := 0) (ms := 0) (As := [.ref 14, .int (sx (v4 + 1).toNatClampNeg), .int (sx (v4 + 2).toNatClampNeg), .int 0, .ref 58]) (st := []) (lvc := 12) (mcc := 1) (msc := 6) C N (by rw [Rm]; exact ⟨Nat.le_of_ble_eq_true rfl, Nat.le_of_ble_eq_true rfl⟩) M_La_part rfl k_451 (Nat.le_of_ble_eq_true rfl) hm d_La_law_416 ?_
    refine CanH.mono K (fun _ h1 z => ?_)
    obtain ⟨r1, rfl, K⟩ := z
    show Wg X (ce + 1) (sl + 6) h1 [(0, .ref 59), (1, .ref 14), (2, .ref 0), (3, .ref 58), (4, .int v4)] [.int r1] 419
    refine r_istore (ls2 := [(0, .ref 59), (1, .ref 14), (2, .ref 0), (3, .ref 58), (4, .int v4), (5, .int r1)]) C (by decide) rfl d_La_law_419 ?_
    refine r_aload_n C 2 rfl d_La_law_421 ?_
    refine r_aload_n C 0 rfl d_La_law_422 ?_
    refine r_iload C 4 rfl d_La_law_423 ?_
    refine r_iconst (v := 1) C (by decide) d_La_law_425 ?_
    refine r_iadd C d_La_law_426 ?_
    obtain ⟨s0, K⟩ := K
    refine r_sld C S s0 d_La_law_427 ?_
    refine r_aload_n C 0 rfl d_La_law_428 ?_
    refine r_iload C 4 rfl d_La_law_429 ?_
    refine r_iconst (v := 2) C (by decide) d_La_law_431 ?_
    refine r_iadd C d_La_law_432 ?_
    obtain ⟨s0, K⟩ := K
    refine r_sld C S s0 d_La_law_433 ?_
    refine r_aload_n C 0 rfl d_La_law_434 ?_
    refine r_iload C 4 rfl d_La_law_435 ?_
    refine r_iconst (v := 3) C (by decide) d_La_law_437 ?_
    refine r_iadd C d_La_law_438 ?_
    obtain ⟨s0, K⟩ := K
    refine r_sld C S s0 d_La_law_439 ?_
    refine r_if_eq C 447 d_La_law_440 (by decide) ⟨fun c0 => ?_, fun c0 => ?_⟩
    · have K := K.1 c0
      refine r_iconst (v := 0) C (by decide) d_La_law_447 ?_
      refine r_callVL (As := [.int (sx (v4 + 1).toNatClampNeg), .int (sx (v4 + 2).toNatClampNeg), .int 0]) (st := []) (lvc := 1) (mcc := 0) (msc := 0) C (by rw [Rm]; exact ⟨Nat.le_of_ble_eq_true rfl, Nat.le_of_ble_eq_true rfl⟩) M_Mo_part rfl k_1183 rfl (Nat.le_of_ble_eq_true rfl) hm d_La_law_448 ?_
      refine Can.mono K (fun _ h2 z => ?_)
      obtain ⟨r2, rfl, K⟩ := z
      show Wg X (ce + 1) (sl + 6) h2 [(0, .ref 59), (1, .ref 14), (2, .ref 0), (3, .ref 58), (4, .int v4), (5, .int r1)] [.int r2] 451
      refine r_istore (ls2 := [(0, .ref 59), (1, .ref 14), (2, .ref 0), (3, .ref 58), (4, .int v4), (5, .int r1), (6, .int r2)]) C (by decide) rfl d_La_law_451 ?_
      refine r_aload_n C 2 rfl d_La_law_453 ?_
      refine r_callVL (As := []) (st := []) (lvc := 0) (mcc := 0) (msc := 0) C (by rw [Rm]; exact ⟨Nat.le_of_ble_eq_true rfl, Nat.le_of_ble_eq_true rfl⟩) M_Mo_thrown rfl k_1083 rfl (Nat.le_of_ble_eq_true rfl) hm d_La_law_454 ?_
      refine Can.mono K (fun _ h3 z => ?_)
      obtain ⟨r3, rfl, K⟩ := z
      show Wg X (ce + 1) (sl + 6) h3 [(0, .ref 59), (1, .ref 14), (2, .ref 0), (3, .ref 58), (4, .int v4), (5, .int r1), (6, .int r2)] [.int r3] 457
      refine r_iload C 5 rfl d_La_law_457 ?_
      refine r_icmp_eq C 464 d_La_law_459 (by decide) ⟨fun c0 => ?_, fun c0 => ?_⟩
      · have K := K.1 c0
        refine r_iload C 5 rfl d_La_law_464 ?_
        refine r_if_ne C 481 d_La_law_466 (by decide) ⟨fun c0 => ?_, fun c0 => ?_⟩
        · have K := K.1 c0
          refine r_goto C 1206 d_La_law_481 (by decide) ?_
          exact Wg.drop (by simp) K
        · have K := K.2 c0
          refine r_aload_n C 3 rfl d_La_law_469 ?_
          refine r_iconst (v := 0) C (by decide) d_La_law_470 ?_
          obtain ⟨s0, K⟩ := K
          refine r_lald C rfl s0 d_La_law_471 ?_
          refine r_iload C 6 rfl d_La_law_472 ?_
          refine r_i2l C d_La_law_474 ?_
          refine r_lcmp C d_La_law_475 ?_
          refine r_if_eq C 481 d_La_law_476 (by decide) ⟨fun c0 => ?_, fun c0 => ?_⟩
          · have K := K.1 c0
            refine r_goto C 1206 d_La_law_481 (by decide) ?_
            exact Wg.drop (by simp) K
          · have K := K.2 c0
            exact K.elim
      · have K := K.2 c0
        exact K.elim
    · have K := K.2 c0
      refine r_iconst (v := 1) C (by decide) d_La_law_443 ?_
      refine r_goto C 448 d_La_law_444 (by decide) ?_
      refine r_callVL (As := [.int (sx (v4 + 1).toNatClampNeg), .int (sx (v4 + 2).toNatClampNeg), .int 1]) (st := []) (lvc := 1) (mcc := 0) (msc := 0) C (by rw [Rm]; exact ⟨Nat.le_of_ble_eq_true rfl, Nat.le_of_ble_eq_true rfl⟩) M_Mo_part rfl k_1183 rfl (Nat.le_of_ble_eq_true rfl) hm d_La_law_448 ?_
      refine Can.mono K (fun _ h4 z => ?_)
      obtain ⟨r4, rfl, K⟩ := z
      show Wg X (ce + 1) (sl + 6) h4 [(0, .ref 59), (1, .ref 14), (2, .ref 0), (3, .ref 58), (4, .int v4), (5, .int r1)] [.int r4] 451
      refine r_istore (ls2 := [(0, .ref 59), (1, .ref 14), (2, .ref 0), (3, .ref 58), (4, .int v4), (5, .int r1), (6, .int r4)]) C (by decide) rfl d_La_law_451 ?_
      refine r_aload_n C 2 rfl d_La_law_453 ?_
      refine r_callVL (As := []) (st := []) (lvc := 0) (mcc := 0) (msc := 0) C (by rw [Rm]; exact ⟨Nat.le_of_ble_eq_true rfl, Nat.le_of_ble_eq_true rfl⟩) M_Mo_thrown rfl k_1083 rfl (Nat.le_of_ble_eq_true rfl) hm d_La_law_454 ?_
      refine Can.mono K (fun _ h5 z => ?_)
      obtain ⟨r5, rfl, K⟩ := z
      show Wg X (ce + 1) (sl + 6) h5 [(0, .ref 59), (1, .ref 14), (2, .ref 0), (3, .ref 58), (4, .int v4), (5, .int r1), (6, .int r4)] [.int r5] 457
      refine r_iload C 5 rfl d_La_law_457 ?_
      refine r_icmp_eq C 464 d_La_law_459 (by decide) ⟨fun c0 => ?_, fun c0 => ?_⟩
      · have K := K.1 c0
        refine r_iload C 5 rfl d_La_law_464 ?_
        refine r_if_ne C 481 d_La_law_466 (by decide) ⟨fun c0 => ?_, fun c0 => ?_⟩
        · have K := K.1 c0
          refine r_goto C 1206 d_La_law_481 (by decide) ?_
          exact Wg.drop (by simp) K
        · have K := K.2 c0
          refine r_aload_n C 3 rfl d_La_law_469 ?_
          refine r_iconst (v := 0) C (by decide) d_La_law_470 ?_
          obtain ⟨s0, K⟩ := K
          refine r_lald C rfl s0 d_La_law_471 ?_
          refine r_iload C 6 rfl d_La_law_472 ?_
          refine r_i2l C d_La_law_474 ?_
          refine r_lcmp C d_La_law_475 ?_
          refine r_if_eq C 481 d_La_law_476 (by decide) ⟨fun c0 => ?_, fun c0 => ?_⟩
          · have K := K.1 c0
            refine r_goto C 1206 d_La_law_481 (by decide) ?_
            exact Wg.drop (by simp) K
          · have K := K.2 c0
            exact K.elim
      · have K := K.2 c0
        exact K.elim
  · have K := K.2 c0
    refine r_iconst (v := 1) C (by decide) d_La_law_410 ?_
    refine r_goto C 415 d_La_law_411 (by decide) ?_
    refine r_aload_n C 3 rfl d_La_law_415 ?_
    refine r_callSH (lv := 0) (mc := 0) (ms := 0) (As := [.ref 14, .int (sx (v4 + 1).toNatClampNeg), .int (sx (v4 + 2).toNatClampNeg), .int 1, .ref 58]) (st := []) (lvc := 12) (mcc := 1) (msc := 6) C N (by rw [Rm]; exact ⟨Nat.le_of_ble_eq_true rfl, Nat.le_of_ble_eq_true rfl⟩) M_La_part rfl k_451 (Nat.le_of_ble_eq_true rfl) hm d_La_law_416 ?_
    refine CanH.mono K (fun _ h6 z => ?_)
    obtain ⟨r6, rfl, K⟩ := z
    show Wg X (ce + 1) (sl + 6) h6 [(0, .ref 59), (1, .ref 14), (2, .ref 0), (3, .ref 58), (4, .int v4)] [.int r6] 419
    refine r_istore (ls2 := [(0, .ref 59), (1, .ref 14), (2, .ref 0), (3, .ref 58), (4, .int v4), (5, .int r6)]) C (by decide) rfl d_La_law_419 ?_
    refine r_aload_n C 2 rfl d_La_law_421 ?_
    refine r_aload_n C 0 rfl d_La_law_422 ?_
    refine r_iload C 4 rfl d_La_law_423 ?_
    refine r_iconst (v := 1) C (by decide) d_La_law_425 ?_
    refine r_iadd C d_La_law_426 ?_
    obtain ⟨s0, K⟩ := K
    refine r_sld C S s0 d_La_law_427 ?_
    refine r_aload_n C 0 rfl d_La_law_428 ?_
    refine r_iload C 4 rfl d_La_law_429 ?_
    refine r_iconst (v := 2) C (by decide) d_La_law_431 ?_
    refine r_iadd C d_La_law_432 ?_
    obtain ⟨s0, K⟩ := K
    refine r_sld C S s0 d_La_law_433 ?_
    refine r_aload_n C 0 rfl d_La_law_434 ?_
    refine r_iload C 4 rfl d_La_law_435 ?_
    refine r_iconst (v := 3) C (by decide) d_La_law_437 ?_
    refine r_iadd C d_La_law_438 ?_
    obtain ⟨s0, K⟩ := K
    refine r_sld C S s0 d_La_law_439 ?_
    refine r_if_eq C 447 d_La_law_440 (by decide) ⟨fun c0 => ?_, fun c0 => ?_⟩
    · have K := K.1 c0
      refine r_iconst (v := 0) C (by decide) d_La_law_447 ?_
      refine r_callVL (As := [.int (sx (v4 + 1).toNatClampNeg), .int (sx (v4 + 2).toNatClampNeg), .int 0]) (st := []) (lvc := 1) (mcc := 0) (msc := 0) C (by rw [Rm]; exact ⟨Nat.le_of_ble_eq_true rfl, Nat.le_of_ble_eq_true rfl⟩) M_Mo_part rfl k_1183 rfl (Nat.le_of_ble_eq_true rfl) hm d_La_law_448 ?_
      refine Can.mono K (fun _ h7 z => ?_)
      obtain ⟨r7, rfl, K⟩ := z
      show Wg X (ce + 1) (sl + 6) h7 [(0, .ref 59), (1, .ref 14), (2, .ref 0), (3, .ref 58), (4, .int v4), (5, .int r6)] [.int r7] 451
      refine r_istore (ls2 := [(0, .ref 59), (1, .ref 14), (2, .ref 0), (3, .ref 58), (4, .int v4), (5, .int r6), (6, .int r7)]) C (by decide) rfl d_La_law_451 ?_
      refine r_aload_n C 2 rfl d_La_law_453 ?_
      refine r_callVL (As := []) (st := []) (lvc := 0) (mcc := 0) (msc := 0) C (by rw [Rm]; exact ⟨Nat.le_of_ble_eq_true rfl, Nat.le_of_ble_eq_true rfl⟩) M_Mo_thrown rfl k_1083 rfl (Nat.le_of_ble_eq_true rfl) hm d_La_law_454 ?_
      refine Can.mono K (fun _ h8 z => ?_)
      obtain ⟨r8, rfl, K⟩ := z
      show Wg X (ce + 1) (sl + 6) h8 [(0, .ref 59), (1, .ref 14), (2, .ref 0), (3, .ref 58), (4, .int v4), (5, .int r6), (6, .int r7)] [.int r8] 457
      refine r_iload C 5 rfl d_La_law_457 ?_
      refine r_icmp_eq C 464 d_La_law_459 (by decide) ⟨fun c0 => ?_, fun c0 => ?_⟩
      · have K := K.1 c0
        refine r_iload C 5 rfl d_La_law_464 ?_
        refine r_if_ne C 481 d_La_law_466 (by decide) ⟨fun c0 => ?_, fun c0 => ?_⟩
        · have K := K.1 c0
          refine r_goto C 1206 d_La_law_481 (by decide) ?_
          exact Wg.drop (by simp) K
        · have K := K.2 c0
          refine r_aload_n C 3 rfl d_La_law_469 ?_
          refine r_iconst (v := 0) C (by decide) d_La_law_470 ?_
          obtain ⟨s0, K⟩ := K
          refine r_lald C rfl s0 d_La_law_471 ?_
          refine r_iload C 6 rfl d_La_law_472 ?_
          refine r_i2l C d_La_law_474 ?_
          refine r_lcmp C d_La_law_475 ?_
          refine r_if_eq C 481 d_La_law_476 (by decide) ⟨fun c0 => ?_, fun c0 => ?_⟩
          · have K := K.1 c0
            refine r_goto C 1206 d_La_law_481 (by decide) ?_
            exact Wg.drop (by simp) K
          · have K := K.2 c0
            exact K.elim
      · have K := K.2 c0
        exact K.elim
    · have K := K.2 c0
      refine r_iconst (v := 1) C (by decide) d_La_law_443 ?_
      refine r_goto C 448 d_La_law_444 (by decide) ?_
      refine r_callVL (As := [.int (sx (v4 + 1).toNatClampNeg), .int (sx (v4 + 2).toNatClampNeg), .int 1]) (st := []) (lvc := 1) (mcc := 0) (msc := 0) C (by rw [Rm]; exact ⟨Nat.le_of_ble_eq_true rfl, Nat.le_of_ble_eq_true rfl⟩) M_Mo_part rfl k_1183 rfl (Nat.le_of_ble_eq_true rfl) hm d_La_law_448 ?_
      refine Can.mono K (fun _ h9 z => ?_)
      obtain ⟨r9, rfl, K⟩ := z
      show Wg X (ce + 1) (sl + 6) h9 [(0, .ref 59), (1, .ref 14), (2, .ref 0), (3, .ref 58), (4, .int v4), (5, .int r6)] [.int r9] 451
      refine r_istore (ls2 := [(0, .ref 59), (1, .ref 14), (2, .ref 0), (3, .ref 58), (4, .int v4), (5, .int r6), (6, .int r9)]) C (by decide) rfl d_La_law_451 ?_
      refine r_aload_n C 2 rfl d_La_law_453 ?_
      refine r_callVL (As := []) (st := []) (lvc := 0) (mcc := 0) (msc := 0) C (by rw [Rm]; exact ⟨Nat.le_of_ble_eq_true rfl, Nat.le_of_ble_eq_true rfl⟩) M_Mo_thrown rfl k_1083 rfl (Nat.le_of_ble_eq_true rfl) hm d_La_law_454 ?_
      refine Can.mono K (fun _ h10 z => ?_)
      obtain ⟨r10, rfl, K⟩ := z
      show Wg X (ce + 1) (sl + 6) h10 [(0, .ref 59), (1, .ref 14), (2, .ref 0), (3, .ref 58), (4, .int v4), (5, .int r6), (6, .int r9)] [.int r10] 457
      refine r_iload C 5 rfl d_La_law_457 ?_
      refine r_icmp_eq C 464 d_La_law_459 (by decide) ⟨fun c0 => ?_, fun c0 => ?_⟩
      · have K := K.1 c0
        refine r_iload C 5 rfl d_La_law_464 ?_
        refine r_if_ne C 481 d_La_law_466 (by decide) ⟨fun c0 => ?_, fun c0 => ?_⟩
        · have K := K.1 c0
          refine r_goto C 1206 d_La_law_481 (by decide) ?_
          exact Wg.drop (by simp) K
        · have K := K.2 c0
          refine r_aload_n C 3 rfl d_La_law_469 ?_
          refine r_iconst (v := 0) C (by decide) d_La_law_470 ?_
          obtain ⟨s0, K⟩ := K
          refine r_lald C rfl s0 d_La_law_471 ?_
          refine r_iload C 6 rfl d_La_law_472 ?_
          refine r_i2l C d_La_law_474 ?_
          refine r_lcmp C d_La_law_475 ?_
          refine r_if_eq C 481 d_La_law_476 (by decide) ⟨fun c0 => ?_, fun c0 => ?_⟩
          · have K := K.1 c0
            refine r_goto C 1206 d_La_law_481 (by decide) ?_
            exact Wg.drop (by simp) K
          · have K := K.2 c0
            exact K.elim
      · have K := K.2 c0
        exact K.elim
set_option maxHeartbeats 4000000 in
set_option maxRecDepth 100000 in
theorem w_5 {X : CX} {h : HP} {v4 : Int32} {L : Nat} {sx : Nat → Int32} {ce sl : Nat} (C : Cok X code 7 R_Lw ret) (N : NW (xs X)) (Rm : xR X = room_1) (S : SC X L sx) (hm : ce + 1 ≤ (xR X).cells ∧ sl + 6 ≤ (xR X).slots)
    (K : vp_in (v4 + 1) L ∧ (vp_in (v4 + 2) L ∧ (((sx (v4 + 2).toNatClampNeg) = 0 → vp_in (v4 + 3) L ∧ (H_La_change [.ref 14, .int (sx (v4 + 1).toNatClampNeg), .int 0, .int (sx (v4 + 3).toNatClampNeg), .ref 58] h (fun r1 h1 => vp_in (v4 + 1) L ∧ (vp_in (v4 + 2) L ∧ (((sx (v4 + 2).toNatClampNeg) = 0 → vp_in (v4 + 3) L ∧ (K_Mo_change [.ref 0, .int (sx (v4 + 1).toNatClampNeg), .int 0, .int (sx (v4 + 3).toNatClampNeg)] h1 (fun r2 h2 => K_Mo_thrown [.ref 0] h2 (fun r3 h3 => (r3 = r1 → (¬ r1 = 0 → Wg X (ce + 1) (sl + 6) h3 [(0, .ref 59), (1, .ref 14), (2, .ref 0), (3, .ref 58), (4, .int v4)] [] 1206) ∧ (r1 = 0 → vp_in 0 1 ∧ (((lg_cmp (Int32.toInt64 (h3 58 (0 : Int32).toNatClampNeg)) (Int32.toInt64 r2)) = 0 → Wg X (ce + 1) (sl + 6) h3 [(0, .ref 59), (1, .ref 14), (2, .ref 0), (3, .ref 58), (4, .int v4)] [] 1206) ∧ (¬ (lg_cmp (Int32.toInt64 (h3 58 (0 : Int32).toNatClampNeg)) (Int32.toInt64 r2)) = 0 → False)))) ∧ (¬ r3 = r1 → False))))) ∧ (¬ (sx (v4 + 2).toNatClampNeg) = 0 → vp_in (v4 + 3) L ∧ (K_Mo_change [.ref 0, .int (sx (v4 + 1).toNatClampNeg), .int 1, .int (sx (v4 + 3).toNatClampNeg)] h1 (fun r4 h4 => K_Mo_thrown [.ref 0] h4 (fun r5 h5 => (r5 = r1 → (¬ r1 = 0 → Wg X (ce + 1) (sl + 6) h5 [(0, .ref 59), (1, .ref 14), (2, .ref 0), (3, .ref 58), (4, .int v4)] [] 1206) ∧ (r1 = 0 → vp_in 0 1 ∧ (((lg_cmp (Int32.toInt64 (h5 58 (0 : Int32).toNatClampNeg)) (Int32.toInt64 r4)) = 0 → Wg X (ce + 1) (sl + 6) h5 [(0, .ref 59), (1, .ref 14), (2, .ref 0), (3, .ref 58), (4, .int v4)] [] 1206) ∧ (¬ (lg_cmp (Int32.toInt64 (h5 58 (0 : Int32).toNatClampNeg)) (Int32.toInt64 r4)) = 0 → False)))) ∧ (¬ r5 = r1 → False)))))))))) ∧ (¬ (sx (v4 + 2).toNatClampNeg) = 0 → vp_in (v4 + 3) L ∧ (H_La_change [.ref 14, .int (sx (v4 + 1).toNatClampNeg), .int 1, .int (sx (v4 + 3).toNatClampNeg), .ref 58] h (fun r6 h6 => vp_in (v4 + 1) L ∧ (vp_in (v4 + 2) L ∧ (((sx (v4 + 2).toNatClampNeg) = 0 → vp_in (v4 + 3) L ∧ (K_Mo_change [.ref 0, .int (sx (v4 + 1).toNatClampNeg), .int 0, .int (sx (v4 + 3).toNatClampNeg)] h6 (fun r7 h7 => K_Mo_thrown [.ref 0] h7 (fun r8 h8 => (r8 = r6 → (¬ r6 = 0 → Wg X (ce + 1) (sl + 6) h8 [(0, .ref 59), (1, .ref 14), (2, .ref 0), (3, .ref 58), (4, .int v4)] [] 1206) ∧ (r6 = 0 → vp_in 0 1 ∧ (((lg_cmp (Int32.toInt64 (h8 58 (0 : Int32).toNatClampNeg)) (Int32.toInt64 r7)) = 0 → Wg X (ce + 1) (sl + 6) h8 [(0, .ref 59), (1, .ref 14), (2, .ref 0), (3, .ref 58), (4, .int v4)] [] 1206) ∧ (¬ (lg_cmp (Int32.toInt64 (h8 58 (0 : Int32).toNatClampNeg)) (Int32.toInt64 r7)) = 0 → False)))) ∧ (¬ r8 = r6 → False))))) ∧ (¬ (sx (v4 + 2).toNatClampNeg) = 0 → vp_in (v4 + 3) L ∧ (K_Mo_change [.ref 0, .int (sx (v4 + 1).toNatClampNeg), .int 1, .int (sx (v4 + 3).toNatClampNeg)] h6 (fun r9 h9 => K_Mo_thrown [.ref 0] h9 (fun r10 h10 => (r10 = r6 → (¬ r6 = 0 → Wg X (ce + 1) (sl + 6) h10 [(0, .ref 59), (1, .ref 14), (2, .ref 0), (3, .ref 58), (4, .int v4)] [] 1206) ∧ (r6 = 0 → vp_in 0 1 ∧ (((lg_cmp (Int32.toInt64 (h10 58 (0 : Int32).toNatClampNeg)) (Int32.toInt64 r9)) = 0 → Wg X (ce + 1) (sl + 6) h10 [(0, .ref 59), (1, .ref 14), (2, .ref 0), (3, .ref 58), (4, .int v4)] [] 1206) ∧ (¬ (lg_cmp (Int32.toInt64 (h10 58 (0 : Int32).toNatClampNeg)) (Int32.toInt64 r9)) = 0 → False)))) ∧ (¬ r10 = r6 → False))))))))))))) :
    Wg X ce sl h [(0, .ref 59), (1, .ref 14), (2, .ref 0), (3, .ref 58), (4, .int v4)] [] 484 := by
  refine r_aload_n C 1 rfl d_La_law_484 ?_
  refine r_aload_n C 0 rfl d_La_law_485 ?_
  refine r_iload C 4 rfl d_La_law_486 ?_
  refine r_iconst (v := 1) C (by decide) d_La_law_488 ?_
  refine r_iadd C d_La_law_489 ?_
  obtain ⟨s0, K⟩ := K
  refine r_sld C S s0 d_La_law_490 ?_
  refine r_aload_n C 0 rfl d_La_law_491 ?_
  refine r_iload C 4 rfl d_La_law_492 ?_
  refine r_iconst (v := 2) C (by decide) d_La_law_494 ?_
  refine r_iadd C d_La_law_495 ?_
  obtain ⟨s0, K⟩ := K
  refine r_sld C S s0 d_La_law_496 ?_
  refine r_if_eq C 504 d_La_law_497 (by decide) ⟨fun c0 => ?_, fun c0 => ?_⟩
  · have K := K.1 c0
    refine r_iconst (v := 0) C (by decide) d_La_law_504 ?_
    refine r_aload_n C 0 rfl d_La_law_505 ?_
    refine r_iload C 4 rfl d_La_law_506 ?_
    refine r_iconst (v := 3) C (by decide) d_La_law_508 ?_
    refine r_iadd C d_La_law_509 ?_
    obtain ⟨s0, K⟩ := K
    refine r_sld C S s0 d_La_law_510 ?_
    refine r_aload_n C 3 rfl d_La_law_511 ?_
    refine r_callSH (lv := 0) (mc := 0) (ms := 0) (As := [.ref 14, .int (sx (v4 + 1).toNatClampNeg), .int 0, .int (sx (v4 + 3).toNatClampNeg), .ref 58]) (st := []) (lvc := 12) (mcc := 1) (msc := 6) C N (by rw [Rm]; exact ⟨Nat.le_of_ble_eq_true rfl, Nat.le_of_ble_eq_true rfl⟩) M_La_change rfl k_470 (Nat.le_of_ble_eq_true rfl) hm d_La_law_512 ?_
    refine CanH.mono K (fun _ h1 z => ?_)
    obtain ⟨r1, rfl, K⟩ := z
    show Wg X (ce + 1) (sl + 6) h1 [(0, .ref 59), (1, .ref 14), (2, .ref 0), (3, .ref 58), (4, .int v4)] [.int r1] 515
    refine r_istore (ls2 := [(0, .ref 59), (1, .ref 14), (2, .ref 0), (3, .ref 58), (4, .int v4), (5, .int r1)]) C (by decide) rfl d_La_law_515 ?_
    refine r_aload_n C 2 rfl d_La_law_517 ?_
    refine r_aload_n C 0 rfl d_La_law_518 ?_
    refine r_iload C 4 rfl d_La_law_519 ?_
    refine r_iconst (v := 1) C (by decide) d_La_law_521 ?_
    refine r_iadd C d_La_law_522 ?_
    obtain ⟨s0, K⟩ := K
    refine r_sld C S s0 d_La_law_523 ?_
    refine r_aload_n C 0 rfl d_La_law_524 ?_
    refine r_iload C 4 rfl d_La_law_525 ?_
    refine r_iconst (v := 2) C (by decide) d_La_law_527 ?_
    refine r_iadd C d_La_law_528 ?_
    obtain ⟨s0, K⟩ := K
    refine r_sld C S s0 d_La_law_529 ?_
    refine r_if_eq C 537 d_La_law_530 (by decide) ⟨fun c0 => ?_, fun c0 => ?_⟩
    · have K := K.1 c0
      refine r_iconst (v := 0) C (by decide) d_La_law_537 ?_
      refine r_aload_n C 0 rfl d_La_law_538 ?_
      refine r_iload C 4 rfl d_La_law_539 ?_
      refine r_iconst (v := 3) C (by decide) d_La_law_541 ?_
      refine r_iadd C d_La_law_542 ?_
      obtain ⟨s0, K⟩ := K
      refine r_sld C S s0 d_La_law_543 ?_
      refine r_callVL (As := [.int (sx (v4 + 1).toNatClampNeg), .int 0, .int (sx (v4 + 3).toNatClampNeg)]) (st := []) (lvc := 1) (mcc := 0) (msc := 0) C (by rw [Rm]; exact ⟨Nat.le_of_ble_eq_true rfl, Nat.le_of_ble_eq_true rfl⟩) M_Mo_change rfl k_1191 rfl (Nat.le_of_ble_eq_true rfl) hm d_La_law_544 ?_
      refine Can.mono K (fun _ h2 z => ?_)
      obtain ⟨r2, rfl, K⟩ := z
      show Wg X (ce + 1) (sl + 6) h2 [(0, .ref 59), (1, .ref 14), (2, .ref 0), (3, .ref 58), (4, .int v4), (5, .int r1)] [.int r2] 547
      refine r_istore (ls2 := [(0, .ref 59), (1, .ref 14), (2, .ref 0), (3, .ref 58), (4, .int v4), (5, .int r1), (6, .int r2)]) C (by decide) rfl d_La_law_547 ?_
      refine r_aload_n C 2 rfl d_La_law_549 ?_
      refine r_callVL (As := []) (st := []) (lvc := 0) (mcc := 0) (msc := 0) C (by rw [Rm]; exact ⟨Nat.le_of_ble_eq_true rfl, Nat.le_of_ble_eq_true rfl⟩) M_Mo_thrown rfl k_1083 rfl (Nat.le_of_ble_eq_true rfl) hm d_La_law_550 ?_
      refine Can.mono K (fun _ h3 z => ?_)
      obtain ⟨r3, rfl, K⟩ := z
      show Wg X (ce + 1) (sl + 6) h3 [(0, .ref 59), (1, .ref 14), (2, .ref 0), (3, .ref 58), (4, .int v4), (5, .int r1), (6, .int r2)] [.int r3] 553
      refine r_iload C 5 rfl d_La_law_553 ?_
      refine r_icmp_eq C 560 d_La_law_555 (by decide) ⟨fun c0 => ?_, fun c0 => ?_⟩
      · have K := K.1 c0
        refine r_iload C 5 rfl d_La_law_560 ?_
        refine r_if_ne C 577 d_La_law_562 (by decide) ⟨fun c0 => ?_, fun c0 => ?_⟩
        · have K := K.1 c0
          refine r_goto C 1206 d_La_law_577 (by decide) ?_
          exact Wg.drop (by simp) K
        · have K := K.2 c0
          refine r_aload_n C 3 rfl d_La_law_565 ?_
          refine r_iconst (v := 0) C (by decide) d_La_law_566 ?_
          obtain ⟨s0, K⟩ := K
          refine r_lald C rfl s0 d_La_law_567 ?_
          refine r_iload C 6 rfl d_La_law_568 ?_
          refine r_i2l C d_La_law_570 ?_
          refine r_lcmp C d_La_law_571 ?_
          refine r_if_eq C 577 d_La_law_572 (by decide) ⟨fun c0 => ?_, fun c0 => ?_⟩
          · have K := K.1 c0
            refine r_goto C 1206 d_La_law_577 (by decide) ?_
            exact Wg.drop (by simp) K
          · have K := K.2 c0
            exact K.elim
      · have K := K.2 c0
        exact K.elim
    · have K := K.2 c0
      refine r_iconst (v := 1) C (by decide) d_La_law_533 ?_
      refine r_goto C 538 d_La_law_534 (by decide) ?_
      refine r_aload_n C 0 rfl d_La_law_538 ?_
      refine r_iload C 4 rfl d_La_law_539 ?_
      refine r_iconst (v := 3) C (by decide) d_La_law_541 ?_
      refine r_iadd C d_La_law_542 ?_
      obtain ⟨s0, K⟩ := K
      refine r_sld C S s0 d_La_law_543 ?_
      refine r_callVL (As := [.int (sx (v4 + 1).toNatClampNeg), .int 1, .int (sx (v4 + 3).toNatClampNeg)]) (st := []) (lvc := 1) (mcc := 0) (msc := 0) C (by rw [Rm]; exact ⟨Nat.le_of_ble_eq_true rfl, Nat.le_of_ble_eq_true rfl⟩) M_Mo_change rfl k_1191 rfl (Nat.le_of_ble_eq_true rfl) hm d_La_law_544 ?_
      refine Can.mono K (fun _ h4 z => ?_)
      obtain ⟨r4, rfl, K⟩ := z
      show Wg X (ce + 1) (sl + 6) h4 [(0, .ref 59), (1, .ref 14), (2, .ref 0), (3, .ref 58), (4, .int v4), (5, .int r1)] [.int r4] 547
      refine r_istore (ls2 := [(0, .ref 59), (1, .ref 14), (2, .ref 0), (3, .ref 58), (4, .int v4), (5, .int r1), (6, .int r4)]) C (by decide) rfl d_La_law_547 ?_
      refine r_aload_n C 2 rfl d_La_law_549 ?_
      refine r_callVL (As := []) (st := []) (lvc := 0) (mcc := 0) (msc := 0) C (by rw [Rm]; exact ⟨Nat.le_of_ble_eq_true rfl, Nat.le_of_ble_eq_true rfl⟩) M_Mo_thrown rfl k_1083 rfl (Nat.le_of_ble_eq_true rfl) hm d_La_law_550 ?_
      refine Can.mono K (fun _ h5 z => ?_)
      obtain ⟨r5, rfl, K⟩ := z
      show Wg X (ce + 1) (sl + 6) h5 [(0, .ref 59), (1, .ref 14), (2, .ref 0), (3, .ref 58), (4, .int v4), (5, .int r1), (6, .int r4)] [.int r5] 553
      refine r_iload C 5 rfl d_La_law_553 ?_
      refine r_icmp_eq C 560 d_La_law_555 (by decide) ⟨fun c0 => ?_, fun c0 => ?_⟩
      · have K := K.1 c0
        refine r_iload C 5 rfl d_La_law_560 ?_
        refine r_if_ne C 577 d_La_law_562 (by decide) ⟨fun c0 => ?_, fun c0 => ?_⟩
        · have K := K.1 c0
          refine r_goto C 1206 d_La_law_577 (by decide) ?_
          exact Wg.drop (by simp) K
        · have K := K.2 c0
          refine r_aload_n C 3 rfl d_La_law_565 ?_
          refine r_iconst (v := 0) C (by decide) d_La_law_566 ?_
          obtain ⟨s0, K⟩ := K
          refine r_lald C rfl s0 d_La_law_567 ?_
          refine r_iload C 6 rfl d_La_law_568 ?_
          refine r_i2l C d_La_law_570 ?_
          refine r_lcmp C d_La_law_571 ?_
          refine r_if_eq C 577 d_La_law_572 (by decide) ⟨fun c0 => ?_, fun c0 => ?_⟩
          · have K := K.1 c0
            refine r_goto C 1206 d_La_law_577 (by decide) ?_
            exact Wg.drop (by simp) K
          · have K := K.2 c0
            exact K.elim
      · have K := K.2 c0
        exact K.elim
  · have K := K.2 c0
    refine r_iconst (v := 1) C (by decide) d_La_law_500 ?_
    refine r_goto C 505 d_La_law_501 (by decide) ?_
    refine r_aload_n C 0 rfl d_La_law_505 ?_
    refine r_iload C 4 rfl d_La_law_506 ?_
    refine r_iconst (v := 3) C (by decide) d_La_law_508 ?_
    refine r_iadd C d_La_law_509 ?_
    obtain ⟨s0, K⟩ := K
    refine r_sld C S s0 d_La_law_510 ?_
    refine r_aload_n C 3 rfl d_La_law_511 ?_
    refine r_callSH (lv := 0) (mc := 0) (ms := 0) (As := [.ref 14, .int (sx (v4 + 1).toNatClampNeg), .int 1, .int (sx (v4 + 3).toNatClampNeg), .ref 58]) (st := []) (lvc := 12) (mcc := 1) (msc := 6) C N (by rw [Rm]; exact ⟨Nat.le_of_ble_eq_true rfl, Nat.le_of_ble_eq_true rfl⟩) M_La_change rfl k_470 (Nat.le_of_ble_eq_true rfl) hm d_La_law_512 ?_
    refine CanH.mono K (fun _ h6 z => ?_)
    obtain ⟨r6, rfl, K⟩ := z
    show Wg X (ce + 1) (sl + 6) h6 [(0, .ref 59), (1, .ref 14), (2, .ref 0), (3, .ref 58), (4, .int v4)] [.int r6] 515
    refine r_istore (ls2 := [(0, .ref 59), (1, .ref 14), (2, .ref 0), (3, .ref 58), (4, .int v4), (5, .int r6)]) C (by decide) rfl d_La_law_515 ?_
    refine r_aload_n C 2 rfl d_La_law_517 ?_
    refine r_aload_n C 0 rfl d_La_law_518 ?_
    refine r_iload C 4 rfl d_La_law_519 ?_
    refine r_iconst (v := 1) C (by decide) d_La_law_521 ?_
    refine r_iadd C d_La_law_522 ?_
    obtain ⟨s0, K⟩ := K
    refine r_sld C S s0 d_La_law_523 ?_
    refine r_aload_n C 0 rfl d_La_law_524 ?_
    refine r_iload C 4 rfl d_La_law_525 ?_
    refine r_iconst (v := 2) C (by decide) d_La_law_527 ?_
    refine r_iadd C d_La_law_528 ?_
    obtain ⟨s0, K⟩ := K
    refine r_sld C S s0 d_La_law_529 ?_
    refine r_if_eq C 537 d_La_law_530 (by decide) ⟨fun c0 => ?_, fun c0 => ?_⟩
    · have K := K.1 c0
      refine r_iconst (v := 0) C (by decide) d_La_law_537 ?_
      refine r_aload_n C 0 rfl d_La_law_538 ?_
      refine r_iload C 4 rfl d_La_law_539 ?_
      refine r_iconst (v := 3) C (by decide) d_La_law_541 ?_
      refine r_iadd C d_La_law_542 ?_
      obtain ⟨s0, K⟩ := K
      refine r_sld C S s0 d_La_law_543 ?_
      refine r_callVL (As := [.int (sx (v4 + 1).toNatClampNeg), .int 0, .int (sx (v4 + 3).toNatClampNeg)]) (st := []) (lvc := 1) (mcc := 0) (msc := 0) C (by rw [Rm]; exact ⟨Nat.le_of_ble_eq_true rfl, Nat.le_of_ble_eq_true rfl⟩) M_Mo_change rfl k_1191 rfl (Nat.le_of_ble_eq_true rfl) hm d_La_law_544 ?_
      refine Can.mono K (fun _ h7 z => ?_)
      obtain ⟨r7, rfl, K⟩ := z
      show Wg X (ce + 1) (sl + 6) h7 [(0, .ref 59), (1, .ref 14), (2, .ref 0), (3, .ref 58), (4, .int v4), (5, .int r6)] [.int r7] 547
      refine r_istore (ls2 := [(0, .ref 59), (1, .ref 14), (2, .ref 0), (3, .ref 58), (4, .int v4), (5, .int r6), (6, .int r7)]) C (by decide) rfl d_La_law_547 ?_
      refine r_aload_n C 2 rfl d_La_law_549 ?_
      refine r_callVL (As := []) (st := []) (lvc := 0) (mcc := 0) (msc := 0) C (by rw [Rm]; exact ⟨Nat.le_of_ble_eq_true rfl, Nat.le_of_ble_eq_true rfl⟩) M_Mo_thrown rfl k_1083 rfl (Nat.le_of_ble_eq_true rfl) hm d_La_law_550 ?_
      refine Can.mono K (fun _ h8 z => ?_)
      obtain ⟨r8, rfl, K⟩ := z
      show Wg X (ce + 1) (sl + 6) h8 [(0, .ref 59), (1, .ref 14), (2, .ref 0), (3, .ref 58), (4, .int v4), (5, .int r6), (6, .int r7)] [.int r8] 553
      refine r_iload C 5 rfl d_La_law_553 ?_
      refine r_icmp_eq C 560 d_La_law_555 (by decide) ⟨fun c0 => ?_, fun c0 => ?_⟩
      · have K := K.1 c0
        refine r_iload C 5 rfl d_La_law_560 ?_
        refine r_if_ne C 577 d_La_law_562 (by decide) ⟨fun c0 => ?_, fun c0 => ?_⟩
        · have K := K.1 c0
          refine r_goto C 1206 d_La_law_577 (by decide) ?_
          exact Wg.drop (by simp) K
        · have K := K.2 c0
          refine r_aload_n C 3 rfl d_La_law_565 ?_
          refine r_iconst (v := 0) C (by decide) d_La_law_566 ?_
          obtain ⟨s0, K⟩ := K
          refine r_lald C rfl s0 d_La_law_567 ?_
          refine r_iload C 6 rfl d_La_law_568 ?_
          refine r_i2l C d_La_law_570 ?_
          refine r_lcmp C d_La_law_571 ?_
          refine r_if_eq C 577 d_La_law_572 (by decide) ⟨fun c0 => ?_, fun c0 => ?_⟩
          · have K := K.1 c0
            refine r_goto C 1206 d_La_law_577 (by decide) ?_
            exact Wg.drop (by simp) K
          · have K := K.2 c0
            exact K.elim
      · have K := K.2 c0
        exact K.elim
    · have K := K.2 c0
      refine r_iconst (v := 1) C (by decide) d_La_law_533 ?_
      refine r_goto C 538 d_La_law_534 (by decide) ?_
      refine r_aload_n C 0 rfl d_La_law_538 ?_
      refine r_iload C 4 rfl d_La_law_539 ?_
      refine r_iconst (v := 3) C (by decide) d_La_law_541 ?_
      refine r_iadd C d_La_law_542 ?_
      obtain ⟨s0, K⟩ := K
      refine r_sld C S s0 d_La_law_543 ?_
      refine r_callVL (As := [.int (sx (v4 + 1).toNatClampNeg), .int 1, .int (sx (v4 + 3).toNatClampNeg)]) (st := []) (lvc := 1) (mcc := 0) (msc := 0) C (by rw [Rm]; exact ⟨Nat.le_of_ble_eq_true rfl, Nat.le_of_ble_eq_true rfl⟩) M_Mo_change rfl k_1191 rfl (Nat.le_of_ble_eq_true rfl) hm d_La_law_544 ?_
      refine Can.mono K (fun _ h9 z => ?_)
      obtain ⟨r9, rfl, K⟩ := z
      show Wg X (ce + 1) (sl + 6) h9 [(0, .ref 59), (1, .ref 14), (2, .ref 0), (3, .ref 58), (4, .int v4), (5, .int r6)] [.int r9] 547
      refine r_istore (ls2 := [(0, .ref 59), (1, .ref 14), (2, .ref 0), (3, .ref 58), (4, .int v4), (5, .int r6), (6, .int r9)]) C (by decide) rfl d_La_law_547 ?_
      refine r_aload_n C 2 rfl d_La_law_549 ?_
      refine r_callVL (As := []) (st := []) (lvc := 0) (mcc := 0) (msc := 0) C (by rw [Rm]; exact ⟨Nat.le_of_ble_eq_true rfl, Nat.le_of_ble_eq_true rfl⟩) M_Mo_thrown rfl k_1083 rfl (Nat.le_of_ble_eq_true rfl) hm d_La_law_550 ?_
      refine Can.mono K (fun _ h10 z => ?_)
      obtain ⟨r10, rfl, K⟩ := z
      show Wg X (ce + 1) (sl + 6) h10 [(0, .ref 59), (1, .ref 14), (2, .ref 0), (3, .ref 58), (4, .int v4), (5, .int r6), (6, .int r9)] [.int r10] 553
      refine r_iload C 5 rfl d_La_law_553 ?_
      refine r_icmp_eq C 560 d_La_law_555 (by decide) ⟨fun c0 => ?_, fun c0 => ?_⟩
      · have K := K.1 c0
        refine r_iload C 5 rfl d_La_law_560 ?_
        refine r_if_ne C 577 d_La_law_562 (by decide) ⟨fun c0 => ?_, fun c0 => ?_⟩
        · have K := K.1 c0
          refine r_goto C 1206 d_La_law_577 (by decide) ?_
          exact Wg.drop (by simp) K
        · have K := K.2 c0
          refine r_aload_n C 3 rfl d_La_law_565 ?_
          refine r_iconst (v := 0) C (by decide) d_La_law_566 ?_
          obtain ⟨s0, K⟩ := K
          refine r_lald C rfl s0 d_La_law_567 ?_
          refine r_iload C 6 rfl d_La_law_568 ?_
          refine r_i2l C d_La_law_570 ?_
          refine r_lcmp C d_La_law_571 ?_
          refine r_if_eq C 577 d_La_law_572 (by decide) ⟨fun c0 => ?_, fun c0 => ?_⟩
          · have K := K.1 c0
            refine r_goto C 1206 d_La_law_577 (by decide) ?_
            exact Wg.drop (by simp) K
          · have K := K.2 c0
            exact K.elim
      · have K := K.2 c0
        exact K.elim
set_option maxHeartbeats 4000000 in
set_option maxRecDepth 100000 in
theorem w_6 {X : CX} {h : HP} {v4 : Int32} {L : Nat} {sx : Nat → Int32} {ce sl : Nat} (C : Cok X code 7 R_Lw ret) (N : NW (xs X)) (Rm : xR X = room_1) (S : SC X L sx) (hm : ce + 1 ≤ (xR X).cells ∧ sl + 6 ≤ (xR X).slots)
    (K : vp_in (v4 + 1) L ∧ (vp_in (v4 + 2) L ∧ (vp_in (v4 + 3) L ∧ (vp_in (v4 + 4) L ∧ (H_La_work [.ref 14, .int (sx (v4 + 1).toNatClampNeg), .int (sx (v4 + 2).toNatClampNeg), .int (sx (v4 + 3).toNatClampNeg), .int (sx (v4 + 4).toNatClampNeg), .ref 58] h (fun r1 h1 => vp_in (v4 + 1) L ∧ (vp_in (v4 + 2) L ∧ (vp_in (v4 + 3) L ∧ (vp_in (v4 + 4) L ∧ (K_Mo_work [.ref 0, .int (sx (v4 + 1).toNatClampNeg), .int (sx (v4 + 2).toNatClampNeg), .int (sx (v4 + 3).toNatClampNeg), .int (sx (v4 + 4).toNatClampNeg)] h1 (fun r2 h2 => K_Mo_thrown [.ref 0] h2 (fun r3 h3 => (r3 = r1 → (¬ r1 = 0 → Wg X (ce + 1) (sl + 6) h3 [(0, .ref 59), (1, .ref 14), (2, .ref 0), (3, .ref 58), (4, .int v4)] [] 1206) ∧ (r1 = 0 → vp_in 0 1 ∧ (((lg_cmp (Int32.toInt64 (h3 58 (0 : Int32).toNatClampNeg)) (Int32.toInt64 r2)) = 0 → Wg X (ce + 1) (sl + 6) h3 [(0, .ref 59), (1, .ref 14), (2, .ref 0), (3, .ref 58), (4, .int v4)] [] 1206) ∧ (¬ (lg_cmp (Int32.toInt64 (h3 58 (0 : Int32).toNatClampNeg)) (Int32.toInt64 r2)) = 0 → False)))) ∧ (¬ r3 = r1 → False))))))))))))) :
    Wg X ce sl h [(0, .ref 59), (1, .ref 14), (2, .ref 0), (3, .ref 58), (4, .int v4)] [] 580 := by
  refine r_aload_n C 1 rfl d_La_law_580 ?_
  refine r_aload_n C 0 rfl d_La_law_581 ?_
  refine r_iload C 4 rfl d_La_law_582 ?_
  refine r_iconst (v := 1) C (by decide) d_La_law_584 ?_
  refine r_iadd C d_La_law_585 ?_
  obtain ⟨s0, K⟩ := K
  refine r_sld C S s0 d_La_law_586 ?_
  refine r_aload_n C 0 rfl d_La_law_587 ?_
  refine r_iload C 4 rfl d_La_law_588 ?_
  refine r_iconst (v := 2) C (by decide) d_La_law_590 ?_
  refine r_iadd C d_La_law_591 ?_
  obtain ⟨s0, K⟩ := K
  refine r_sld C S s0 d_La_law_592 ?_
  refine r_aload_n C 0 rfl d_La_law_593 ?_
  refine r_iload C 4 rfl d_La_law_594 ?_
  refine r_iconst (v := 3) C (by decide) d_La_law_596 ?_
  refine r_iadd C d_La_law_597 ?_
  obtain ⟨s0, K⟩ := K
  refine r_sld C S s0 d_La_law_598 ?_
  refine r_aload_n C 0 rfl d_La_law_599 ?_
  refine r_iload C 4 rfl d_La_law_600 ?_
  refine r_iconst (v := 4) C (by decide) d_La_law_602 ?_
  refine r_iadd C d_La_law_603 ?_
  obtain ⟨s0, K⟩ := K
  refine r_sld C S s0 d_La_law_604 ?_
  refine r_aload_n C 3 rfl d_La_law_605 ?_
  refine r_callSH (lv := 0) (mc := 0) (ms := 0) (As := [.ref 14, .int (sx (v4 + 1).toNatClampNeg), .int (sx (v4 + 2).toNatClampNeg), .int (sx (v4 + 3).toNatClampNeg), .int (sx (v4 + 4).toNatClampNeg), .ref 58]) (st := []) (lvc := 14) (mcc := 1) (msc := 6) C N (by rw [Rm]; exact ⟨Nat.le_of_ble_eq_true rfl, Nat.le_of_ble_eq_true rfl⟩) M_La_work rfl k_477 (Nat.le_of_ble_eq_true rfl) hm d_La_law_606 ?_
  refine CanH.mono K (fun _ h1 z => ?_)
  obtain ⟨r1, rfl, K⟩ := z
  show Wg X (ce + 1) (sl + 6) h1 [(0, .ref 59), (1, .ref 14), (2, .ref 0), (3, .ref 58), (4, .int v4)] [.int r1] 609
  refine r_istore (ls2 := [(0, .ref 59), (1, .ref 14), (2, .ref 0), (3, .ref 58), (4, .int v4), (5, .int r1)]) C (by decide) rfl d_La_law_609 ?_
  refine r_aload_n C 2 rfl d_La_law_611 ?_
  refine r_aload_n C 0 rfl d_La_law_612 ?_
  refine r_iload C 4 rfl d_La_law_613 ?_
  refine r_iconst (v := 1) C (by decide) d_La_law_615 ?_
  refine r_iadd C d_La_law_616 ?_
  obtain ⟨s0, K⟩ := K
  refine r_sld C S s0 d_La_law_617 ?_
  refine r_aload_n C 0 rfl d_La_law_618 ?_
  refine r_iload C 4 rfl d_La_law_619 ?_
  refine r_iconst (v := 2) C (by decide) d_La_law_621 ?_
  refine r_iadd C d_La_law_622 ?_
  obtain ⟨s0, K⟩ := K
  refine r_sld C S s0 d_La_law_623 ?_
  refine r_aload_n C 0 rfl d_La_law_624 ?_
  refine r_iload C 4 rfl d_La_law_625 ?_
  refine r_iconst (v := 3) C (by decide) d_La_law_627 ?_
  refine r_iadd C d_La_law_628 ?_
  obtain ⟨s0, K⟩ := K
  refine r_sld C S s0 d_La_law_629 ?_
  refine r_aload_n C 0 rfl d_La_law_630 ?_
  refine r_iload C 4 rfl d_La_law_631 ?_
  refine r_iconst (v := 4) C (by decide) d_La_law_633 ?_
  refine r_iadd C d_La_law_634 ?_
  obtain ⟨s0, K⟩ := K
  refine r_sld C S s0 d_La_law_635 ?_
  refine r_callVL (As := [.int (sx (v4 + 1).toNatClampNeg), .int (sx (v4 + 2).toNatClampNeg), .int (sx (v4 + 3).toNatClampNeg), .int (sx (v4 + 4).toNatClampNeg)]) (st := []) (lvc := 6) (mcc := 0) (msc := 0) C (by rw [Rm]; exact ⟨Nat.le_of_ble_eq_true rfl, Nat.le_of_ble_eq_true rfl⟩) M_Mo_work rfl k_1195 rfl (Nat.le_of_ble_eq_true rfl) hm d_La_law_636 ?_
  refine Can.mono K (fun _ h2 z => ?_)
  obtain ⟨r2, rfl, K⟩ := z
  show Wg X (ce + 1) (sl + 6) h2 [(0, .ref 59), (1, .ref 14), (2, .ref 0), (3, .ref 58), (4, .int v4), (5, .int r1)] [.int r2] 639
  refine r_istore (ls2 := [(0, .ref 59), (1, .ref 14), (2, .ref 0), (3, .ref 58), (4, .int v4), (5, .int r1), (6, .int r2)]) C (by decide) rfl d_La_law_639 ?_
  refine r_aload_n C 2 rfl d_La_law_641 ?_
  refine r_callVL (As := []) (st := []) (lvc := 0) (mcc := 0) (msc := 0) C (by rw [Rm]; exact ⟨Nat.le_of_ble_eq_true rfl, Nat.le_of_ble_eq_true rfl⟩) M_Mo_thrown rfl k_1083 rfl (Nat.le_of_ble_eq_true rfl) hm d_La_law_642 ?_
  refine Can.mono K (fun _ h3 z => ?_)
  obtain ⟨r3, rfl, K⟩ := z
  show Wg X (ce + 1) (sl + 6) h3 [(0, .ref 59), (1, .ref 14), (2, .ref 0), (3, .ref 58), (4, .int v4), (5, .int r1), (6, .int r2)] [.int r3] 645
  refine r_iload C 5 rfl d_La_law_645 ?_
  refine r_icmp_eq C 652 d_La_law_647 (by decide) ⟨fun c0 => ?_, fun c0 => ?_⟩
  · have K := K.1 c0
    refine r_iload C 5 rfl d_La_law_652 ?_
    refine r_if_ne C 669 d_La_law_654 (by decide) ⟨fun c0 => ?_, fun c0 => ?_⟩
    · have K := K.1 c0
      refine r_goto C 1206 d_La_law_669 (by decide) ?_
      exact Wg.drop (by simp) K
    · have K := K.2 c0
      refine r_aload_n C 3 rfl d_La_law_657 ?_
      refine r_iconst (v := 0) C (by decide) d_La_law_658 ?_
      obtain ⟨s0, K⟩ := K
      refine r_lald C rfl s0 d_La_law_659 ?_
      refine r_iload C 6 rfl d_La_law_660 ?_
      refine r_i2l C d_La_law_662 ?_
      refine r_lcmp C d_La_law_663 ?_
      refine r_if_eq C 669 d_La_law_664 (by decide) ⟨fun c0 => ?_, fun c0 => ?_⟩
      · have K := K.1 c0
        refine r_goto C 1206 d_La_law_669 (by decide) ?_
        exact Wg.drop (by simp) K
      · have K := K.2 c0
        exact K.elim
  · have K := K.2 c0
    exact K.elim
set_option maxHeartbeats 4000000 in
set_option maxRecDepth 100000 in
theorem w_7 {X : CX} {h : HP} {v4 : Int32} {L : Nat} {sx : Nat → Int32} {ce sl : Nat} (C : Cok X code 7 R_Lw ret) (N : NW (xs X)) (Rm : xR X = room_1) (S : SC X L sx) (hm : ce + 1 ≤ (xR X).cells ∧ sl + 6 ≤ (xR X).slots)
    (K : vp_in (v4 + 1) L ∧ (vp_in (v4 + 2) L ∧ (H_La_compare [.ref 14, .int (sx (v4 + 1).toNatClampNeg), .int (sx (v4 + 2).toNatClampNeg), .ref 58] h (fun r1 h1 => vp_in (v4 + 1) L ∧ (vp_in (v4 + 2) L ∧ (K_Mo_compare [.ref 0, .int (sx (v4 + 1).toNatClampNeg), .int (sx (v4 + 2).toNatClampNeg)] h1 (fun r2 h2 => K_Mo_thrown [.ref 0] h2 (fun r3 h3 => (r3 = r1 → (¬ r1 = 0 → Wg X (ce + 1) (sl + 6) h3 [(0, .ref 59), (1, .ref 14), (2, .ref 0), (3, .ref 58), (4, .int v4)] [] 1206) ∧ (r1 = 0 → vp_in 0 1 ∧ (((lg_cmp (Int32.toInt64 (h3 58 (0 : Int32).toNatClampNeg)) (Int32.toInt64 r2)) = 0 → Wg X (ce + 1) (sl + 6) h3 [(0, .ref 59), (1, .ref 14), (2, .ref 0), (3, .ref 58), (4, .int v4)] [] 1206) ∧ (¬ (lg_cmp (Int32.toInt64 (h3 58 (0 : Int32).toNatClampNeg)) (Int32.toInt64 r2)) = 0 → False)))) ∧ (¬ r3 = r1 → False))))))))) :
    Wg X ce sl h [(0, .ref 59), (1, .ref 14), (2, .ref 0), (3, .ref 58), (4, .int v4)] [] 672 := by
  refine r_aload_n C 1 rfl d_La_law_672 ?_
  refine r_aload_n C 0 rfl d_La_law_673 ?_
  refine r_iload C 4 rfl d_La_law_674 ?_
  refine r_iconst (v := 1) C (by decide) d_La_law_676 ?_
  refine r_iadd C d_La_law_677 ?_
  obtain ⟨s0, K⟩ := K
  refine r_sld C S s0 d_La_law_678 ?_
  refine r_aload_n C 0 rfl d_La_law_679 ?_
  refine r_iload C 4 rfl d_La_law_680 ?_
  refine r_iconst (v := 2) C (by decide) d_La_law_682 ?_
  refine r_iadd C d_La_law_683 ?_
  obtain ⟨s0, K⟩ := K
  refine r_sld C S s0 d_La_law_684 ?_
  refine r_aload_n C 3 rfl d_La_law_685 ?_
  refine r_callSH (lv := 0) (mc := 0) (ms := 0) (As := [.ref 14, .int (sx (v4 + 1).toNatClampNeg), .int (sx (v4 + 2).toNatClampNeg), .ref 58]) (st := []) (lvc := 14) (mcc := 1) (msc := 6) C N (by rw [Rm]; exact ⟨Nat.le_of_ble_eq_true rfl, Nat.le_of_ble_eq_true rfl⟩) M_La_compare rfl k_868 (Nat.le_of_ble_eq_true rfl) hm d_La_law_686 ?_
  refine CanH.mono K (fun _ h1 z => ?_)
  obtain ⟨r1, rfl, K⟩ := z
  show Wg X (ce + 1) (sl + 6) h1 [(0, .ref 59), (1, .ref 14), (2, .ref 0), (3, .ref 58), (4, .int v4)] [.int r1] 689
  refine r_istore (ls2 := [(0, .ref 59), (1, .ref 14), (2, .ref 0), (3, .ref 58), (4, .int v4), (5, .int r1)]) C (by decide) rfl d_La_law_689 ?_
  refine r_aload_n C 2 rfl d_La_law_691 ?_
  refine r_aload_n C 0 rfl d_La_law_692 ?_
  refine r_iload C 4 rfl d_La_law_693 ?_
  refine r_iconst (v := 1) C (by decide) d_La_law_695 ?_
  refine r_iadd C d_La_law_696 ?_
  obtain ⟨s0, K⟩ := K
  refine r_sld C S s0 d_La_law_697 ?_
  refine r_aload_n C 0 rfl d_La_law_698 ?_
  refine r_iload C 4 rfl d_La_law_699 ?_
  refine r_iconst (v := 2) C (by decide) d_La_law_701 ?_
  refine r_iadd C d_La_law_702 ?_
  obtain ⟨s0, K⟩ := K
  refine r_sld C S s0 d_La_law_703 ?_
  refine r_callVL (As := [.int (sx (v4 + 1).toNatClampNeg), .int (sx (v4 + 2).toNatClampNeg)]) (st := []) (lvc := 4) (mcc := 0) (msc := 0) C (by rw [Rm]; exact ⟨Nat.le_of_ble_eq_true rfl, Nat.le_of_ble_eq_true rfl⟩) M_Mo_compare rfl k_1259 rfl (Nat.le_of_ble_eq_true rfl) hm d_La_law_704 ?_
  refine Can.mono K (fun _ h2 z => ?_)
  obtain ⟨r2, rfl, K⟩ := z
  show Wg X (ce + 1) (sl + 6) h2 [(0, .ref 59), (1, .ref 14), (2, .ref 0), (3, .ref 58), (4, .int v4), (5, .int r1)] [.int r2] 707
  refine r_istore (ls2 := [(0, .ref 59), (1, .ref 14), (2, .ref 0), (3, .ref 58), (4, .int v4), (5, .int r1), (6, .int r2)]) C (by decide) rfl d_La_law_707 ?_
  refine r_aload_n C 2 rfl d_La_law_709 ?_
  refine r_callVL (As := []) (st := []) (lvc := 0) (mcc := 0) (msc := 0) C (by rw [Rm]; exact ⟨Nat.le_of_ble_eq_true rfl, Nat.le_of_ble_eq_true rfl⟩) M_Mo_thrown rfl k_1083 rfl (Nat.le_of_ble_eq_true rfl) hm d_La_law_710 ?_
  refine Can.mono K (fun _ h3 z => ?_)
  obtain ⟨r3, rfl, K⟩ := z
  show Wg X (ce + 1) (sl + 6) h3 [(0, .ref 59), (1, .ref 14), (2, .ref 0), (3, .ref 58), (4, .int v4), (5, .int r1), (6, .int r2)] [.int r3] 713
  refine r_iload C 5 rfl d_La_law_713 ?_
  refine r_icmp_eq C 720 d_La_law_715 (by decide) ⟨fun c0 => ?_, fun c0 => ?_⟩
  · have K := K.1 c0
    refine r_iload C 5 rfl d_La_law_720 ?_
    refine r_if_ne C 737 d_La_law_722 (by decide) ⟨fun c0 => ?_, fun c0 => ?_⟩
    · have K := K.1 c0
      refine r_goto C 1206 d_La_law_737 (by decide) ?_
      exact Wg.drop (by simp) K
    · have K := K.2 c0
      refine r_aload_n C 3 rfl d_La_law_725 ?_
      refine r_iconst (v := 0) C (by decide) d_La_law_726 ?_
      obtain ⟨s0, K⟩ := K
      refine r_lald C rfl s0 d_La_law_727 ?_
      refine r_iload C 6 rfl d_La_law_728 ?_
      refine r_i2l C d_La_law_730 ?_
      refine r_lcmp C d_La_law_731 ?_
      refine r_if_eq C 737 d_La_law_732 (by decide) ⟨fun c0 => ?_, fun c0 => ?_⟩
      · have K := K.1 c0
        refine r_goto C 1206 d_La_law_737 (by decide) ?_
        exact Wg.drop (by simp) K
      · have K := K.2 c0
        exact K.elim
  · have K := K.2 c0
    exact K.elim
set_option maxHeartbeats 4000000 in
set_option maxRecDepth 100000 in
theorem w_8 {X : CX} {h : HP} {v4 : Int32} {L : Nat} {sx : Nat → Int32} {ce sl : Nat} (C : Cok X code 7 R_Lw ret) (N : NW (xs X)) (Rm : xR X = room_1) (S : SC X L sx) (hm : ce + 1 ≤ (xR X).cells ∧ sl + 6 ≤ (xR X).slots)
    (K : vp_in (v4 + 1) L ∧ (vp_in (v4 + 2) L ∧ (H_La_same [.ref 14, .int (sx (v4 + 1).toNatClampNeg), .int (sx (v4 + 2).toNatClampNeg), .ref 58] h (fun r1 h1 => vp_in (v4 + 1) L ∧ (vp_in (v4 + 2) L ∧ (K_Mo_same [.ref 0, .int (sx (v4 + 1).toNatClampNeg), .int (sx (v4 + 2).toNatClampNeg)] h1 (fun r2 h2 => K_Mo_thrown [.ref 0] h2 (fun r3 h3 => (r3 = r1 → (¬ r1 = 0 → Wg X (ce + 1) (sl + 6) h3 [(0, .ref 59), (1, .ref 14), (2, .ref 0), (3, .ref 58), (4, .int v4)] [] 1206) ∧ (r1 = 0 → vp_in 0 1 ∧ ((r2 = 0 → ((lg_cmp (Int32.toInt64 (h3 58 (0 : Int32).toNatClampNeg)) (Int32.toInt64 0)) = 0 → Wg X (ce + 1) (sl + 6) h3 [(0, .ref 59), (1, .ref 14), (2, .ref 0), (3, .ref 58), (4, .int v4)] [] 1206) ∧ (¬ (lg_cmp (Int32.toInt64 (h3 58 (0 : Int32).toNatClampNeg)) (Int32.toInt64 0)) = 0 → False)) ∧ (¬ r2 = 0 → ((lg_cmp (Int32.toInt64 (h3 58 (0 : Int32).toNatClampNeg)) (Int32.toInt64 1)) = 0 → Wg X (ce + 1) (sl + 6) h3 [(0, .ref 59), (1, .ref 14), (2, .ref 0), (3, .ref 58), (4, .int v4)] [] 1206) ∧ (¬ (lg_cmp (Int32.toInt64 (h3 58 (0 : Int32).toNatClampNeg)) (Int32.toInt64 1)) = 0 → False))))) ∧ (¬ r3 = r1 → False))))))))) :
    Wg X ce sl h [(0, .ref 59), (1, .ref 14), (2, .ref 0), (3, .ref 58), (4, .int v4)] [] 740 := by
  refine r_aload_n C 1 rfl d_La_law_740 ?_
  refine r_aload_n C 0 rfl d_La_law_741 ?_
  refine r_iload C 4 rfl d_La_law_742 ?_
  refine r_iconst (v := 1) C (by decide) d_La_law_744 ?_
  refine r_iadd C d_La_law_745 ?_
  obtain ⟨s0, K⟩ := K
  refine r_sld C S s0 d_La_law_746 ?_
  refine r_aload_n C 0 rfl d_La_law_747 ?_
  refine r_iload C 4 rfl d_La_law_748 ?_
  refine r_iconst (v := 2) C (by decide) d_La_law_750 ?_
  refine r_iadd C d_La_law_751 ?_
  obtain ⟨s0, K⟩ := K
  refine r_sld C S s0 d_La_law_752 ?_
  refine r_aload_n C 3 rfl d_La_law_753 ?_
  refine r_callSH (lv := 0) (mc := 0) (ms := 0) (As := [.ref 14, .int (sx (v4 + 1).toNatClampNeg), .int (sx (v4 + 2).toNatClampNeg), .ref 58]) (st := []) (lvc := 12) (mcc := 1) (msc := 6) C N (by rw [Rm]; exact ⟨Nat.le_of_ble_eq_true rfl, Nat.le_of_ble_eq_true rfl⟩) M_La_same rfl k_883 (Nat.le_of_ble_eq_true rfl) hm d_La_law_754 ?_
  refine CanH.mono K (fun _ h1 z => ?_)
  obtain ⟨r1, rfl, K⟩ := z
  show Wg X (ce + 1) (sl + 6) h1 [(0, .ref 59), (1, .ref 14), (2, .ref 0), (3, .ref 58), (4, .int v4)] [.int r1] 757
  refine r_istore (ls2 := [(0, .ref 59), (1, .ref 14), (2, .ref 0), (3, .ref 58), (4, .int v4), (5, .int r1)]) C (by decide) rfl d_La_law_757 ?_
  refine r_aload_n C 2 rfl d_La_law_759 ?_
  refine r_aload_n C 0 rfl d_La_law_760 ?_
  refine r_iload C 4 rfl d_La_law_761 ?_
  refine r_iconst (v := 1) C (by decide) d_La_law_763 ?_
  refine r_iadd C d_La_law_764 ?_
  obtain ⟨s0, K⟩ := K
  refine r_sld C S s0 d_La_law_765 ?_
  refine r_aload_n C 0 rfl d_La_law_766 ?_
  refine r_iload C 4 rfl d_La_law_767 ?_
  refine r_iconst (v := 2) C (by decide) d_La_law_769 ?_
  refine r_iadd C d_La_law_770 ?_
  obtain ⟨s0, K⟩ := K
  refine r_sld C S s0 d_La_law_771 ?_
  refine r_callVL (As := [.int (sx (v4 + 1).toNatClampNeg), .int (sx (v4 + 2).toNatClampNeg)]) (st := []) (lvc := 1) (mcc := 0) (msc := 0) C (by rw [Rm]; exact ⟨Nat.le_of_ble_eq_true rfl, Nat.le_of_ble_eq_true rfl⟩) M_Mo_same rfl k_1263 rfl (Nat.le_of_ble_eq_true rfl) hm d_La_law_772 ?_
  refine Can.mono K (fun _ h2 z => ?_)
  obtain ⟨r2, rfl, K⟩ := z
  show Wg X (ce + 1) (sl + 6) h2 [(0, .ref 59), (1, .ref 14), (2, .ref 0), (3, .ref 58), (4, .int v4), (5, .int r1)] [.int r2] 775
  refine r_istore (ls2 := [(0, .ref 59), (1, .ref 14), (2, .ref 0), (3, .ref 58), (4, .int v4), (5, .int r1), (6, .int r2)]) C (by decide) rfl d_La_law_775 ?_
  refine r_aload_n C 2 rfl d_La_law_777 ?_
  refine r_callVL (As := []) (st := []) (lvc := 0) (mcc := 0) (msc := 0) C (by rw [Rm]; exact ⟨Nat.le_of_ble_eq_true rfl, Nat.le_of_ble_eq_true rfl⟩) M_Mo_thrown rfl k_1083 rfl (Nat.le_of_ble_eq_true rfl) hm d_La_law_778 ?_
  refine Can.mono K (fun _ h3 z => ?_)
  obtain ⟨r3, rfl, K⟩ := z
  show Wg X (ce + 1) (sl + 6) h3 [(0, .ref 59), (1, .ref 14), (2, .ref 0), (3, .ref 58), (4, .int v4), (5, .int r1), (6, .int r2)] [.int r3] 781
  refine r_iload C 5 rfl d_La_law_781 ?_
  refine r_icmp_eq C 788 d_La_law_783 (by decide) ⟨fun c0 => ?_, fun c0 => ?_⟩
  · have K := K.1 c0
    refine r_iload C 5 rfl d_La_law_788 ?_
    refine r_if_ne C 812 d_La_law_790 (by decide) ⟨fun c0 => ?_, fun c0 => ?_⟩
    · have K := K.1 c0
      refine r_goto C 1206 d_La_law_812 (by decide) ?_
      exact Wg.drop (by simp) K
    · have K := K.2 c0
      refine r_aload_n C 3 rfl d_La_law_793 ?_
      refine r_iconst (v := 0) C (by decide) d_La_law_794 ?_
      obtain ⟨s0, K⟩ := K
      refine r_lald C rfl s0 d_La_law_795 ?_
      refine r_iload C 6 rfl d_La_law_796 ?_
      refine r_if_eq C 805 d_La_law_798 (by decide) ⟨fun c0 => ?_, fun c0 => ?_⟩
      · have K := K.1 c0
        refine r_lconst (v := Int32.toInt64 0) C (by decide) d_La_law_805 ?_
        refine r_lcmp C d_La_law_806 ?_
        refine r_if_eq C 812 d_La_law_807 (by decide) ⟨fun c0 => ?_, fun c0 => ?_⟩
        · have K := K.1 c0
          refine r_goto C 1206 d_La_law_812 (by decide) ?_
          exact Wg.drop (by simp) K
        · have K := K.2 c0
          exact K.elim
      · have K := K.2 c0
        refine r_lconst (v := Int32.toInt64 1) C (by decide) d_La_law_801 ?_
        refine r_goto C 806 d_La_law_802 (by decide) ?_
        refine r_lcmp C d_La_law_806 ?_
        refine r_if_eq C 812 d_La_law_807 (by decide) ⟨fun c0 => ?_, fun c0 => ?_⟩
        · have K := K.1 c0
          refine r_goto C 1206 d_La_law_812 (by decide) ?_
          exact Wg.drop (by simp) K
        · have K := K.2 c0
          exact K.elim
  · have K := K.2 c0
    exact K.elim
set_option maxHeartbeats 4000000 in
set_option maxRecDepth 100000 in
theorem w_9 {X : CX} {h : HP} {v4 : Int32} {L : Nat} {sx : Nat → Int32} {ce sl : Nat} (C : Cok X code 7 R_Lw ret) (N : NW (xs X)) (Rm : xR X = room_1) (S : SC X L sx) (hm : ce + 1 ≤ (xR X).cells ∧ sl + 6 ≤ (xR X).slots)
    (K : vp_in (v4 + 1) L ∧ (vp_in (v4 + 2) L ∧ (vp_in (v4 + 3) L ∧ (vp_in (v4 + 4) L ∧ (vp_in (v4 + 5) L ∧ (H_La_type [.ref 14, .int (sx (v4 + 1).toNatClampNeg), .int (sx (v4 + 2).toNatClampNeg), .int (sx (v4 + 3).toNatClampNeg), .int (sx (v4 + 4).toNatClampNeg), .int (sx (v4 + 5).toNatClampNeg), .ref 58] h (fun r1 h1 => vp_in (v4 + 1) L ∧ (vp_in (v4 + 2) L ∧ (vp_in (v4 + 3) L ∧ (vp_in (v4 + 4) L ∧ (vp_in (v4 + 5) L ∧ (K_Mo_type [.ref 0, .int (sx (v4 + 1).toNatClampNeg), .int (sx (v4 + 2).toNatClampNeg), .int (sx (v4 + 3).toNatClampNeg), .int (sx (v4 + 4).toNatClampNeg), .int (sx (v4 + 5).toNatClampNeg)] h1 (fun r2 h2 => K_Mo_thrown [.ref 0] h2 (fun r3 h3 => (r3 = r1 → (¬ r1 = 0 → Wg X (ce + 1) (sl + 6) h3 [(0, .ref 59), (1, .ref 14), (2, .ref 0), (3, .ref 58), (4, .int v4)] [] 1206) ∧ (r1 = 0 → vp_in 0 1 ∧ (((lg_cmp (Int32.toInt64 (h3 58 (0 : Int32).toNatClampNeg)) (Int32.toInt64 r2)) = 0 → Wg X (ce + 1) (sl + 6) h3 [(0, .ref 59), (1, .ref 14), (2, .ref 0), (3, .ref 58), (4, .int v4)] [] 1206) ∧ (¬ (lg_cmp (Int32.toInt64 (h3 58 (0 : Int32).toNatClampNeg)) (Int32.toInt64 r2)) = 0 → False)))) ∧ (¬ r3 = r1 → False))))))))))))))) :
    Wg X ce sl h [(0, .ref 59), (1, .ref 14), (2, .ref 0), (3, .ref 58), (4, .int v4)] [] 815 := by
  refine r_aload_n C 1 rfl d_La_law_815 ?_
  refine r_aload_n C 0 rfl d_La_law_816 ?_
  refine r_iload C 4 rfl d_La_law_817 ?_
  refine r_iconst (v := 1) C (by decide) d_La_law_819 ?_
  refine r_iadd C d_La_law_820 ?_
  obtain ⟨s0, K⟩ := K
  refine r_sld C S s0 d_La_law_821 ?_
  refine r_aload_n C 0 rfl d_La_law_822 ?_
  refine r_iload C 4 rfl d_La_law_823 ?_
  refine r_iconst (v := 2) C (by decide) d_La_law_825 ?_
  refine r_iadd C d_La_law_826 ?_
  obtain ⟨s0, K⟩ := K
  refine r_sld C S s0 d_La_law_827 ?_
  refine r_aload_n C 0 rfl d_La_law_828 ?_
  refine r_iload C 4 rfl d_La_law_829 ?_
  refine r_iconst (v := 3) C (by decide) d_La_law_831 ?_
  refine r_iadd C d_La_law_832 ?_
  obtain ⟨s0, K⟩ := K
  refine r_sld C S s0 d_La_law_833 ?_
  refine r_aload_n C 0 rfl d_La_law_834 ?_
  refine r_iload C 4 rfl d_La_law_835 ?_
  refine r_iconst (v := 4) C (by decide) d_La_law_837 ?_
  refine r_iadd C d_La_law_838 ?_
  obtain ⟨s0, K⟩ := K
  refine r_sld C S s0 d_La_law_839 ?_
  refine r_aload_n C 0 rfl d_La_law_840 ?_
  refine r_iload C 4 rfl d_La_law_841 ?_
  refine r_iconst (v := 5) C (by decide) d_La_law_843 ?_
  refine r_iadd C d_La_law_844 ?_
  obtain ⟨s0, K⟩ := K
  refine r_sld C S s0 d_La_law_845 ?_
  refine r_aload_n C 3 rfl d_La_law_846 ?_
  refine r_callSH (lv := 0) (mc := 0) (ms := 0) (As := [.ref 14, .int (sx (v4 + 1).toNatClampNeg), .int (sx (v4 + 2).toNatClampNeg), .int (sx (v4 + 3).toNatClampNeg), .int (sx (v4 + 4).toNatClampNeg), .int (sx (v4 + 5).toNatClampNeg), .ref 58]) (st := []) (lvc := 10) (mcc := 1) (msc := 6) C N (by rw [Rm]; exact ⟨Nat.le_of_ble_eq_true rfl, Nat.le_of_ble_eq_true rfl⟩) M_La_type rfl k_890 (Nat.le_of_ble_eq_true rfl) hm d_La_law_847 ?_
  refine CanH.mono K (fun _ h1 z => ?_)
  obtain ⟨r1, rfl, K⟩ := z
  show Wg X (ce + 1) (sl + 6) h1 [(0, .ref 59), (1, .ref 14), (2, .ref 0), (3, .ref 58), (4, .int v4)] [.int r1] 850
  refine r_istore (ls2 := [(0, .ref 59), (1, .ref 14), (2, .ref 0), (3, .ref 58), (4, .int v4), (5, .int r1)]) C (by decide) rfl d_La_law_850 ?_
  refine r_aload_n C 2 rfl d_La_law_852 ?_
  refine r_aload_n C 0 rfl d_La_law_853 ?_
  refine r_iload C 4 rfl d_La_law_854 ?_
  refine r_iconst (v := 1) C (by decide) d_La_law_856 ?_
  refine r_iadd C d_La_law_857 ?_
  obtain ⟨s0, K⟩ := K
  refine r_sld C S s0 d_La_law_858 ?_
  refine r_aload_n C 0 rfl d_La_law_859 ?_
  refine r_iload C 4 rfl d_La_law_860 ?_
  refine r_iconst (v := 2) C (by decide) d_La_law_862 ?_
  refine r_iadd C d_La_law_863 ?_
  obtain ⟨s0, K⟩ := K
  refine r_sld C S s0 d_La_law_864 ?_
  refine r_aload_n C 0 rfl d_La_law_865 ?_
  refine r_iload C 4 rfl d_La_law_866 ?_
  refine r_iconst (v := 3) C (by decide) d_La_law_868 ?_
  refine r_iadd C d_La_law_869 ?_
  obtain ⟨s0, K⟩ := K
  refine r_sld C S s0 d_La_law_870 ?_
  refine r_aload_n C 0 rfl d_La_law_871 ?_
  refine r_iload C 4 rfl d_La_law_872 ?_
  refine r_iconst (v := 4) C (by decide) d_La_law_874 ?_
  refine r_iadd C d_La_law_875 ?_
  obtain ⟨s0, K⟩ := K
  refine r_sld C S s0 d_La_law_876 ?_
  refine r_aload_n C 0 rfl d_La_law_877 ?_
  refine r_iload C 4 rfl d_La_law_878 ?_
  refine r_iconst (v := 5) C (by decide) d_La_law_880 ?_
  refine r_iadd C d_La_law_881 ?_
  obtain ⟨s0, K⟩ := K
  refine r_sld C S s0 d_La_law_882 ?_
  refine r_callVL (As := [.int (sx (v4 + 1).toNatClampNeg), .int (sx (v4 + 2).toNatClampNeg), .int (sx (v4 + 3).toNatClampNeg), .int (sx (v4 + 4).toNatClampNeg), .int (sx (v4 + 5).toNatClampNeg)]) (st := []) (lvc := 1) (mcc := 0) (msc := 0) C (by rw [Rm]; exact ⟨Nat.le_of_ble_eq_true rfl, Nat.le_of_ble_eq_true rfl⟩) M_Mo_type rfl k_1267 rfl (Nat.le_of_ble_eq_true rfl) hm d_La_law_883 ?_
  refine Can.mono K (fun _ h2 z => ?_)
  obtain ⟨r2, rfl, K⟩ := z
  show Wg X (ce + 1) (sl + 6) h2 [(0, .ref 59), (1, .ref 14), (2, .ref 0), (3, .ref 58), (4, .int v4), (5, .int r1)] [.int r2] 886
  refine r_istore (ls2 := [(0, .ref 59), (1, .ref 14), (2, .ref 0), (3, .ref 58), (4, .int v4), (5, .int r1), (6, .int r2)]) C (by decide) rfl d_La_law_886 ?_
  refine r_aload_n C 2 rfl d_La_law_888 ?_
  refine r_callVL (As := []) (st := []) (lvc := 0) (mcc := 0) (msc := 0) C (by rw [Rm]; exact ⟨Nat.le_of_ble_eq_true rfl, Nat.le_of_ble_eq_true rfl⟩) M_Mo_thrown rfl k_1083 rfl (Nat.le_of_ble_eq_true rfl) hm d_La_law_889 ?_
  refine Can.mono K (fun _ h3 z => ?_)
  obtain ⟨r3, rfl, K⟩ := z
  show Wg X (ce + 1) (sl + 6) h3 [(0, .ref 59), (1, .ref 14), (2, .ref 0), (3, .ref 58), (4, .int v4), (5, .int r1), (6, .int r2)] [.int r3] 892
  refine r_iload C 5 rfl d_La_law_892 ?_
  refine r_icmp_eq C 899 d_La_law_894 (by decide) ⟨fun c0 => ?_, fun c0 => ?_⟩
  · have K := K.1 c0
    refine r_iload C 5 rfl d_La_law_899 ?_
    refine r_if_ne C 916 d_La_law_901 (by decide) ⟨fun c0 => ?_, fun c0 => ?_⟩
    · have K := K.1 c0
      refine r_goto C 1206 d_La_law_916 (by decide) ?_
      exact Wg.drop (by simp) K
    · have K := K.2 c0
      refine r_aload_n C 3 rfl d_La_law_904 ?_
      refine r_iconst (v := 0) C (by decide) d_La_law_905 ?_
      obtain ⟨s0, K⟩ := K
      refine r_lald C rfl s0 d_La_law_906 ?_
      refine r_iload C 6 rfl d_La_law_907 ?_
      refine r_i2l C d_La_law_909 ?_
      refine r_lcmp C d_La_law_910 ?_
      refine r_if_eq C 916 d_La_law_911 (by decide) ⟨fun c0 => ?_, fun c0 => ?_⟩
      · have K := K.1 c0
        refine r_goto C 1206 d_La_law_916 (by decide) ?_
        exact Wg.drop (by simp) K
      · have K := K.2 c0
        exact K.elim
  · have K := K.2 c0
    exact K.elim
set_option maxHeartbeats 4000000 in
set_option maxRecDepth 100000 in
theorem w_10 {X : CX} {h : HP} {v4 : Int32} {L : Nat} {sx : Nat → Int32} {ce sl : Nat} (C : Cok X code 7 R_Lw ret) (N : NW (xs X)) (Rm : xR X = room_1) (S : SC X L sx) (hm : ce + 1 ≤ (xR X).cells ∧ sl + 6 ≤ (xR X).slots)
    (K : K_Ce_erase [.ref 14] h (fun r1 h1 => K_Mo_erase [.ref 0] h1 (fun r2 h2 => (r1 = r2 → Wg X ce sl h2 [(0, .ref 59), (1, .ref 14), (2, .ref 0), (3, .ref 58), (4, .int v4)] [] 1206) ∧ (¬ r1 = r2 → False)))) :
    Wg X ce sl h [(0, .ref 59), (1, .ref 14), (2, .ref 0), (3, .ref 58), (4, .int v4)] [] 919 := by
  refine r_aload_n C 1 rfl d_La_law_919 ?_
  refine r_callVL (As := []) (st := []) (lvc := 0) (mcc := 0) (msc := 0) C (by rw [Rm]; exact ⟨Nat.le_of_ble_eq_true rfl, Nat.le_of_ble_eq_true rfl⟩) M_Ce_erase rfl k_234 rfl (Nat.le_of_ble_eq_true rfl) ⟨by omega, by omega⟩ d_La_law_920 ?_
  refine Can.mono K (fun _ h1 z => ?_)
  obtain ⟨r1, rfl, K⟩ := z
  show Wg X ce sl h1 [(0, .ref 59), (1, .ref 14), (2, .ref 0), (3, .ref 58), (4, .int v4)] [.int r1] 923
  refine r_aload_n C 2 rfl d_La_law_923 ?_
  refine r_callVL (As := []) (st := [.int r1]) (lvc := 0) (mcc := 0) (msc := 0) C (by rw [Rm]; exact ⟨Nat.le_of_ble_eq_true rfl, Nat.le_of_ble_eq_true rfl⟩) M_Mo_erase rfl k_1275 rfl (Nat.le_of_ble_eq_true rfl) ⟨by omega, by omega⟩ d_La_law_924 ?_
  refine Can.mono K (fun _ h2 z => ?_)
  obtain ⟨r2, rfl, K⟩ := z
  show Wg X ce sl h2 [(0, .ref 59), (1, .ref 14), (2, .ref 0), (3, .ref 58), (4, .int v4)] [.int r2, .int r1] 927
  refine r_icmp_eq C 1206 d_La_law_927 (by decide) ⟨fun c0 => ?_, fun c0 => ?_⟩
  · have K := K.1 c0
    exact K
  · have K := K.2 c0
    exact K.elim
set_option maxHeartbeats 4000000 in
set_option maxRecDepth 100000 in
theorem w_11 {X : CX} {h : HP} {v4 : Int32} {L : Nat} {sx : Nat → Int32} {ce sl : Nat} (C : Cok X code 7 R_Lw ret) (N : NW (xs X)) (Rm : xR X = room_1) (S : SC X L sx) (hm : ce + 1 ≤ (xR X).cells ∧ sl + 6 ≤ (xR X).slots)
    (K : vp_in (v4 + 1) L ∧ (H_La_read [.ref 14, .int (sx (v4 + 1).toNatClampNeg), .ref 58] h (fun r1 h1 => vp_in (v4 + 1) L ∧ (K_Mo_read [.ref 0, .int (sx (v4 + 1).toNatClampNeg)] h1 (fun r2 h2 => K_Mo_thrown [.ref 0] h2 (fun r3 h3 => (r3 = r1 → (¬ r1 = 0 → Wg X (ce + 1) (sl + 6) h3 [(0, .ref 59), (1, .ref 14), (2, .ref 0), (3, .ref 58), (4, .int v4)] [] 1206) ∧ (r1 = 0 → vp_in 0 1 ∧ (((lg_cmp (Int32.toInt64 (h3 58 (0 : Int32).toNatClampNeg)) (Int32.toInt64 r2)) = 0 → Wg X (ce + 1) (sl + 6) h3 [(0, .ref 59), (1, .ref 14), (2, .ref 0), (3, .ref 58), (4, .int v4)] [] 1206) ∧ (¬ (lg_cmp (Int32.toInt64 (h3 58 (0 : Int32).toNatClampNeg)) (Int32.toInt64 r2)) = 0 → False)))) ∧ (¬ r3 = r1 → False))))))) :
    Wg X ce sl h [(0, .ref 59), (1, .ref 14), (2, .ref 0), (3, .ref 58), (4, .int v4)] [] 932 := by
  refine r_aload_n C 1 rfl d_La_law_932 ?_
  refine r_aload_n C 0 rfl d_La_law_933 ?_
  refine r_iload C 4 rfl d_La_law_934 ?_
  refine r_iconst (v := 1) C (by decide) d_La_law_936 ?_
  refine r_iadd C d_La_law_937 ?_
  obtain ⟨s0, K⟩ := K
  refine r_sld C S s0 d_La_law_938 ?_
  refine r_aload_n C 3 rfl d_La_law_939 ?_
  refine r_callSH (lv := 0) (mc := 0) (ms := 0) (As := [.ref 14, .int (sx (v4 + 1).toNatClampNeg), .ref 58]) (st := []) (lvc := 12) (mcc := 1) (msc := 6) C N (by rw [Rm]; exact ⟨Nat.le_of_ble_eq_true rfl, Nat.le_of_ble_eq_true rfl⟩) M_La_read rfl k_920 (Nat.le_of_ble_eq_true rfl) hm d_La_law_940 ?_
  refine CanH.mono K (fun _ h1 z => ?_)
  obtain ⟨r1, rfl, K⟩ := z
  show Wg X (ce + 1) (sl + 6) h1 [(0, .ref 59), (1, .ref 14), (2, .ref 0), (3, .ref 58), (4, .int v4)] [.int r1] 943
  refine r_istore (ls2 := [(0, .ref 59), (1, .ref 14), (2, .ref 0), (3, .ref 58), (4, .int v4), (5, .int r1)]) C (by decide) rfl d_La_law_943 ?_
  refine r_aload_n C 2 rfl d_La_law_945 ?_
  refine r_aload_n C 0 rfl d_La_law_946 ?_
  refine r_iload C 4 rfl d_La_law_947 ?_
  refine r_iconst (v := 1) C (by decide) d_La_law_949 ?_
  refine r_iadd C d_La_law_950 ?_
  obtain ⟨s0, K⟩ := K
  refine r_sld C S s0 d_La_law_951 ?_
  refine r_callVL (As := [.int (sx (v4 + 1).toNatClampNeg)]) (st := []) (lvc := 5) (mcc := 0) (msc := 0) C (by rw [Rm]; exact ⟨Nat.le_of_ble_eq_true rfl, Nat.le_of_ble_eq_true rfl⟩) M_Mo_read rfl k_1279 rfl (Nat.le_of_ble_eq_true rfl) hm d_La_law_952 ?_
  refine Can.mono K (fun _ h2 z => ?_)
  obtain ⟨r2, rfl, K⟩ := z
  show Wg X (ce + 1) (sl + 6) h2 [(0, .ref 59), (1, .ref 14), (2, .ref 0), (3, .ref 58), (4, .int v4), (5, .int r1)] [.int r2] 955
  refine r_istore (ls2 := [(0, .ref 59), (1, .ref 14), (2, .ref 0), (3, .ref 58), (4, .int v4), (5, .int r1), (6, .int r2)]) C (by decide) rfl d_La_law_955 ?_
  refine r_aload_n C 2 rfl d_La_law_957 ?_
  refine r_callVL (As := []) (st := []) (lvc := 0) (mcc := 0) (msc := 0) C (by rw [Rm]; exact ⟨Nat.le_of_ble_eq_true rfl, Nat.le_of_ble_eq_true rfl⟩) M_Mo_thrown rfl k_1083 rfl (Nat.le_of_ble_eq_true rfl) hm d_La_law_958 ?_
  refine Can.mono K (fun _ h3 z => ?_)
  obtain ⟨r3, rfl, K⟩ := z
  show Wg X (ce + 1) (sl + 6) h3 [(0, .ref 59), (1, .ref 14), (2, .ref 0), (3, .ref 58), (4, .int v4), (5, .int r1), (6, .int r2)] [.int r3] 961
  refine r_iload C 5 rfl d_La_law_961 ?_
  refine r_icmp_eq C 968 d_La_law_963 (by decide) ⟨fun c0 => ?_, fun c0 => ?_⟩
  · have K := K.1 c0
    refine r_iload C 5 rfl d_La_law_968 ?_
    refine r_if_ne C 985 d_La_law_970 (by decide) ⟨fun c0 => ?_, fun c0 => ?_⟩
    · have K := K.1 c0
      refine r_goto C 1206 d_La_law_985 (by decide) ?_
      exact Wg.drop (by simp) K
    · have K := K.2 c0
      refine r_aload_n C 3 rfl d_La_law_973 ?_
      refine r_iconst (v := 0) C (by decide) d_La_law_974 ?_
      obtain ⟨s0, K⟩ := K
      refine r_lald C rfl s0 d_La_law_975 ?_
      refine r_iload C 6 rfl d_La_law_976 ?_
      refine r_i2l C d_La_law_978 ?_
      refine r_lcmp C d_La_law_979 ?_
      refine r_if_eq C 985 d_La_law_980 (by decide) ⟨fun c0 => ?_, fun c0 => ?_⟩
      · have K := K.1 c0
        refine r_goto C 1206 d_La_law_985 (by decide) ?_
        exact Wg.drop (by simp) K
      · have K := K.2 c0
        exact K.elim
  · have K := K.2 c0
    exact K.elim
set_option maxHeartbeats 4000000 in
set_option maxRecDepth 100000 in
theorem w_12 {X : CX} {h : HP} {v4 : Int32} {L : Nat} {sx : Nat → Int32} {ce sl : Nat} (C : Cok X code 7 R_Lw ret) (N : NW (xs X)) (Rm : xR X = room_1) (S : SC X L sx) (hm : ce + 1 ≤ (xR X).cells ∧ sl + 6 ≤ (xR X).slots)
    (K : vp_in (v4 + 1) L ∧ (H_La_write [.ref 14, .int (sx (v4 + 1).toNatClampNeg), .ref 58] h (fun r1 h1 => vp_in (v4 + 1) L ∧ (K_Mo_write [.ref 0, .int (sx (v4 + 1).toNatClampNeg)] h1 (fun r2 h2 => K_Mo_thrown [.ref 0] h2 (fun r3 h3 => (r3 = r1 → (¬ r1 = 0 → Wg X (ce + 1) (sl + 6) h3 [(0, .ref 59), (1, .ref 14), (2, .ref 0), (3, .ref 58), (4, .int v4)] [] 1206) ∧ (r1 = 0 → vp_in 0 1 ∧ (((lg_cmp (Int32.toInt64 (h3 58 (0 : Int32).toNatClampNeg)) (Int32.toInt64 r2)) = 0 → Wg X (ce + 1) (sl + 6) h3 [(0, .ref 59), (1, .ref 14), (2, .ref 0), (3, .ref 58), (4, .int v4)] [] 1206) ∧ (¬ (lg_cmp (Int32.toInt64 (h3 58 (0 : Int32).toNatClampNeg)) (Int32.toInt64 r2)) = 0 → False)))) ∧ (¬ r3 = r1 → False))))))) :
    Wg X ce sl h [(0, .ref 59), (1, .ref 14), (2, .ref 0), (3, .ref 58), (4, .int v4)] [] 988 := by
  refine r_aload_n C 1 rfl d_La_law_988 ?_
  refine r_aload_n C 0 rfl d_La_law_989 ?_
  refine r_iload C 4 rfl d_La_law_990 ?_
  refine r_iconst (v := 1) C (by decide) d_La_law_992 ?_
  refine r_iadd C d_La_law_993 ?_
  obtain ⟨s0, K⟩ := K
  refine r_sld C S s0 d_La_law_994 ?_
  refine r_aload_n C 3 rfl d_La_law_995 ?_
  refine r_callSH (lv := 0) (mc := 0) (ms := 0) (As := [.ref 14, .int (sx (v4 + 1).toNatClampNeg), .ref 58]) (st := []) (lvc := 12) (mcc := 1) (msc := 6) C N (by rw [Rm]; exact ⟨Nat.le_of_ble_eq_true rfl, Nat.le_of_ble_eq_true rfl⟩) M_La_write rfl k_950 (Nat.le_of_ble_eq_true rfl) hm d_La_law_996 ?_
  refine CanH.mono K (fun _ h1 z => ?_)
  obtain ⟨r1, rfl, K⟩ := z
  show Wg X (ce + 1) (sl + 6) h1 [(0, .ref 59), (1, .ref 14), (2, .ref 0), (3, .ref 58), (4, .int v4)] [.int r1] 999
  refine r_istore (ls2 := [(0, .ref 59), (1, .ref 14), (2, .ref 0), (3, .ref 58), (4, .int v4), (5, .int r1)]) C (by decide) rfl d_La_law_999 ?_
  refine r_aload_n C 2 rfl d_La_law_1001 ?_
  refine r_aload_n C 0 rfl d_La_law_1002 ?_
  refine r_iload C 4 rfl d_La_law_1003 ?_
  refine r_iconst (v := 1) C (by decide) d_La_law_1005 ?_
  refine r_iadd C d_La_law_1006 ?_
  obtain ⟨s0, K⟩ := K
  refine r_sld C S s0 d_La_law_1007 ?_
  refine r_callVL (As := [.int (sx (v4 + 1).toNatClampNeg)]) (st := []) (lvc := 5) (mcc := 0) (msc := 0) C (by rw [Rm]; exact ⟨Nat.le_of_ble_eq_true rfl, Nat.le_of_ble_eq_true rfl⟩) M_Mo_write rfl k_1287 rfl (Nat.le_of_ble_eq_true rfl) hm d_La_law_1008 ?_
  refine Can.mono K (fun _ h2 z => ?_)
  obtain ⟨r2, rfl, K⟩ := z
  show Wg X (ce + 1) (sl + 6) h2 [(0, .ref 59), (1, .ref 14), (2, .ref 0), (3, .ref 58), (4, .int v4), (5, .int r1)] [.int r2] 1011
  refine r_istore (ls2 := [(0, .ref 59), (1, .ref 14), (2, .ref 0), (3, .ref 58), (4, .int v4), (5, .int r1), (6, .int r2)]) C (by decide) rfl d_La_law_1011 ?_
  refine r_aload_n C 2 rfl d_La_law_1013 ?_
  refine r_callVL (As := []) (st := []) (lvc := 0) (mcc := 0) (msc := 0) C (by rw [Rm]; exact ⟨Nat.le_of_ble_eq_true rfl, Nat.le_of_ble_eq_true rfl⟩) M_Mo_thrown rfl k_1083 rfl (Nat.le_of_ble_eq_true rfl) hm d_La_law_1014 ?_
  refine Can.mono K (fun _ h3 z => ?_)
  obtain ⟨r3, rfl, K⟩ := z
  show Wg X (ce + 1) (sl + 6) h3 [(0, .ref 59), (1, .ref 14), (2, .ref 0), (3, .ref 58), (4, .int v4), (5, .int r1), (6, .int r2)] [.int r3] 1017
  refine r_iload C 5 rfl d_La_law_1017 ?_
  refine r_icmp_eq C 1024 d_La_law_1019 (by decide) ⟨fun c0 => ?_, fun c0 => ?_⟩
  · have K := K.1 c0
    refine r_iload C 5 rfl d_La_law_1024 ?_
    refine r_if_ne C 1041 d_La_law_1026 (by decide) ⟨fun c0 => ?_, fun c0 => ?_⟩
    · have K := K.1 c0
      refine r_goto C 1206 d_La_law_1041 (by decide) ?_
      exact Wg.drop (by simp) K
    · have K := K.2 c0
      refine r_aload_n C 3 rfl d_La_law_1029 ?_
      refine r_iconst (v := 0) C (by decide) d_La_law_1030 ?_
      obtain ⟨s0, K⟩ := K
      refine r_lald C rfl s0 d_La_law_1031 ?_
      refine r_iload C 6 rfl d_La_law_1032 ?_
      refine r_i2l C d_La_law_1034 ?_
      refine r_lcmp C d_La_law_1035 ?_
      refine r_if_eq C 1041 d_La_law_1036 (by decide) ⟨fun c0 => ?_, fun c0 => ?_⟩
      · have K := K.1 c0
        refine r_goto C 1206 d_La_law_1041 (by decide) ?_
        exact Wg.drop (by simp) K
      · have K := K.2 c0
        exact K.elim
  · have K := K.2 c0
    exact K.elim
set_option maxHeartbeats 4000000 in
set_option maxRecDepth 100000 in
theorem w_13 {X : CX} {h : HP} {v4 : Int32} {L : Nat} {sx : Nat → Int32} {ce sl : Nat} (C : Cok X code 7 R_Lw ret) (N : NW (xs X)) (Rm : xR X = room_1) (S : SC X L sx) (hm : ce + 1 ≤ (xR X).cells ∧ sl + 6 ≤ (xR X).slots)
    (K : vp_in (v4 + 1) L ∧ (K_Ce_output [.ref 14, .int (sx (v4 + 1).toNatClampNeg)] h (fun r1 h1 => vp_in (v4 + 1) L ∧ (K_Mo_output [.ref 0, .int (sx (v4 + 1).toNatClampNeg)] h1 (fun r2 h2 => (r1 = r2 → Wg X ce sl h2 [(0, .ref 59), (1, .ref 14), (2, .ref 0), (3, .ref 58), (4, .int v4)] [] 1206) ∧ (¬ r1 = r2 → False)))))) :
    Wg X ce sl h [(0, .ref 59), (1, .ref 14), (2, .ref 0), (3, .ref 58), (4, .int v4)] [] 1044 := by
  refine r_aload_n C 1 rfl d_La_law_1044 ?_
  refine r_aload_n C 0 rfl d_La_law_1045 ?_
  refine r_iload C 4 rfl d_La_law_1046 ?_
  refine r_iconst (v := 1) C (by decide) d_La_law_1048 ?_
  refine r_iadd C d_La_law_1049 ?_
  obtain ⟨s0, K⟩ := K
  refine r_sld C S s0 d_La_law_1050 ?_
  refine r_callVL (As := [.int (sx (v4 + 1).toNatClampNeg)]) (st := []) (lvc := 0) (mcc := 0) (msc := 0) C (by rw [Rm]; exact ⟨Nat.le_of_ble_eq_true rfl, Nat.le_of_ble_eq_true rfl⟩) M_Ce_output rfl k_238 rfl (Nat.le_of_ble_eq_true rfl) ⟨by omega, by omega⟩ d_La_law_1051 ?_
  refine Can.mono K (fun _ h1 z => ?_)
  obtain ⟨r1, rfl, K⟩ := z
  show Wg X ce sl h1 [(0, .ref 59), (1, .ref 14), (2, .ref 0), (3, .ref 58), (4, .int v4)] [.int r1] 1054
  refine r_aload_n C 2 rfl d_La_law_1054 ?_
  refine r_aload_n C 0 rfl d_La_law_1055 ?_
  refine r_iload C 4 rfl d_La_law_1056 ?_
  refine r_iconst (v := 1) C (by decide) d_La_law_1058 ?_
  refine r_iadd C d_La_law_1059 ?_
  obtain ⟨s0, K⟩ := K
  refine r_sld C S s0 d_La_law_1060 ?_
  refine r_callVL (As := [.int (sx (v4 + 1).toNatClampNeg)]) (st := [.int r1]) (lvc := 0) (mcc := 0) (msc := 0) C (by rw [Rm]; exact ⟨Nat.le_of_ble_eq_true rfl, Nat.le_of_ble_eq_true rfl⟩) M_Mo_output rfl k_1303 rfl (Nat.le_of_ble_eq_true rfl) ⟨by omega, by omega⟩ d_La_law_1061 ?_
  refine Can.mono K (fun _ h2 z => ?_)
  obtain ⟨r2, rfl, K⟩ := z
  show Wg X ce sl h2 [(0, .ref 59), (1, .ref 14), (2, .ref 0), (3, .ref 58), (4, .int v4)] [.int r2, .int r1] 1064
  refine r_icmp_eq C 1206 d_La_law_1064 (by decide) ⟨fun c0 => ?_, fun c0 => ?_⟩
  · have K := K.1 c0
    exact K
  · have K := K.2 c0
    exact K.elim
set_option maxHeartbeats 4000000 in
set_option maxRecDepth 100000 in
theorem w_14 {X : CX} {h : HP} {v4 : Int32} {L : Nat} {sx : Nat → Int32} {ce sl : Nat} (C : Cok X code 7 R_Lw ret) (N : NW (xs X)) (Rm : xR X = room_1) (S : SC X L sx) (hm : ce + 1 ≤ (xR X).cells ∧ sl + 6 ≤ (xR X).slots)
    (K : K_Ce_collect [.ref 14] h (fun r1 h1 => K_Mo_collect [.ref 0] h1 (fun r2 h2 => (r1 = r2 → Wg X ce sl h2 [(0, .ref 59), (1, .ref 14), (2, .ref 0), (3, .ref 58), (4, .int v4)] [] 1206) ∧ (¬ r1 = r2 → False)))) :
    Wg X ce sl h [(0, .ref 59), (1, .ref 14), (2, .ref 0), (3, .ref 58), (4, .int v4)] [] 1069 := by
  refine r_aload_n C 1 rfl d_La_law_1069 ?_
  refine r_callVL (As := []) (st := []) (lvc := 4) (mcc := 0) (msc := 0) C (by rw [Rm]; exact ⟨Nat.le_of_ble_eq_true rfl, Nat.le_of_ble_eq_true rfl⟩) M_Ce_collect rfl k_242 rfl (Nat.le_of_ble_eq_true rfl) ⟨by omega, by omega⟩ d_La_law_1070 ?_
  refine Can.mono K (fun _ h1 z => ?_)
  obtain ⟨r1, rfl, K⟩ := z
  show Wg X ce sl h1 [(0, .ref 59), (1, .ref 14), (2, .ref 0), (3, .ref 58), (4, .int v4)] [.int r1] 1073
  refine r_aload_n C 2 rfl d_La_law_1073 ?_
  refine r_callVL (As := []) (st := [.int r1]) (lvc := 3) (mcc := 0) (msc := 0) C (by rw [Rm]; exact ⟨Nat.le_of_ble_eq_true rfl, Nat.le_of_ble_eq_true rfl⟩) M_Mo_collect rfl k_1307 rfl (Nat.le_of_ble_eq_true rfl) ⟨by omega, by omega⟩ d_La_law_1074 ?_
  refine Can.mono K (fun _ h2 z => ?_)
  obtain ⟨r2, rfl, K⟩ := z
  show Wg X ce sl h2 [(0, .ref 59), (1, .ref 14), (2, .ref 0), (3, .ref 58), (4, .int v4)] [.int r2, .int r1] 1077
  refine r_icmp_eq C 1206 d_La_law_1077 (by decide) ⟨fun c0 => ?_, fun c0 => ?_⟩
  · have K := K.1 c0
    exact K
  · have K := K.2 c0
    exact K.elim
set_option maxHeartbeats 4000000 in
set_option maxRecDepth 100000 in
theorem w_15 {X : CX} {h : HP} {v4 : Int32} {L : Nat} {sx : Nat → Int32} {ce sl : Nat} (C : Cok X code 7 R_Lw ret) (N : NW (xs X)) (Rm : xR X = room_1) (S : SC X L sx) (hm : ce + 1 ≤ (xR X).cells ∧ sl + 6 ≤ (xR X).slots)
    (K : vp_in (v4 + 1) L ∧ (vp_in (v4 + 2) L ∧ (H_La_value [.ref 14, .int (sx (v4 + 1).toNatClampNeg), .int (sx (v4 + 2).toNatClampNeg), .ref 58] h (fun r1 h1 => vp_in (v4 + 1) L ∧ (vp_in (v4 + 2) L ∧ (K_Mo_value [.ref 0, .int (sx (v4 + 1).toNatClampNeg), .int (sx (v4 + 2).toNatClampNeg)] h1 (fun r2 h2 => K_Mo_thrown [.ref 0] h2 (fun r3 h3 => (r3 = r1 → (¬ r1 = 0 → Wg X (ce + 1) (sl + 6) h3 [(0, .ref 59), (1, .ref 14), (2, .ref 0), (3, .ref 58), (4, .int v4)] [] 1206) ∧ (r1 = 0 → vp_in 0 1 ∧ (((lg_cmp (Int32.toInt64 (h3 58 (0 : Int32).toNatClampNeg)) (Int32.toInt64 r2)) = 0 → Wg X (ce + 1) (sl + 6) h3 [(0, .ref 59), (1, .ref 14), (2, .ref 0), (3, .ref 58), (4, .int v4)] [] 1206) ∧ (¬ (lg_cmp (Int32.toInt64 (h3 58 (0 : Int32).toNatClampNeg)) (Int32.toInt64 r2)) = 0 → False)))) ∧ (¬ r3 = r1 → False))))))))) :
    Wg X ce sl h [(0, .ref 59), (1, .ref 14), (2, .ref 0), (3, .ref 58), (4, .int v4)] [] 1082 := by
  refine r_aload_n C 1 rfl d_La_law_1082 ?_
  refine r_aload_n C 0 rfl d_La_law_1083 ?_
  refine r_iload C 4 rfl d_La_law_1084 ?_
  refine r_iconst (v := 1) C (by decide) d_La_law_1086 ?_
  refine r_iadd C d_La_law_1087 ?_
  obtain ⟨s0, K⟩ := K
  refine r_sld C S s0 d_La_law_1088 ?_
  refine r_aload_n C 0 rfl d_La_law_1089 ?_
  refine r_iload C 4 rfl d_La_law_1090 ?_
  refine r_iconst (v := 2) C (by decide) d_La_law_1092 ?_
  refine r_iadd C d_La_law_1093 ?_
  obtain ⟨s0, K⟩ := K
  refine r_sld C S s0 d_La_law_1094 ?_
  refine r_aload_n C 3 rfl d_La_law_1095 ?_
  refine r_callSH (lv := 0) (mc := 0) (ms := 0) (As := [.ref 14, .int (sx (v4 + 1).toNatClampNeg), .int (sx (v4 + 2).toNatClampNeg), .ref 58]) (st := []) (lvc := 12) (mcc := 1) (msc := 6) C N (by rw [Rm]; exact ⟨Nat.le_of_ble_eq_true rfl, Nat.le_of_ble_eq_true rfl⟩) M_La_value rfl k_992 (Nat.le_of_ble_eq_true rfl) hm d_La_law_1096 ?_
  refine CanH.mono K (fun _ h1 z => ?_)
  obtain ⟨r1, rfl, K⟩ := z
  show Wg X (ce + 1) (sl + 6) h1 [(0, .ref 59), (1, .ref 14), (2, .ref 0), (3, .ref 58), (4, .int v4)] [.int r1] 1099
  refine r_istore (ls2 := [(0, .ref 59), (1, .ref 14), (2, .ref 0), (3, .ref 58), (4, .int v4), (5, .int r1)]) C (by decide) rfl d_La_law_1099 ?_
  refine r_aload_n C 2 rfl d_La_law_1101 ?_
  refine r_aload_n C 0 rfl d_La_law_1102 ?_
  refine r_iload C 4 rfl d_La_law_1103 ?_
  refine r_iconst (v := 1) C (by decide) d_La_law_1105 ?_
  refine r_iadd C d_La_law_1106 ?_
  obtain ⟨s0, K⟩ := K
  refine r_sld C S s0 d_La_law_1107 ?_
  refine r_aload_n C 0 rfl d_La_law_1108 ?_
  refine r_iload C 4 rfl d_La_law_1109 ?_
  refine r_iconst (v := 2) C (by decide) d_La_law_1111 ?_
  refine r_iadd C d_La_law_1112 ?_
  obtain ⟨s0, K⟩ := K
  refine r_sld C S s0 d_La_law_1113 ?_
  refine r_callVL (As := [.int (sx (v4 + 1).toNatClampNeg), .int (sx (v4 + 2).toNatClampNeg)]) (st := []) (lvc := 1) (mcc := 0) (msc := 0) C (by rw [Rm]; exact ⟨Nat.le_of_ble_eq_true rfl, Nat.le_of_ble_eq_true rfl⟩) M_Mo_value rfl k_1311 rfl (Nat.le_of_ble_eq_true rfl) hm d_La_law_1114 ?_
  refine Can.mono K (fun _ h2 z => ?_)
  obtain ⟨r2, rfl, K⟩ := z
  show Wg X (ce + 1) (sl + 6) h2 [(0, .ref 59), (1, .ref 14), (2, .ref 0), (3, .ref 58), (4, .int v4), (5, .int r1)] [.int r2] 1117
  refine r_istore (ls2 := [(0, .ref 59), (1, .ref 14), (2, .ref 0), (3, .ref 58), (4, .int v4), (5, .int r1), (6, .int r2)]) C (by decide) rfl d_La_law_1117 ?_
  refine r_aload_n C 2 rfl d_La_law_1119 ?_
  refine r_callVL (As := []) (st := []) (lvc := 0) (mcc := 0) (msc := 0) C (by rw [Rm]; exact ⟨Nat.le_of_ble_eq_true rfl, Nat.le_of_ble_eq_true rfl⟩) M_Mo_thrown rfl k_1083 rfl (Nat.le_of_ble_eq_true rfl) hm d_La_law_1120 ?_
  refine Can.mono K (fun _ h3 z => ?_)
  obtain ⟨r3, rfl, K⟩ := z
  show Wg X (ce + 1) (sl + 6) h3 [(0, .ref 59), (1, .ref 14), (2, .ref 0), (3, .ref 58), (4, .int v4), (5, .int r1), (6, .int r2)] [.int r3] 1123
  refine r_iload C 5 rfl d_La_law_1123 ?_
  refine r_icmp_eq C 1130 d_La_law_1125 (by decide) ⟨fun c0 => ?_, fun c0 => ?_⟩
  · have K := K.1 c0
    refine r_iload C 5 rfl d_La_law_1130 ?_
    refine r_if_ne C 1147 d_La_law_1132 (by decide) ⟨fun c0 => ?_, fun c0 => ?_⟩
    · have K := K.1 c0
      refine r_goto C 1206 d_La_law_1147 (by decide) ?_
      exact Wg.drop (by simp) K
    · have K := K.2 c0
      refine r_aload_n C 3 rfl d_La_law_1135 ?_
      refine r_iconst (v := 0) C (by decide) d_La_law_1136 ?_
      obtain ⟨s0, K⟩ := K
      refine r_lald C rfl s0 d_La_law_1137 ?_
      refine r_iload C 6 rfl d_La_law_1138 ?_
      refine r_i2l C d_La_law_1140 ?_
      refine r_lcmp C d_La_law_1141 ?_
      refine r_if_eq C 1147 d_La_law_1142 (by decide) ⟨fun c0 => ?_, fun c0 => ?_⟩
      · have K := K.1 c0
        refine r_goto C 1206 d_La_law_1147 (by decide) ?_
        exact Wg.drop (by simp) K
      · have K := K.2 c0
        exact K.elim
  · have K := K.2 c0
    exact K.elim
set_option maxHeartbeats 4000000 in
set_option maxRecDepth 100000 in
theorem w_16 {X : CX} {h : HP} {v4 : Int32} {L : Nat} {sx : Nat → Int32} {ce sl : Nat} (C : Cok X code 7 R_Lw ret) (N : NW (xs X)) (Rm : xR X = room_1) (S : SC X L sx) (hm : ce + 1 ≤ (xR X).cells ∧ sl + 6 ≤ (xR X).slots)
    (K : vp_in (v4 + 1) L ∧ (H_La_count [.ref 14, .int (sx (v4 + 1).toNatClampNeg), .ref 58] h (fun r1 h1 => vp_in (v4 + 1) L ∧ (K_Mo_count [.ref 0, .int (sx (v4 + 1).toNatClampNeg)] h1 (fun r2 h2 => K_Mo_thrown [.ref 0] h2 (fun r3 h3 => (r3 = r1 → (¬ r1 = 0 → Wg X (ce + 1) (sl + 6) h3 [(0, .ref 59), (1, .ref 14), (2, .ref 0), (3, .ref 58), (4, .int v4)] [] 1206) ∧ (r1 = 0 → vp_in 0 1 ∧ (((lg_cmp (Int32.toInt64 (h3 58 (0 : Int32).toNatClampNeg)) (Int32.toInt64 r2)) = 0 → Wg X (ce + 1) (sl + 6) h3 [(0, .ref 59), (1, .ref 14), (2, .ref 0), (3, .ref 58), (4, .int v4)] [] 1206) ∧ (¬ (lg_cmp (Int32.toInt64 (h3 58 (0 : Int32).toNatClampNeg)) (Int32.toInt64 r2)) = 0 → False)))) ∧ (¬ r3 = r1 → False))))))) :
    Wg X ce sl h [(0, .ref 59), (1, .ref 14), (2, .ref 0), (3, .ref 58), (4, .int v4)] [] 1150 := by
  refine r_aload_n C 1 rfl d_La_law_1150 ?_
  refine r_aload_n C 0 rfl d_La_law_1151 ?_
  refine r_iload C 4 rfl d_La_law_1152 ?_
  refine r_iconst (v := 1) C (by decide) d_La_law_1154 ?_
  refine r_iadd C d_La_law_1155 ?_
  obtain ⟨s0, K⟩ := K
  refine r_sld C S s0 d_La_law_1156 ?_
  refine r_aload_n C 3 rfl d_La_law_1157 ?_
  refine r_callSH (lv := 0) (mc := 0) (ms := 0) (As := [.ref 14, .int (sx (v4 + 1).toNatClampNeg), .ref 58]) (st := []) (lvc := 11) (mcc := 1) (msc := 6) C N (by rw [Rm]; exact ⟨Nat.le_of_ble_eq_true rfl, Nat.le_of_ble_eq_true rfl⟩) M_La_count rfl k_1001 (Nat.le_of_ble_eq_true rfl) hm d_La_law_1158 ?_
  refine CanH.mono K (fun _ h1 z => ?_)
  obtain ⟨r1, rfl, K⟩ := z
  show Wg X (ce + 1) (sl + 6) h1 [(0, .ref 59), (1, .ref 14), (2, .ref 0), (3, .ref 58), (4, .int v4)] [.int r1] 1161
  refine r_istore (ls2 := [(0, .ref 59), (1, .ref 14), (2, .ref 0), (3, .ref 58), (4, .int v4), (5, .int r1)]) C (by decide) rfl d_La_law_1161 ?_
  refine r_aload_n C 2 rfl d_La_law_1163 ?_
  refine r_aload_n C 0 rfl d_La_law_1164 ?_
  refine r_iload C 4 rfl d_La_law_1165 ?_
  refine r_iconst (v := 1) C (by decide) d_La_law_1167 ?_
  refine r_iadd C d_La_law_1168 ?_
  obtain ⟨s0, K⟩ := K
  refine r_sld C S s0 d_La_law_1169 ?_
  refine r_callVL (As := [.int (sx (v4 + 1).toNatClampNeg)]) (st := []) (lvc := 2) (mcc := 0) (msc := 0) C (by rw [Rm]; exact ⟨Nat.le_of_ble_eq_true rfl, Nat.le_of_ble_eq_true rfl⟩) M_Mo_count rfl k_1319 rfl (Nat.le_of_ble_eq_true rfl) hm d_La_law_1170 ?_
  refine Can.mono K (fun _ h2 z => ?_)
  obtain ⟨r2, rfl, K⟩ := z
  show Wg X (ce + 1) (sl + 6) h2 [(0, .ref 59), (1, .ref 14), (2, .ref 0), (3, .ref 58), (4, .int v4), (5, .int r1)] [.int r2] 1173
  refine r_istore (ls2 := [(0, .ref 59), (1, .ref 14), (2, .ref 0), (3, .ref 58), (4, .int v4), (5, .int r1), (6, .int r2)]) C (by decide) rfl d_La_law_1173 ?_
  refine r_aload_n C 2 rfl d_La_law_1175 ?_
  refine r_callVL (As := []) (st := []) (lvc := 0) (mcc := 0) (msc := 0) C (by rw [Rm]; exact ⟨Nat.le_of_ble_eq_true rfl, Nat.le_of_ble_eq_true rfl⟩) M_Mo_thrown rfl k_1083 rfl (Nat.le_of_ble_eq_true rfl) hm d_La_law_1176 ?_
  refine Can.mono K (fun _ h3 z => ?_)
  obtain ⟨r3, rfl, K⟩ := z
  show Wg X (ce + 1) (sl + 6) h3 [(0, .ref 59), (1, .ref 14), (2, .ref 0), (3, .ref 58), (4, .int v4), (5, .int r1), (6, .int r2)] [.int r3] 1179
  refine r_iload C 5 rfl d_La_law_1179 ?_
  refine r_icmp_eq C 1186 d_La_law_1181 (by decide) ⟨fun c0 => ?_, fun c0 => ?_⟩
  · have K := K.1 c0
    refine r_iload C 5 rfl d_La_law_1186 ?_
    refine r_if_ne C 1203 d_La_law_1188 (by decide) ⟨fun c0 => ?_, fun c0 => ?_⟩
    · have K := K.1 c0
      refine r_goto C 1206 d_La_law_1203 (by decide) ?_
      exact Wg.drop (by simp) K
    · have K := K.2 c0
      refine r_aload_n C 3 rfl d_La_law_1191 ?_
      refine r_iconst (v := 0) C (by decide) d_La_law_1192 ?_
      obtain ⟨s0, K⟩ := K
      refine r_lald C rfl s0 d_La_law_1193 ?_
      refine r_iload C 6 rfl d_La_law_1194 ?_
      refine r_i2l C d_La_law_1196 ?_
      refine r_lcmp C d_La_law_1197 ?_
      refine r_if_eq C 1203 d_La_law_1198 (by decide) ⟨fun c0 => ?_, fun c0 => ?_⟩
      · have K := K.1 c0
        refine r_goto C 1206 d_La_law_1203 (by decide) ?_
        exact Wg.drop (by simp) K
      · have K := K.2 c0
        exact K.elim
  · have K := K.2 c0
    exact K.elim
