theorem fa_lt5 (a b : Int32) : a < b ↔ a.toInt < b.toInt := Int32.lt_iff_toInt_lt
/-- what is to be shown of feed -/
def sp_feed (R : Mem → Mem → Prop) : Prop := ∀ (u v : Mem) (a1 : Int32) (a2 : Int32) (a3 : Int32) (a4 : Int32) (a5 : Int32), R u v → ∃ (r : Int32) (u2 : Mem) (v2 : Mem), fX11_feed a1 a2 a3 a4 a5 u = some (r, u2) ∧ fX12_feed a1 a2 a3 a4 a5 v = some (r, v2) ∧ R u2 v2
set_option maxHeartbeats 4000000 in
set_option maxRecDepth 100000 in
theorem lc_0 {D : va_G} {cy : Nat → ClassId} {aX aM : Nat → Nat} {K0 S0 : Nat} {p : Program} {l : Launch} {e : Env} {s : State} {m : MethodId} {below : List Frame} {meth : Method} {c : Code} {b L : Nat} {xs : Nat → Int32} (C : CL D cy aX aM p s m c b L xs) (hL : L ≤ 3072) (hKS : K0 ≤ 600000 ∧ S0 ≤ 7302250) {R : Mem → Mem → Prop} (hs : sp_feed R) {i : Nat} (hi : i + 6 ≤ L) {u v : Mem} (hR : R u v) (hnext : ∀ u v, R u v → VL D cy aX aM K0 S0 p l e s m below meth c b (1248) ([(0, .ref b), (1, .ref (aX 180)), (2, .ref (aM 0)), (3, .int (nI i))]) ([]) (u) (v)) : VL D cy aX aM K0 S0 p l e s m below meth c b (168) ([(0, .ref b), (1, .ref (aX 180)), (2, .ref (aM 0)), (3, .int (nI i))]) ([]) (u) (v) := by
  obtain ⟨r, u2, v2, hX, hM, hR2⟩ := hs u v (xs (i + 1)) (xs (i + 2)) (xs (i + 3)) (xs (i + 4)) (xs (i + 5)) hR
  refine l_aload_n C 1 dL_law_168 rfl rfl ?_
  refine l_aload_n C 0 dL_law_169 rfl rfl ?_
  refine l_iload_n C 3 dL_law_170 rfl rfl ?_
  refine l_iconst C (x := 1) dL_law_171 (by decide) ?_
  refine l_iadd C dL_law_172 ?_
  refine l_sld C (j := i + 1) (nI_add i 1) (by omega) hL dL_law_173 ?_
  refine l_aload_n C 0 dL_law_174 rfl rfl ?_
  refine l_iload_n C 3 dL_law_175 rfl rfl ?_
  refine l_iconst C (x := 2) dL_law_176 (by decide) ?_
  refine l_iadd C dL_law_177 ?_
  refine l_sld C (j := i + 2) (nI_add i 2) (by omega) hL dL_law_178 ?_
  refine l_aload_n C 0 dL_law_179 rfl rfl ?_
  refine l_iload_n C 3 dL_law_180 rfl rfl ?_
  refine l_iconst C (x := 3) dL_law_181 (by decide) ?_
  refine l_iadd C dL_law_182 ?_
  refine l_sld C (j := i + 3) (nI_add i 3) (by omega) hL dL_law_183 ?_
  refine l_aload_n C 0 dL_law_184 rfl rfl ?_
  refine l_iload_n C 3 dL_law_185 rfl rfl ?_
  refine l_iconst C (x := 4) dL_law_186 (by decide) ?_
  refine l_iadd C dL_law_187 ?_
  refine l_sld C (j := i + 4) (nI_add i 4) (by omega) hL dL_law_188 ?_
  refine l_aload_n C 0 dL_law_189 rfl rfl ?_
  refine l_iload_n C 3 dL_law_190 rfl rfl ?_
  refine l_iconst C (x := 5) dL_law_191 (by decide) ?_
  refine l_iadd C dL_law_192 ?_
  refine l_sld C (j := i + 5) (nI_add i 5) (by omega) hL dL_law_193 ?_
  refine l_callXi C [.int (xs (i + 1)), .int (xs (i + 2)), .int (xs (i + 3)), .int (xs (i + 4)), .int (xs (i + 5))] (cX11_feed_ct l D cy aX (xs (i + 1)) (xs (i + 2)) (xs (i + 3)) (xs (i + 4)) (xs (i + 5)) u _ hX) ml_L_13 ⟨Nat.le_of_ble_eq_true rfl, Nat.le_of_ble_eq_true rfl⟩ ⟨rfl, rfl⟩ rfl rfl (Nat.le_of_ble_eq_true rfl) hKS dL_law_194 ?_
  refine l_aload_n C 2 dL_law_197 rfl rfl ?_
  refine l_aload_n C 0 dL_law_198 rfl rfl ?_
  refine l_iload_n C 3 dL_law_199 rfl rfl ?_
  refine l_iconst C (x := 1) dL_law_200 (by decide) ?_
  refine l_iadd C dL_law_201 ?_
  refine l_sld C (j := i + 1) (nI_add i 1) (by omega) hL dL_law_202 ?_
  refine l_aload_n C 0 dL_law_203 rfl rfl ?_
  refine l_iload_n C 3 dL_law_204 rfl rfl ?_
  refine l_iconst C (x := 2) dL_law_205 (by decide) ?_
  refine l_iadd C dL_law_206 ?_
  refine l_sld C (j := i + 2) (nI_add i 2) (by omega) hL dL_law_207 ?_
  refine l_aload_n C 0 dL_law_208 rfl rfl ?_
  refine l_iload_n C 3 dL_law_209 rfl rfl ?_
  refine l_iconst C (x := 3) dL_law_210 (by decide) ?_
  refine l_iadd C dL_law_211 ?_
  refine l_sld C (j := i + 3) (nI_add i 3) (by omega) hL dL_law_212 ?_
  refine l_aload_n C 0 dL_law_213 rfl rfl ?_
  refine l_iload_n C 3 dL_law_214 rfl rfl ?_
  refine l_iconst C (x := 4) dL_law_215 (by decide) ?_
  refine l_iadd C dL_law_216 ?_
  refine l_sld C (j := i + 4) (nI_add i 4) (by omega) hL dL_law_217 ?_
  refine l_aload_n C 0 dL_law_218 rfl rfl ?_
  refine l_iload_n C 3 dL_law_219 rfl rfl ?_
  refine l_iconst C (x := 5) dL_law_220 (by decide) ?_
  refine l_iadd C dL_law_221 ?_
  refine l_sld C (j := i + 5) (nI_add i 5) (by omega) hL dL_law_222 ?_
  refine l_callMi C [.int (xs (i + 1)), .int (xs (i + 2)), .int (xs (i + 3)), .int (xs (i + 4)), .int (xs (i + 5))] (cX12_feed_ct l D cy aM (xs (i + 1)) (xs (i + 2)) (xs (i + 3)) (xs (i + 4)) (xs (i + 5)) v _ hM) ml_L_17 ⟨Nat.le_of_ble_eq_true rfl, Nat.le_of_ble_eq_true rfl⟩ ⟨rfl, rfl⟩ rfl rfl (Nat.le_of_ble_eq_true rfl) hKS dL_law_223 ?_
  refine l_icmp_eq C 1248 dL_law_226 (by decide) (fun _ => ?_) (fun z => absurd rfl z)
  exact hnext _ _ hR2
/-- what is to be shown of end -/
def sp_end (R : Mem → Mem → Prop) : Prop := ∀ (u v : Mem) (a1 : Int32), R u v → ∃ (r : Int32) (u2 : Mem) (v2 : Mem), fX11_end a1 u = some (r, u2) ∧ fX12_end a1 v = some (r, v2) ∧ R u2 v2
set_option maxHeartbeats 4000000 in
set_option maxRecDepth 100000 in
theorem lc_1 {D : va_G} {cy : Nat → ClassId} {aX aM : Nat → Nat} {K0 S0 : Nat} {p : Program} {l : Launch} {e : Env} {s : State} {m : MethodId} {below : List Frame} {meth : Method} {c : Code} {b L : Nat} {xs : Nat → Int32} (C : CL D cy aX aM p s m c b L xs) (hL : L ≤ 3072) (hKS : K0 ≤ 600000 ∧ S0 ≤ 7302250) {R : Mem → Mem → Prop} (hs : sp_end R) {i : Nat} (hi : i + 6 ≤ L) {u v : Mem} (hR : R u v) (hnext : ∀ u v, R u v → VL D cy aX aM K0 S0 p l e s m below meth c b (1248) ([(0, .ref b), (1, .ref (aX 180)), (2, .ref (aM 0)), (3, .int (nI i))]) ([]) (u) (v)) : VL D cy aX aM K0 S0 p l e s m below meth c b (231) ([(0, .ref b), (1, .ref (aX 180)), (2, .ref (aM 0)), (3, .int (nI i))]) ([]) (u) (v) := by
  obtain ⟨r, u2, v2, hX, hM, hR2⟩ := hs u v (xs (i + 1)) hR
  refine l_aload_n C 1 dL_law_231 rfl rfl ?_
  refine l_aload_n C 0 dL_law_232 rfl rfl ?_
  refine l_iload_n C 3 dL_law_233 rfl rfl ?_
  refine l_iconst C (x := 1) dL_law_234 (by decide) ?_
  refine l_iadd C dL_law_235 ?_
  refine l_sld C (j := i + 1) (nI_add i 1) (by omega) hL dL_law_236 ?_
  refine l_callXi C [.int (xs (i + 1))] (cX11_end_ct l D cy aX (xs (i + 1)) u _ hX) ml_L_18 ⟨Nat.le_of_ble_eq_true rfl, Nat.le_of_ble_eq_true rfl⟩ ⟨rfl, rfl⟩ rfl rfl (Nat.le_of_ble_eq_true rfl) hKS dL_law_237 ?_
  refine l_aload_n C 2 dL_law_240 rfl rfl ?_
  refine l_aload_n C 0 dL_law_241 rfl rfl ?_
  refine l_iload_n C 3 dL_law_242 rfl rfl ?_
  refine l_iconst C (x := 1) dL_law_243 (by decide) ?_
  refine l_iadd C dL_law_244 ?_
  refine l_sld C (j := i + 1) (nI_add i 1) (by omega) hL dL_law_245 ?_
  refine l_callMi C [.int (xs (i + 1))] (cX12_end_ct l D cy aM (xs (i + 1)) v _ hM) ml_L_22 ⟨Nat.le_of_ble_eq_true rfl, Nat.le_of_ble_eq_true rfl⟩ ⟨rfl, rfl⟩ rfl rfl (Nat.le_of_ble_eq_true rfl) hKS dL_law_246 ?_
  refine l_icmp_eq C 1248 dL_law_249 (by decide) (fun _ => ?_) (fun z => absurd rfl z)
  exact hnext _ _ hR2
/-- what is to be shown of text -/
def sp_text (R : Mem → Mem → Prop) : Prop := ∀ (u v : Mem), R u v → ∃ (r : Int32) (u2 : Mem) (v2 : Mem), fX11_text u = some (r, u2) ∧ fX12_text v = some (r, v2) ∧ R u2 v2
set_option maxHeartbeats 4000000 in
set_option maxRecDepth 100000 in
theorem lc_2 {D : va_G} {cy : Nat → ClassId} {aX aM : Nat → Nat} {K0 S0 : Nat} {p : Program} {l : Launch} {e : Env} {s : State} {m : MethodId} {below : List Frame} {meth : Method} {c : Code} {b L : Nat} {xs : Nat → Int32} (C : CL D cy aX aM p s m c b L xs) (hL : L ≤ 3072) (hKS : K0 ≤ 600000 ∧ S0 ≤ 7302250) {R : Mem → Mem → Prop} (hs : sp_text R) {i : Nat} (hi : i + 6 ≤ L) {u v : Mem} (hR : R u v) (hnext : ∀ u v, R u v → VL D cy aX aM K0 S0 p l e s m below meth c b (1248) ([(0, .ref b), (1, .ref (aX 180)), (2, .ref (aM 0)), (3, .int (nI i))]) ([]) (u) (v)) : VL D cy aX aM K0 S0 p l e s m below meth c b (254) ([(0, .ref b), (1, .ref (aX 180)), (2, .ref (aM 0)), (3, .int (nI i))]) ([]) (u) (v) := by
  obtain ⟨r, u2, v2, hX, hM, hR2⟩ := hs u v hR
  refine l_aload_n C 1 dL_law_254 rfl rfl ?_
  refine l_callXi C [] (cX11_text_ct l D cy aX u _ hX) ml_L_23 ⟨Nat.le_of_ble_eq_true rfl, Nat.le_of_ble_eq_true rfl⟩ ⟨rfl, rfl⟩ rfl rfl (Nat.le_of_ble_eq_true rfl) hKS dL_law_255 ?_
  refine l_aload_n C 2 dL_law_258 rfl rfl ?_
  refine l_callMi C [] (cX12_text_ct l D cy aM v _ hM) ml_L_27 ⟨Nat.le_of_ble_eq_true rfl, Nat.le_of_ble_eq_true rfl⟩ ⟨rfl, rfl⟩ rfl rfl (Nat.le_of_ble_eq_true rfl) hKS dL_law_259 ?_
  refine l_icmp_eq C 1248 dL_law_262 (by decide) (fun _ => ?_) (fun z => absurd rfl z)
  exact hnext _ _ hR2
/-- what is to be shown of fault -/
def sp_fault (R : Mem → Mem → Prop) : Prop := ∀ (u v : Mem) (a1 : Int32), R u v → ∃ (r : Int32), fX11_fault a1 u = some r ∧ fX12_fault a1 v = some r ∧ R u v
set_option maxHeartbeats 4000000 in
set_option maxRecDepth 100000 in
theorem lc_3 {D : va_G} {cy : Nat → ClassId} {aX aM : Nat → Nat} {K0 S0 : Nat} {p : Program} {l : Launch} {e : Env} {s : State} {m : MethodId} {below : List Frame} {meth : Method} {c : Code} {b L : Nat} {xs : Nat → Int32} (C : CL D cy aX aM p s m c b L xs) (hL : L ≤ 3072) (hKS : K0 ≤ 600000 ∧ S0 ≤ 7302250) {R : Mem → Mem → Prop} (hs : sp_fault R) {i : Nat} (hi : i + 6 ≤ L) {u v : Mem} (hR : R u v) (hnext : ∀ u v, R u v → VL D cy aX aM K0 S0 p l e s m below meth c b (1248) ([(0, .ref b), (1, .ref (aX 180)), (2, .ref (aM 0)), (3, .int (nI i))]) ([]) (u) (v)) : VL D cy aX aM K0 S0 p l e s m below meth c b (267) ([(0, .ref b), (1, .ref (aX 180)), (2, .ref (aM 0)), (3, .int (nI i))]) ([]) (u) (v) := by
  obtain ⟨r, hX, hM, hR2⟩ := hs u v (xs (i + 1)) hR
  refine l_aload_n C 1 dL_law_267 rfl rfl ?_
  refine l_aload_n C 0 dL_law_268 rfl rfl ?_
  refine l_iload_n C 3 dL_law_269 rfl rfl ?_
  refine l_iconst C (x := 1) dL_law_270 (by decide) ?_
  refine l_iadd C dL_law_271 ?_
  refine l_sld C (j := i + 1) (nI_add i 1) (by omega) hL dL_law_272 ?_
  refine l_callXi C [.int (xs (i + 1))] (cX11_fault_ct l D cy aX (xs (i + 1)) u _ hX) ml_L_28 ⟨Nat.le_of_ble_eq_true rfl, Nat.le_of_ble_eq_true rfl⟩ ⟨rfl, rfl⟩ rfl rfl (Nat.le_of_ble_eq_true rfl) hKS dL_law_273 ?_
  refine l_aload_n C 2 dL_law_276 rfl rfl ?_
  refine l_aload_n C 0 dL_law_277 rfl rfl ?_
  refine l_iload_n C 3 dL_law_278 rfl rfl ?_
  refine l_iconst C (x := 1) dL_law_279 (by decide) ?_
  refine l_iadd C dL_law_280 ?_
  refine l_sld C (j := i + 1) (nI_add i 1) (by omega) hL dL_law_281 ?_
  refine l_callMi C [.int (xs (i + 1))] (cX12_fault_ct l D cy aM (xs (i + 1)) v _ hM) ml_L_31 ⟨Nat.le_of_ble_eq_true rfl, Nat.le_of_ble_eq_true rfl⟩ ⟨rfl, rfl⟩ rfl rfl (Nat.le_of_ble_eq_true rfl) hKS dL_law_282 ?_
  refine l_icmp_eq C 1248 dL_law_285 (by decide) (fun _ => ?_) (fun z => absurd rfl z)
  exact hnext _ _ hR2
/-- what is to be shown of look -/
def sp_look (R : Mem → Mem → Prop) : Prop := ∀ (u v : Mem) (a1 : Int32), R u v → ∃ (r : Bool) (u2 : Mem) (v2 : Mem), fX11_look a1 u = some (r, u2) ∧ fX12_look a1 v = some (r, v2) ∧ R u2 v2
set_option maxHeartbeats 4000000 in
set_option maxRecDepth 100000 in
theorem lc_4 {D : va_G} {cy : Nat → ClassId} {aX aM : Nat → Nat} {K0 S0 : Nat} {p : Program} {l : Launch} {e : Env} {s : State} {m : MethodId} {below : List Frame} {meth : Method} {c : Code} {b L : Nat} {xs : Nat → Int32} (C : CL D cy aX aM p s m c b L xs) (hL : L ≤ 3072) (hKS : K0 ≤ 600000 ∧ S0 ≤ 7302250) {R : Mem → Mem → Prop} (hs : sp_look R) {i : Nat} (hi : i + 6 ≤ L) {u v : Mem} (hR : R u v) (hnext : ∀ u v, R u v → VL D cy aX aM K0 S0 p l e s m below meth c b (1248) ([(0, .ref b), (1, .ref (aX 180)), (2, .ref (aM 0)), (3, .int (nI i))]) ([]) (u) (v)) : VL D cy aX aM K0 S0 p l e s m below meth c b (290) ([(0, .ref b), (1, .ref (aX 180)), (2, .ref (aM 0)), (3, .int (nI i))]) ([]) (u) (v) := by
  obtain ⟨r, u2, v2, hX, hM, hR2⟩ := hs u v (xs (i + 1)) hR
  refine l_aload_n C 1 dL_law_290 rfl rfl ?_
  refine l_aload_n C 0 dL_law_291 rfl rfl ?_
  refine l_iload_n C 3 dL_law_292 rfl rfl ?_
  refine l_iconst C (x := 1) dL_law_293 (by decide) ?_
  refine l_iadd C dL_law_294 ?_
  refine l_sld C (j := i + 1) (nI_add i 1) (by omega) hL dL_law_295 ?_
  refine l_callXi C [.int (xs (i + 1))] (cX11_look_ct l D cy aX (xs (i + 1)) u _ hX) ml_L_32 ⟨Nat.le_of_ble_eq_true rfl, Nat.le_of_ble_eq_true rfl⟩ ⟨rfl, rfl⟩ rfl rfl (Nat.le_of_ble_eq_true rfl) hKS dL_law_296 ?_
  refine l_aload_n C 2 dL_law_299 rfl rfl ?_
  refine l_aload_n C 0 dL_law_300 rfl rfl ?_
  refine l_iload_n C 3 dL_law_301 rfl rfl ?_
  refine l_iconst C (x := 1) dL_law_302 (by decide) ?_
  refine l_iadd C dL_law_303 ?_
  refine l_sld C (j := i + 1) (nI_add i 1) (by omega) hL dL_law_304 ?_
  refine l_callMi C [.int (xs (i + 1))] (cX12_look_ct l D cy aM (xs (i + 1)) v _ hM) ml_L_36 ⟨Nat.le_of_ble_eq_true rfl, Nat.le_of_ble_eq_true rfl⟩ ⟨rfl, rfl⟩ rfl rfl (Nat.le_of_ble_eq_true rfl) hKS dL_law_305 ?_
  refine l_icmp_eq C 1248 dL_law_308 (by decide) (fun _ => ?_) (fun z => absurd rfl z)
  exact hnext _ _ hR2
/-- what is to be shown of weight -/
def sp_weight (R : Mem → Mem → Prop) : Prop := ∀ (u v : Mem) (a1 : Int32), R u v → ∃ (r : Int32), fX11_weight a1 u = some r ∧ fX12_weight a1 v = some r ∧ R u v
set_option maxHeartbeats 4000000 in
set_option maxRecDepth 100000 in
theorem lc_5 {D : va_G} {cy : Nat → ClassId} {aX aM : Nat → Nat} {K0 S0 : Nat} {p : Program} {l : Launch} {e : Env} {s : State} {m : MethodId} {below : List Frame} {meth : Method} {c : Code} {b L : Nat} {xs : Nat → Int32} (C : CL D cy aX aM p s m c b L xs) (hL : L ≤ 3072) (hKS : K0 ≤ 600000 ∧ S0 ≤ 7302250) {R : Mem → Mem → Prop} (hs : sp_weight R) {i : Nat} (hi : i + 6 ≤ L) {u v : Mem} (hR : R u v) (hnext : ∀ u v, R u v → VL D cy aX aM K0 S0 p l e s m below meth c b (1248) ([(0, .ref b), (1, .ref (aX 180)), (2, .ref (aM 0)), (3, .int (nI i))]) ([]) (u) (v)) : VL D cy aX aM K0 S0 p l e s m below meth c b (313) ([(0, .ref b), (1, .ref (aX 180)), (2, .ref (aM 0)), (3, .int (nI i))]) ([]) (u) (v) := by
  obtain ⟨r, hX, hM, hR2⟩ := hs u v (xs (i + 1)) hR
  refine l_aload_n C 1 dL_law_313 rfl rfl ?_
  refine l_aload_n C 0 dL_law_314 rfl rfl ?_
  refine l_iload_n C 3 dL_law_315 rfl rfl ?_
  refine l_iconst C (x := 1) dL_law_316 (by decide) ?_
  refine l_iadd C dL_law_317 ?_
  refine l_sld C (j := i + 1) (nI_add i 1) (by omega) hL dL_law_318 ?_
  refine l_callXi C [.int (xs (i + 1))] (cX11_weight_ct l D cy aX (xs (i + 1)) u _ hX) ml_L_37 ⟨Nat.le_of_ble_eq_true rfl, Nat.le_of_ble_eq_true rfl⟩ ⟨rfl, rfl⟩ rfl rfl (Nat.le_of_ble_eq_true rfl) hKS dL_law_319 ?_
  refine l_aload_n C 2 dL_law_322 rfl rfl ?_
  refine l_aload_n C 0 dL_law_323 rfl rfl ?_
  refine l_iload_n C 3 dL_law_324 rfl rfl ?_
  refine l_iconst C (x := 1) dL_law_325 (by decide) ?_
  refine l_iadd C dL_law_326 ?_
  refine l_sld C (j := i + 1) (nI_add i 1) (by omega) hL dL_law_327 ?_
  refine l_callMi C [.int (xs (i + 1))] (cX12_weight_ct l D cy aM (xs (i + 1)) v _ hM) ml_L_40 ⟨Nat.le_of_ble_eq_true rfl, Nat.le_of_ble_eq_true rfl⟩ ⟨rfl, rfl⟩ rfl rfl (Nat.le_of_ble_eq_true rfl) hKS dL_law_328 ?_
  refine l_icmp_eq C 1248 dL_law_331 (by decide) (fun _ => ?_) (fun z => absurd rfl z)
  exact hnext _ _ hR2
/-- what is to be shown of chain -/
def sp_chain (R : Mem → Mem → Prop) : Prop := ∀ (u v : Mem) (a1 : Int32) (a2 : Int32), R u v → ∃ (r : Int32), fX11_chain a1 a2 u = some r ∧ fX12_chain a1 a2 v = some r ∧ R u v
set_option maxHeartbeats 4000000 in
set_option maxRecDepth 100000 in
theorem lc_6 {D : va_G} {cy : Nat → ClassId} {aX aM : Nat → Nat} {K0 S0 : Nat} {p : Program} {l : Launch} {e : Env} {s : State} {m : MethodId} {below : List Frame} {meth : Method} {c : Code} {b L : Nat} {xs : Nat → Int32} (C : CL D cy aX aM p s m c b L xs) (hL : L ≤ 3072) (hKS : K0 ≤ 600000 ∧ S0 ≤ 7302250) {R : Mem → Mem → Prop} (hs : sp_chain R) {i : Nat} (hi : i + 6 ≤ L) {u v : Mem} (hR : R u v) (hnext : ∀ u v, R u v → VL D cy aX aM K0 S0 p l e s m below meth c b (1248) ([(0, .ref b), (1, .ref (aX 180)), (2, .ref (aM 0)), (3, .int (nI i))]) ([]) (u) (v)) : VL D cy aX aM K0 S0 p l e s m below meth c b (336) ([(0, .ref b), (1, .ref (aX 180)), (2, .ref (aM 0)), (3, .int (nI i))]) ([]) (u) (v) := by
  obtain ⟨r, hX, hM, hR2⟩ := hs u v (xs (i + 1)) (xs (i + 2)) hR
  refine l_aload_n C 1 dL_law_336 rfl rfl ?_
  refine l_aload_n C 0 dL_law_337 rfl rfl ?_
  refine l_iload_n C 3 dL_law_338 rfl rfl ?_
  refine l_iconst C (x := 1) dL_law_339 (by decide) ?_
  refine l_iadd C dL_law_340 ?_
  refine l_sld C (j := i + 1) (nI_add i 1) (by omega) hL dL_law_341 ?_
  refine l_aload_n C 0 dL_law_342 rfl rfl ?_
  refine l_iload_n C 3 dL_law_343 rfl rfl ?_
  refine l_iconst C (x := 2) dL_law_344 (by decide) ?_
  refine l_iadd C dL_law_345 ?_
  refine l_sld C (j := i + 2) (nI_add i 2) (by omega) hL dL_law_346 ?_
  refine l_callXi C [.int (xs (i + 1)), .int (xs (i + 2))] (cX11_chain_ct l D cy aX (xs (i + 1)) (xs (i + 2)) u _ hX) ml_L_41 ⟨Nat.le_of_ble_eq_true rfl, Nat.le_of_ble_eq_true rfl⟩ ⟨rfl, rfl⟩ rfl rfl (Nat.le_of_ble_eq_true rfl) hKS dL_law_347 ?_
  refine l_aload_n C 2 dL_law_350 rfl rfl ?_
  refine l_aload_n C 0 dL_law_351 rfl rfl ?_
  refine l_iload_n C 3 dL_law_352 rfl rfl ?_
  refine l_iconst C (x := 1) dL_law_353 (by decide) ?_
  refine l_iadd C dL_law_354 ?_
  refine l_sld C (j := i + 1) (nI_add i 1) (by omega) hL dL_law_355 ?_
  refine l_aload_n C 0 dL_law_356 rfl rfl ?_
  refine l_iload_n C 3 dL_law_357 rfl rfl ?_
  refine l_iconst C (x := 2) dL_law_358 (by decide) ?_
  refine l_iadd C dL_law_359 ?_
  refine l_sld C (j := i + 2) (nI_add i 2) (by omega) hL dL_law_360 ?_
  refine l_callMi C [.int (xs (i + 1)), .int (xs (i + 2))] (cX12_chain_ct l D cy aM (xs (i + 1)) (xs (i + 2)) v _ hM) ml_L_45 ⟨Nat.le_of_ble_eq_true rfl, Nat.le_of_ble_eq_true rfl⟩ ⟨rfl, rfl⟩ rfl rfl (Nat.le_of_ble_eq_true rfl) hKS dL_law_361 ?_
  refine l_icmp_eq C 1248 dL_law_364 (by decide) (fun _ => ?_) (fun z => absurd rfl z)
  exact hnext _ _ hR2
/-- what is to be shown of law -/
def sp_law (R : Mem → Mem → Prop) : Prop := ∀ (u v : Mem) (a1 : Int32) (a2 : Int32) (a3 : Bool), R u v → ∃ (r : Int32), fX11_law a1 a2 a3 u = some r ∧ fX12_law a1 a2 a3 v = some r ∧ R u v
set_option maxHeartbeats 4000000 in
set_option maxRecDepth 100000 in
theorem lc_7 {D : va_G} {cy : Nat → ClassId} {aX aM : Nat → Nat} {K0 S0 : Nat} {p : Program} {l : Launch} {e : Env} {s : State} {m : MethodId} {below : List Frame} {meth : Method} {c : Code} {b L : Nat} {xs : Nat → Int32} (C : CL D cy aX aM p s m c b L xs) (hL : L ≤ 3072) (hKS : K0 ≤ 600000 ∧ S0 ≤ 7302250) {R : Mem → Mem → Prop} (hs : sp_law R) {i : Nat} (hi : i + 6 ≤ L) {u v : Mem} (hR : R u v) (hnext : ∀ u v, R u v → VL D cy aX aM K0 S0 p l e s m below meth c b (1248) ([(0, .ref b), (1, .ref (aX 180)), (2, .ref (aM 0)), (3, .int (nI i))]) ([]) (u) (v)) : VL D cy aX aM K0 S0 p l e s m below meth c b (369) ([(0, .ref b), (1, .ref (aX 180)), (2, .ref (aM 0)), (3, .int (nI i))]) ([]) (u) (v) := by
  obtain ⟨r, hX, hM, hR2⟩ := hs u v (xs (i + 1)) (xs (i + 2)) (decide ((xs (i + 3)) ≠ 0)) hR
  refine l_aload_n C 1 dL_law_369 rfl rfl ?_
  refine l_aload_n C 0 dL_law_370 rfl rfl ?_
  refine l_iload_n C 3 dL_law_371 rfl rfl ?_
  refine l_iconst C (x := 1) dL_law_372 (by decide) ?_
  refine l_iadd C dL_law_373 ?_
  refine l_sld C (j := i + 1) (nI_add i 1) (by omega) hL dL_law_374 ?_
  refine l_aload_n C 0 dL_law_375 rfl rfl ?_
  refine l_iload_n C 3 dL_law_376 rfl rfl ?_
  refine l_iconst C (x := 2) dL_law_377 (by decide) ?_
  refine l_iadd C dL_law_378 ?_
  refine l_sld C (j := i + 2) (nI_add i 2) (by omega) hL dL_law_379 ?_
  refine l_aload_n C 0 dL_law_380 rfl rfl ?_
  refine l_iload_n C 3 dL_law_381 rfl rfl ?_
  refine l_iconst C (x := 3) dL_law_382 (by decide) ?_
  refine l_iadd C dL_law_383 ?_
  refine l_sld C (j := i + 3) (nI_add i 3) (by omega) hL dL_law_384 ?_
  refine l_dia 393 (.int (bz (decide ((xs (i + 3)) ≠ 0)))) [.int (xs (i + 2)), .int (xs (i + 1)), .ref (aX 180)] ?_ (fun hj => ?_)
  · refine l_callXi C [.int (xs (i + 1)), .int (xs (i + 2)), .int (bz (decide ((xs (i + 3)) ≠ 0)))] (cX11_law_ct l D cy aX (xs (i + 1)) (xs (i + 2)) (decide ((xs (i + 3)) ≠ 0)) u _ hX) ml_L_46 ⟨Nat.le_of_ble_eq_true rfl, Nat.le_of_ble_eq_true rfl⟩ ⟨rfl, rfl⟩ rfl rfl (Nat.le_of_ble_eq_true rfl) hKS dL_law_393 ?_
    refine l_aload_n C 2 dL_law_396 rfl rfl ?_
    refine l_aload_n C 0 dL_law_397 rfl rfl ?_
    refine l_iload_n C 3 dL_law_398 rfl rfl ?_
    refine l_iconst C (x := 1) dL_law_399 (by decide) ?_
    refine l_iadd C dL_law_400 ?_
    refine l_sld C (j := i + 1) (nI_add i 1) (by omega) hL dL_law_401 ?_
    refine l_aload_n C 0 dL_law_402 rfl rfl ?_
    refine l_iload_n C 3 dL_law_403 rfl rfl ?_
    refine l_iconst C (x := 2) dL_law_404 (by decide) ?_
    refine l_iadd C dL_law_405 ?_
    refine l_sld C (j := i + 2) (nI_add i 2) (by omega) hL dL_law_406 ?_
    refine l_aload_n C 0 dL_law_407 rfl rfl ?_
    refine l_iload_n C 3 dL_law_408 rfl rfl ?_
    refine l_iconst C (x := 3) dL_law_409 (by decide) ?_
    refine l_iadd C dL_law_410 ?_
    refine l_sld C (j := i + 3) (nI_add i 3) (by omega) hL dL_law_411 ?_
    refine l_dia 420 (.int (bz (decide ((xs (i + 3)) ≠ 0)))) [.int (xs (i + 2)), .int (xs (i + 1)), .ref (aM 0), .int r] ?_ (fun hj => ?_)
    · refine l_callMi C [.int (xs (i + 1)), .int (xs (i + 2)), .int (bz (decide ((xs (i + 3)) ≠ 0)))] (cX12_law_ct l D cy aM (xs (i + 1)) (xs (i + 2)) (decide ((xs (i + 3)) ≠ 0)) v _ hM) ml_L_50 ⟨Nat.le_of_ble_eq_true rfl, Nat.le_of_ble_eq_true rfl⟩ ⟨rfl, rfl⟩ rfl rfl (Nat.le_of_ble_eq_true rfl) hKS dL_law_420 ?_
      refine l_icmp_eq C 1248 dL_law_423 (by decide) (fun _ => ?_) (fun z => absurd rfl z)
      exact hnext _ _ hR2
    · refine l_if_eq C 419 dL_law_412 (by decide) (fun z => ?_) (fun z => ?_)
      · refine l_iconst C (x := 0) dL_law_419 (by decide) ?_
        exact l_top (by rw [decide_eq_false (fun q => q z)]; rfl) hj
      · refine l_iconst C (x := 1) dL_law_415 (by decide) ?_
        refine l_goto C 420 dL_law_416 (by decide) ?_
        exact l_top (by rw [decide_eq_true z]; rfl) hj
  · refine l_if_eq C 392 dL_law_385 (by decide) (fun z => ?_) (fun z => ?_)
    · refine l_iconst C (x := 0) dL_law_392 (by decide) ?_
      exact l_top (by rw [decide_eq_false (fun q => q z)]; rfl) hj
    · refine l_iconst C (x := 1) dL_law_388 (by decide) ?_
      refine l_goto C 393 dL_law_389 (by decide) ?_
      exact l_top (by rw [decide_eq_true z]; rfl) hj
/-- what is to be shown of shell -/
def sp_shell (R : Mem → Mem → Prop) : Prop := ∀ (u v : Mem) (a1 : Int32), R u v → ∃ (r : Int32) (u2 : Mem) (v2 : Mem), fX11_shell a1 u = some (r, u2) ∧ fX12_shell a1 v = some (r, v2) ∧ R u2 v2
set_option maxHeartbeats 4000000 in
set_option maxRecDepth 100000 in
theorem lc_8 {D : va_G} {cy : Nat → ClassId} {aX aM : Nat → Nat} {K0 S0 : Nat} {p : Program} {l : Launch} {e : Env} {s : State} {m : MethodId} {below : List Frame} {meth : Method} {c : Code} {b L : Nat} {xs : Nat → Int32} (C : CL D cy aX aM p s m c b L xs) (hL : L ≤ 3072) (hKS : K0 ≤ 600000 ∧ S0 ≤ 7302250) {R : Mem → Mem → Prop} (hs : sp_shell R) {i : Nat} (hi : i + 6 ≤ L) {u v : Mem} (hR : R u v) (hnext : ∀ u v, R u v → VL D cy aX aM K0 S0 p l e s m below meth c b (1248) ([(0, .ref b), (1, .ref (aX 180)), (2, .ref (aM 0)), (3, .int (nI i))]) ([]) (u) (v)) : VL D cy aX aM K0 S0 p l e s m below meth c b (428) ([(0, .ref b), (1, .ref (aX 180)), (2, .ref (aM 0)), (3, .int (nI i))]) ([]) (u) (v) := by
  obtain ⟨r, u2, v2, hX, hM, hR2⟩ := hs u v (xs (i + 1)) hR
  refine l_aload_n C 1 dL_law_428 rfl rfl ?_
  refine l_aload_n C 0 dL_law_429 rfl rfl ?_
  refine l_iload_n C 3 dL_law_430 rfl rfl ?_
  refine l_iconst C (x := 1) dL_law_431 (by decide) ?_
  refine l_iadd C dL_law_432 ?_
  refine l_sld C (j := i + 1) (nI_add i 1) (by omega) hL dL_law_433 ?_
  refine l_callXi C [.int (xs (i + 1))] (cX11_shell_ct l D cy aX (xs (i + 1)) u _ hX) ml_L_51 ⟨Nat.le_of_ble_eq_true rfl, Nat.le_of_ble_eq_true rfl⟩ ⟨rfl, rfl⟩ rfl rfl (Nat.le_of_ble_eq_true rfl) hKS dL_law_434 ?_
  refine l_aload_n C 2 dL_law_437 rfl rfl ?_
  refine l_aload_n C 0 dL_law_438 rfl rfl ?_
  refine l_iload_n C 3 dL_law_439 rfl rfl ?_
  refine l_iconst C (x := 1) dL_law_440 (by decide) ?_
  refine l_iadd C dL_law_441 ?_
  refine l_sld C (j := i + 1) (nI_add i 1) (by omega) hL dL_law_442 ?_
  refine l_callMi C [.int (xs (i + 1))] (cX12_shell_ct l D cy aM (xs (i + 1)) v _ hM) ml_L_54 ⟨Nat.le_of_ble_eq_true rfl, Nat.le_of_ble_eq_true rfl⟩ ⟨rfl, rfl⟩ rfl rfl (Nat.le_of_ble_eq_true rfl) hKS dL_law_443 ?_
  refine l_icmp_eq C 1248 dL_law_446 (by decide) (fun _ => ?_) (fun z => absurd rfl z)
  exact hnext _ _ hR2
/-- what is to be shown of fill -/
def sp_fill (R : Mem → Mem → Prop) : Prop := ∀ (u v : Mem) (a1 : Int32) (a2 : Int32) (a3 : Int32) (a4 : Int32), R u v → ∃ (r : Bool) (u2 : Mem) (v2 : Mem), fX11_fill a1 a2 a3 a4 u = some (r, u2) ∧ fX12_fill a1 a2 a3 a4 v = some (r, v2) ∧ R u2 v2
set_option maxHeartbeats 4000000 in
set_option maxRecDepth 100000 in
theorem lc_9 {D : va_G} {cy : Nat → ClassId} {aX aM : Nat → Nat} {K0 S0 : Nat} {p : Program} {l : Launch} {e : Env} {s : State} {m : MethodId} {below : List Frame} {meth : Method} {c : Code} {b L : Nat} {xs : Nat → Int32} (C : CL D cy aX aM p s m c b L xs) (hL : L ≤ 3072) (hKS : K0 ≤ 600000 ∧ S0 ≤ 7302250) {R : Mem → Mem → Prop} (hs : sp_fill R) {i : Nat} (hi : i + 6 ≤ L) {u v : Mem} (hR : R u v) (hnext : ∀ u v, R u v → VL D cy aX aM K0 S0 p l e s m below meth c b (1248) ([(0, .ref b), (1, .ref (aX 180)), (2, .ref (aM 0)), (3, .int (nI i))]) ([]) (u) (v)) : VL D cy aX aM K0 S0 p l e s m below meth c b (451) ([(0, .ref b), (1, .ref (aX 180)), (2, .ref (aM 0)), (3, .int (nI i))]) ([]) (u) (v) := by
  obtain ⟨r, u2, v2, hX, hM, hR2⟩ := hs u v (xs (i + 1)) (xs (i + 2)) (xs (i + 3)) (xs (i + 4)) hR
  refine l_aload_n C 1 dL_law_451 rfl rfl ?_
  refine l_aload_n C 0 dL_law_452 rfl rfl ?_
  refine l_iload_n C 3 dL_law_453 rfl rfl ?_
  refine l_iconst C (x := 1) dL_law_454 (by decide) ?_
  refine l_iadd C dL_law_455 ?_
  refine l_sld C (j := i + 1) (nI_add i 1) (by omega) hL dL_law_456 ?_
  refine l_aload_n C 0 dL_law_457 rfl rfl ?_
  refine l_iload_n C 3 dL_law_458 rfl rfl ?_
  refine l_iconst C (x := 2) dL_law_459 (by decide) ?_
  refine l_iadd C dL_law_460 ?_
  refine l_sld C (j := i + 2) (nI_add i 2) (by omega) hL dL_law_461 ?_
  refine l_aload_n C 0 dL_law_462 rfl rfl ?_
  refine l_iload_n C 3 dL_law_463 rfl rfl ?_
  refine l_iconst C (x := 3) dL_law_464 (by decide) ?_
  refine l_iadd C dL_law_465 ?_
  refine l_sld C (j := i + 3) (nI_add i 3) (by omega) hL dL_law_466 ?_
  refine l_aload_n C 0 dL_law_467 rfl rfl ?_
  refine l_iload_n C 3 dL_law_468 rfl rfl ?_
  refine l_iconst C (x := 4) dL_law_469 (by decide) ?_
  refine l_iadd C dL_law_470 ?_
  refine l_sld C (j := i + 4) (nI_add i 4) (by omega) hL dL_law_471 ?_
  refine l_callXi C [.int (xs (i + 1)), .int (xs (i + 2)), .int (xs (i + 3)), .int (xs (i + 4))] (cX11_fill_ct l D cy aX (xs (i + 1)) (xs (i + 2)) (xs (i + 3)) (xs (i + 4)) u _ hX) ml_L_55 ⟨Nat.le_of_ble_eq_true rfl, Nat.le_of_ble_eq_true rfl⟩ ⟨rfl, rfl⟩ rfl rfl (Nat.le_of_ble_eq_true rfl) hKS dL_law_472 ?_
  refine l_aload_n C 2 dL_law_475 rfl rfl ?_
  refine l_aload_n C 0 dL_law_476 rfl rfl ?_
  refine l_iload_n C 3 dL_law_477 rfl rfl ?_
  refine l_iconst C (x := 1) dL_law_478 (by decide) ?_
  refine l_iadd C dL_law_479 ?_
  refine l_sld C (j := i + 1) (nI_add i 1) (by omega) hL dL_law_480 ?_
  refine l_aload_n C 0 dL_law_481 rfl rfl ?_
  refine l_iload_n C 3 dL_law_482 rfl rfl ?_
  refine l_iconst C (x := 2) dL_law_483 (by decide) ?_
  refine l_iadd C dL_law_484 ?_
  refine l_sld C (j := i + 2) (nI_add i 2) (by omega) hL dL_law_485 ?_
  refine l_aload_n C 0 dL_law_486 rfl rfl ?_
  refine l_iload_n C 3 dL_law_487 rfl rfl ?_
  refine l_iconst C (x := 3) dL_law_488 (by decide) ?_
  refine l_iadd C dL_law_489 ?_
  refine l_sld C (j := i + 3) (nI_add i 3) (by omega) hL dL_law_490 ?_
  refine l_aload_n C 0 dL_law_491 rfl rfl ?_
  refine l_iload_n C 3 dL_law_492 rfl rfl ?_
  refine l_iconst C (x := 4) dL_law_493 (by decide) ?_
  refine l_iadd C dL_law_494 ?_
  refine l_sld C (j := i + 4) (nI_add i 4) (by omega) hL dL_law_495 ?_
  refine l_callMi C [.int (xs (i + 1)), .int (xs (i + 2)), .int (xs (i + 3)), .int (xs (i + 4))] (cX12_fill_ct l D cy aM (xs (i + 1)) (xs (i + 2)) (xs (i + 3)) (xs (i + 4)) v _ hM) ml_L_59 ⟨Nat.le_of_ble_eq_true rfl, Nat.le_of_ble_eq_true rfl⟩ ⟨rfl, rfl⟩ rfl rfl (Nat.le_of_ble_eq_true rfl) hKS dL_law_496 ?_
  refine l_icmp_eq C 1248 dL_law_499 (by decide) (fun _ => ?_) (fun z => absurd rfl z)
  exact hnext _ _ hR2
/-- what is to be shown of parts -/
def sp_parts (R : Mem → Mem → Prop) : Prop := ∀ (u v : Mem) (a1 : Int32) (a2 : Int32) (a3 : Int32), R u v → ∃ (r : Int32), fX11_parts a1 a2 a3 u = some r ∧ fX12_parts a1 a2 a3 v = some r ∧ R u v
set_option maxHeartbeats 4000000 in
set_option maxRecDepth 100000 in
theorem lc_10 {D : va_G} {cy : Nat → ClassId} {aX aM : Nat → Nat} {K0 S0 : Nat} {p : Program} {l : Launch} {e : Env} {s : State} {m : MethodId} {below : List Frame} {meth : Method} {c : Code} {b L : Nat} {xs : Nat → Int32} (C : CL D cy aX aM p s m c b L xs) (hL : L ≤ 3072) (hKS : K0 ≤ 600000 ∧ S0 ≤ 7302250) {R : Mem → Mem → Prop} (hs : sp_parts R) {i : Nat} (hi : i + 6 ≤ L) {u v : Mem} (hR : R u v) (hnext : ∀ u v, R u v → VL D cy aX aM K0 S0 p l e s m below meth c b (1248) ([(0, .ref b), (1, .ref (aX 180)), (2, .ref (aM 0)), (3, .int (nI i))]) ([]) (u) (v)) : VL D cy aX aM K0 S0 p l e s m below meth c b (504) ([(0, .ref b), (1, .ref (aX 180)), (2, .ref (aM 0)), (3, .int (nI i))]) ([]) (u) (v) := by
  obtain ⟨r, hX, hM, hR2⟩ := hs u v (xs (i + 1)) (xs (i + 2)) (xs (i + 3)) hR
  refine l_aload_n C 1 dL_law_504 rfl rfl ?_
  refine l_aload_n C 0 dL_law_505 rfl rfl ?_
  refine l_iload_n C 3 dL_law_506 rfl rfl ?_
  refine l_iconst C (x := 1) dL_law_507 (by decide) ?_
  refine l_iadd C dL_law_508 ?_
  refine l_sld C (j := i + 1) (nI_add i 1) (by omega) hL dL_law_509 ?_
  refine l_aload_n C 0 dL_law_510 rfl rfl ?_
  refine l_iload_n C 3 dL_law_511 rfl rfl ?_
  refine l_iconst C (x := 2) dL_law_512 (by decide) ?_
  refine l_iadd C dL_law_513 ?_
  refine l_sld C (j := i + 2) (nI_add i 2) (by omega) hL dL_law_514 ?_
  refine l_aload_n C 0 dL_law_515 rfl rfl ?_
  refine l_iload_n C 3 dL_law_516 rfl rfl ?_
  refine l_iconst C (x := 3) dL_law_517 (by decide) ?_
  refine l_iadd C dL_law_518 ?_
  refine l_sld C (j := i + 3) (nI_add i 3) (by omega) hL dL_law_519 ?_
  refine l_callXi C [.int (xs (i + 1)), .int (xs (i + 2)), .int (xs (i + 3))] (cX11_parts_ct l D cy aX (xs (i + 1)) (xs (i + 2)) (xs (i + 3)) u _ hX) ml_L_60 ⟨Nat.le_of_ble_eq_true rfl, Nat.le_of_ble_eq_true rfl⟩ ⟨rfl, rfl⟩ rfl rfl (Nat.le_of_ble_eq_true rfl) hKS dL_law_520 ?_
  refine l_aload_n C 2 dL_law_523 rfl rfl ?_
  refine l_aload_n C 0 dL_law_524 rfl rfl ?_
  refine l_iload_n C 3 dL_law_525 rfl rfl ?_
  refine l_iconst C (x := 1) dL_law_526 (by decide) ?_
  refine l_iadd C dL_law_527 ?_
  refine l_sld C (j := i + 1) (nI_add i 1) (by omega) hL dL_law_528 ?_
  refine l_aload_n C 0 dL_law_529 rfl rfl ?_
  refine l_iload_n C 3 dL_law_530 rfl rfl ?_
  refine l_iconst C (x := 2) dL_law_531 (by decide) ?_
  refine l_iadd C dL_law_532 ?_
  refine l_sld C (j := i + 2) (nI_add i 2) (by omega) hL dL_law_533 ?_
  refine l_aload_n C 0 dL_law_534 rfl rfl ?_
  refine l_iload_n C 3 dL_law_535 rfl rfl ?_
  refine l_iconst C (x := 3) dL_law_536 (by decide) ?_
  refine l_iadd C dL_law_537 ?_
  refine l_sld C (j := i + 3) (nI_add i 3) (by omega) hL dL_law_538 ?_
  refine l_callMi C [.int (xs (i + 1)), .int (xs (i + 2)), .int (xs (i + 3))] (cX12_parts_ct l D cy aM (xs (i + 1)) (xs (i + 2)) (xs (i + 3)) v _ hM) ml_L_64 ⟨Nat.le_of_ble_eq_true rfl, Nat.le_of_ble_eq_true rfl⟩ ⟨rfl, rfl⟩ rfl rfl (Nat.le_of_ble_eq_true rfl) hKS dL_law_539 ?_
  refine l_icmp_eq C 1248 dL_law_542 (by decide) (fun _ => ?_) (fun z => absurd rfl z)
  exact hnext _ _ hR2
/-- what is to be shown of rules -/
def sp_rules (R : Mem → Mem → Prop) : Prop := ∀ (u v : Mem) (a1 : Int32) (a2 : Int32) (a3 : Int32), R u v → ∃ (r : Bool) (u2 : Mem) (v2 : Mem), fX11_rules a1 a2 a3 u = some (r, u2) ∧ fX12_rules a1 a2 a3 v = some (r, v2) ∧ R u2 v2
set_option maxHeartbeats 4000000 in
set_option maxRecDepth 100000 in
theorem lc_11 {D : va_G} {cy : Nat → ClassId} {aX aM : Nat → Nat} {K0 S0 : Nat} {p : Program} {l : Launch} {e : Env} {s : State} {m : MethodId} {below : List Frame} {meth : Method} {c : Code} {b L : Nat} {xs : Nat → Int32} (C : CL D cy aX aM p s m c b L xs) (hL : L ≤ 3072) (hKS : K0 ≤ 600000 ∧ S0 ≤ 7302250) {R : Mem → Mem → Prop} (hs : sp_rules R) {i : Nat} (hi : i + 6 ≤ L) {u v : Mem} (hR : R u v) (hnext : ∀ u v, R u v → VL D cy aX aM K0 S0 p l e s m below meth c b (1248) ([(0, .ref b), (1, .ref (aX 180)), (2, .ref (aM 0)), (3, .int (nI i))]) ([]) (u) (v)) : VL D cy aX aM K0 S0 p l e s m below meth c b (547) ([(0, .ref b), (1, .ref (aX 180)), (2, .ref (aM 0)), (3, .int (nI i))]) ([]) (u) (v) := by
  obtain ⟨r, u2, v2, hX, hM, hR2⟩ := hs u v (xs (i + 1)) (xs (i + 2)) (xs (i + 3)) hR
  refine l_aload_n C 1 dL_law_547 rfl rfl ?_
  refine l_aload_n C 0 dL_law_548 rfl rfl ?_
  refine l_iload_n C 3 dL_law_549 rfl rfl ?_
  refine l_iconst C (x := 1) dL_law_550 (by decide) ?_
  refine l_iadd C dL_law_551 ?_
  refine l_sld C (j := i + 1) (nI_add i 1) (by omega) hL dL_law_552 ?_
  refine l_aload_n C 0 dL_law_553 rfl rfl ?_
  refine l_iload_n C 3 dL_law_554 rfl rfl ?_
  refine l_iconst C (x := 2) dL_law_555 (by decide) ?_
  refine l_iadd C dL_law_556 ?_
  refine l_sld C (j := i + 2) (nI_add i 2) (by omega) hL dL_law_557 ?_
  refine l_aload_n C 0 dL_law_558 rfl rfl ?_
  refine l_iload_n C 3 dL_law_559 rfl rfl ?_
  refine l_iconst C (x := 3) dL_law_560 (by decide) ?_
  refine l_iadd C dL_law_561 ?_
  refine l_sld C (j := i + 3) (nI_add i 3) (by omega) hL dL_law_562 ?_
  refine l_callXi C [.int (xs (i + 1)), .int (xs (i + 2)), .int (xs (i + 3))] (cX11_rules_ct l D cy aX (xs (i + 1)) (xs (i + 2)) (xs (i + 3)) u _ hX) ml_L_65 ⟨Nat.le_of_ble_eq_true rfl, Nat.le_of_ble_eq_true rfl⟩ ⟨rfl, rfl⟩ rfl rfl (Nat.le_of_ble_eq_true rfl) hKS dL_law_563 ?_
  refine l_aload_n C 2 dL_law_566 rfl rfl ?_
  refine l_aload_n C 0 dL_law_567 rfl rfl ?_
  refine l_iload_n C 3 dL_law_568 rfl rfl ?_
  refine l_iconst C (x := 1) dL_law_569 (by decide) ?_
  refine l_iadd C dL_law_570 ?_
  refine l_sld C (j := i + 1) (nI_add i 1) (by omega) hL dL_law_571 ?_
  refine l_aload_n C 0 dL_law_572 rfl rfl ?_
  refine l_iload_n C 3 dL_law_573 rfl rfl ?_
  refine l_iconst C (x := 2) dL_law_574 (by decide) ?_
  refine l_iadd C dL_law_575 ?_
  refine l_sld C (j := i + 2) (nI_add i 2) (by omega) hL dL_law_576 ?_
  refine l_aload_n C 0 dL_law_577 rfl rfl ?_
  refine l_iload_n C 3 dL_law_578 rfl rfl ?_
  refine l_iconst C (x := 3) dL_law_579 (by decide) ?_
  refine l_iadd C dL_law_580 ?_
  refine l_sld C (j := i + 3) (nI_add i 3) (by omega) hL dL_law_581 ?_
  refine l_callMi C [.int (xs (i + 1)), .int (xs (i + 2)), .int (xs (i + 3))] (cX12_rules_ct l D cy aM (xs (i + 1)) (xs (i + 2)) (xs (i + 3)) v _ hM) ml_L_69 ⟨Nat.le_of_ble_eq_true rfl, Nat.le_of_ble_eq_true rfl⟩ ⟨rfl, rfl⟩ rfl rfl (Nat.le_of_ble_eq_true rfl) hKS dL_law_582 ?_
  refine l_icmp_eq C 1248 dL_law_585 (by decide) (fun _ => ?_) (fun z => absurd rfl z)
  exact hnext _ _ hR2
/-- what is to be shown of of -/
def sp_of (R : Mem → Mem → Prop) : Prop := ∀ (u v : Mem) (a1 : Int32) (a2 : Int32) (a3 : Int32), R u v → ∃ (r : Int32) (u2 : Mem) (v2 : Mem), fX11_of a1 a2 a3 u = some (r, u2) ∧ fX12_of a1 a2 a3 v = some (r, v2) ∧ R u2 v2
set_option maxHeartbeats 4000000 in
set_option maxRecDepth 100000 in
theorem lc_12 {D : va_G} {cy : Nat → ClassId} {aX aM : Nat → Nat} {K0 S0 : Nat} {p : Program} {l : Launch} {e : Env} {s : State} {m : MethodId} {below : List Frame} {meth : Method} {c : Code} {b L : Nat} {xs : Nat → Int32} (C : CL D cy aX aM p s m c b L xs) (hL : L ≤ 3072) (hKS : K0 ≤ 600000 ∧ S0 ≤ 7302250) {R : Mem → Mem → Prop} (hs : sp_of R) {i : Nat} (hi : i + 6 ≤ L) {u v : Mem} (hR : R u v) (hnext : ∀ u v, R u v → VL D cy aX aM K0 S0 p l e s m below meth c b (1248) ([(0, .ref b), (1, .ref (aX 180)), (2, .ref (aM 0)), (3, .int (nI i))]) ([]) (u) (v)) : VL D cy aX aM K0 S0 p l e s m below meth c b (590) ([(0, .ref b), (1, .ref (aX 180)), (2, .ref (aM 0)), (3, .int (nI i))]) ([]) (u) (v) := by
  obtain ⟨r, u2, v2, hX, hM, hR2⟩ := hs u v (xs (i + 1)) (xs (i + 2)) (xs (i + 3)) hR
  refine l_aload_n C 1 dL_law_590 rfl rfl ?_
  refine l_aload_n C 0 dL_law_591 rfl rfl ?_
  refine l_iload_n C 3 dL_law_592 rfl rfl ?_
  refine l_iconst C (x := 1) dL_law_593 (by decide) ?_
  refine l_iadd C dL_law_594 ?_
  refine l_sld C (j := i + 1) (nI_add i 1) (by omega) hL dL_law_595 ?_
  refine l_aload_n C 0 dL_law_596 rfl rfl ?_
  refine l_iload_n C 3 dL_law_597 rfl rfl ?_
  refine l_iconst C (x := 2) dL_law_598 (by decide) ?_
  refine l_iadd C dL_law_599 ?_
  refine l_sld C (j := i + 2) (nI_add i 2) (by omega) hL dL_law_600 ?_
  refine l_aload_n C 0 dL_law_601 rfl rfl ?_
  refine l_iload_n C 3 dL_law_602 rfl rfl ?_
  refine l_iconst C (x := 3) dL_law_603 (by decide) ?_
  refine l_iadd C dL_law_604 ?_
  refine l_sld C (j := i + 3) (nI_add i 3) (by omega) hL dL_law_605 ?_
  refine l_callXi C [.int (xs (i + 1)), .int (xs (i + 2)), .int (xs (i + 3))] (cX11_of_ct l D cy aX (xs (i + 1)) (xs (i + 2)) (xs (i + 3)) u _ hX) ml_L_70 ⟨Nat.le_of_ble_eq_true rfl, Nat.le_of_ble_eq_true rfl⟩ ⟨rfl, rfl⟩ rfl rfl (Nat.le_of_ble_eq_true rfl) hKS dL_law_606 ?_
  refine l_aload_n C 2 dL_law_609 rfl rfl ?_
  refine l_aload_n C 0 dL_law_610 rfl rfl ?_
  refine l_iload_n C 3 dL_law_611 rfl rfl ?_
  refine l_iconst C (x := 1) dL_law_612 (by decide) ?_
  refine l_iadd C dL_law_613 ?_
  refine l_sld C (j := i + 1) (nI_add i 1) (by omega) hL dL_law_614 ?_
  refine l_aload_n C 0 dL_law_615 rfl rfl ?_
  refine l_iload_n C 3 dL_law_616 rfl rfl ?_
  refine l_iconst C (x := 2) dL_law_617 (by decide) ?_
  refine l_iadd C dL_law_618 ?_
  refine l_sld C (j := i + 2) (nI_add i 2) (by omega) hL dL_law_619 ?_
  refine l_aload_n C 0 dL_law_620 rfl rfl ?_
  refine l_iload_n C 3 dL_law_621 rfl rfl ?_
  refine l_iconst C (x := 3) dL_law_622 (by decide) ?_
  refine l_iadd C dL_law_623 ?_
  refine l_sld C (j := i + 3) (nI_add i 3) (by omega) hL dL_law_624 ?_
  refine l_callMi C [.int (xs (i + 1)), .int (xs (i + 2)), .int (xs (i + 3))] (cX12_of_ct l D cy aM (xs (i + 1)) (xs (i + 2)) (xs (i + 3)) v _ hM) ml_L_73 ⟨Nat.le_of_ble_eq_true rfl, Nat.le_of_ble_eq_true rfl⟩ ⟨rfl, rfl⟩ rfl rfl (Nat.le_of_ble_eq_true rfl) hKS dL_law_625 ?_
  refine l_icmp_eq C 1248 dL_law_628 (by decide) (fun _ => ?_) (fun z => absurd rfl z)
  exact hnext _ _ hR2
/-- what is to be shown of box -/
def sp_box (R : Mem → Mem → Prop) : Prop := ∀ (u v : Mem) (a1 : Int32) (a2 : Int32) (a3 : Int32) (a4 : Bool), R u v → ∃ (r : Int32) (u2 : Mem) (v2 : Mem), fX11_box a1 a2 a3 a4 u = some (r, u2) ∧ fX12_box a1 a2 a3 a4 v = some (r, v2) ∧ R u2 v2
set_option maxHeartbeats 4000000 in
set_option maxRecDepth 100000 in
theorem lc_13 {D : va_G} {cy : Nat → ClassId} {aX aM : Nat → Nat} {K0 S0 : Nat} {p : Program} {l : Launch} {e : Env} {s : State} {m : MethodId} {below : List Frame} {meth : Method} {c : Code} {b L : Nat} {xs : Nat → Int32} (C : CL D cy aX aM p s m c b L xs) (hL : L ≤ 3072) (hKS : K0 ≤ 600000 ∧ S0 ≤ 7302250) {R : Mem → Mem → Prop} (hs : sp_box R) {i : Nat} (hi : i + 6 ≤ L) {u v : Mem} (hR : R u v) (hnext : ∀ u v, R u v → VL D cy aX aM K0 S0 p l e s m below meth c b (1248) ([(0, .ref b), (1, .ref (aX 180)), (2, .ref (aM 0)), (3, .int (nI i))]) ([]) (u) (v)) : VL D cy aX aM K0 S0 p l e s m below meth c b (633) ([(0, .ref b), (1, .ref (aX 180)), (2, .ref (aM 0)), (3, .int (nI i))]) ([]) (u) (v) := by
  obtain ⟨r, u2, v2, hX, hM, hR2⟩ := hs u v (xs (i + 1)) (xs (i + 2)) (xs (i + 3)) (decide ((xs (i + 4)) ≠ 0)) hR
  refine l_aload_n C 1 dL_law_633 rfl rfl ?_
  refine l_aload_n C 0 dL_law_634 rfl rfl ?_
  refine l_iload_n C 3 dL_law_635 rfl rfl ?_
  refine l_iconst C (x := 1) dL_law_636 (by decide) ?_
  refine l_iadd C dL_law_637 ?_
  refine l_sld C (j := i + 1) (nI_add i 1) (by omega) hL dL_law_638 ?_
  refine l_aload_n C 0 dL_law_639 rfl rfl ?_
  refine l_iload_n C 3 dL_law_640 rfl rfl ?_
  refine l_iconst C (x := 2) dL_law_641 (by decide) ?_
  refine l_iadd C dL_law_642 ?_
  refine l_sld C (j := i + 2) (nI_add i 2) (by omega) hL dL_law_643 ?_
  refine l_aload_n C 0 dL_law_644 rfl rfl ?_
  refine l_iload_n C 3 dL_law_645 rfl rfl ?_
  refine l_iconst C (x := 3) dL_law_646 (by decide) ?_
  refine l_iadd C dL_law_647 ?_
  refine l_sld C (j := i + 3) (nI_add i 3) (by omega) hL dL_law_648 ?_
  refine l_aload_n C 0 dL_law_649 rfl rfl ?_
  refine l_iload_n C 3 dL_law_650 rfl rfl ?_
  refine l_iconst C (x := 4) dL_law_651 (by decide) ?_
  refine l_iadd C dL_law_652 ?_
  refine l_sld C (j := i + 4) (nI_add i 4) (by omega) hL dL_law_653 ?_
  refine l_dia 662 (.int (bz (decide ((xs (i + 4)) ≠ 0)))) [.int (xs (i + 3)), .int (xs (i + 2)), .int (xs (i + 1)), .ref (aX 180)] ?_ (fun hj => ?_)
  · refine l_callXi C [.int (xs (i + 1)), .int (xs (i + 2)), .int (xs (i + 3)), .int (bz (decide ((xs (i + 4)) ≠ 0)))] (cX11_box_ct l D cy aX (xs (i + 1)) (xs (i + 2)) (xs (i + 3)) (decide ((xs (i + 4)) ≠ 0)) u _ hX) ml_L_74 ⟨Nat.le_of_ble_eq_true rfl, Nat.le_of_ble_eq_true rfl⟩ ⟨rfl, rfl⟩ rfl rfl (Nat.le_of_ble_eq_true rfl) hKS dL_law_662 ?_
    refine l_aload_n C 2 dL_law_665 rfl rfl ?_
    refine l_aload_n C 0 dL_law_666 rfl rfl ?_
    refine l_iload_n C 3 dL_law_667 rfl rfl ?_
    refine l_iconst C (x := 1) dL_law_668 (by decide) ?_
    refine l_iadd C dL_law_669 ?_
    refine l_sld C (j := i + 1) (nI_add i 1) (by omega) hL dL_law_670 ?_
    refine l_aload_n C 0 dL_law_671 rfl rfl ?_
    refine l_iload_n C 3 dL_law_672 rfl rfl ?_
    refine l_iconst C (x := 2) dL_law_673 (by decide) ?_
    refine l_iadd C dL_law_674 ?_
    refine l_sld C (j := i + 2) (nI_add i 2) (by omega) hL dL_law_675 ?_
    refine l_aload_n C 0 dL_law_676 rfl rfl ?_
    refine l_iload_n C 3 dL_law_677 rfl rfl ?_
    refine l_iconst C (x := 3) dL_law_678 (by decide) ?_
    refine l_iadd C dL_law_679 ?_
    refine l_sld C (j := i + 3) (nI_add i 3) (by omega) hL dL_law_680 ?_
    refine l_aload_n C 0 dL_law_681 rfl rfl ?_
    refine l_iload_n C 3 dL_law_682 rfl rfl ?_
    refine l_iconst C (x := 4) dL_law_683 (by decide) ?_
    refine l_iadd C dL_law_684 ?_
    refine l_sld C (j := i + 4) (nI_add i 4) (by omega) hL dL_law_685 ?_
    refine l_dia 694 (.int (bz (decide ((xs (i + 4)) ≠ 0)))) [.int (xs (i + 3)), .int (xs (i + 2)), .int (xs (i + 1)), .ref (aM 0), .int r] ?_ (fun hj => ?_)
    · refine l_callMi C [.int (xs (i + 1)), .int (xs (i + 2)), .int (xs (i + 3)), .int (bz (decide ((xs (i + 4)) ≠ 0)))] (cX12_box_ct l D cy aM (xs (i + 1)) (xs (i + 2)) (xs (i + 3)) (decide ((xs (i + 4)) ≠ 0)) v _ hM) ml_L_78 ⟨Nat.le_of_ble_eq_true rfl, Nat.le_of_ble_eq_true rfl⟩ ⟨rfl, rfl⟩ rfl rfl (Nat.le_of_ble_eq_true rfl) hKS dL_law_694 ?_
      refine l_icmp_eq C 1248 dL_law_697 (by decide) (fun _ => ?_) (fun z => absurd rfl z)
      exact hnext _ _ hR2
    · refine l_if_eq C 693 dL_law_686 (by decide) (fun z => ?_) (fun z => ?_)
      · refine l_iconst C (x := 0) dL_law_693 (by decide) ?_
        exact l_top (by rw [decide_eq_false (fun q => q z)]; rfl) hj
      · refine l_iconst C (x := 1) dL_law_689 (by decide) ?_
        refine l_goto C 694 dL_law_690 (by decide) ?_
        exact l_top (by rw [decide_eq_true z]; rfl) hj
  · refine l_if_eq C 661 dL_law_654 (by decide) (fun z => ?_) (fun z => ?_)
    · refine l_iconst C (x := 0) dL_law_661 (by decide) ?_
      exact l_top (by rw [decide_eq_false (fun q => q z)]; rfl) hj
    · refine l_iconst C (x := 1) dL_law_657 (by decide) ?_
      refine l_goto C 662 dL_law_658 (by decide) ?_
      exact l_top (by rw [decide_eq_true z]; rfl) hj
/-- what is to be shown of through -/
def sp_through (R : Mem → Mem → Prop) : Prop := ∀ (u v : Mem) (a1 : Int32) (a2 : Int32) (a3 : Bool), R u v → ∃ (r : Int64) (u2 : Mem) (v2 : Mem), fX11_through a1 a2 a3 u = some (r, u2) ∧ fX12_through a1 a2 a3 v = some (r, v2) ∧ R u2 v2
set_option maxHeartbeats 4000000 in
set_option maxRecDepth 100000 in
theorem lc_14 {D : va_G} {cy : Nat → ClassId} {aX aM : Nat → Nat} {K0 S0 : Nat} {p : Program} {l : Launch} {e : Env} {s : State} {m : MethodId} {below : List Frame} {meth : Method} {c : Code} {b L : Nat} {xs : Nat → Int32} (C : CL D cy aX aM p s m c b L xs) (hL : L ≤ 3072) (hKS : K0 ≤ 600000 ∧ S0 ≤ 7302250) {R : Mem → Mem → Prop} (hs : sp_through R) {i : Nat} (hi : i + 6 ≤ L) {u v : Mem} (hR : R u v) (hnext : ∀ u v, R u v → VL D cy aX aM K0 S0 p l e s m below meth c b (1248) ([(0, .ref b), (1, .ref (aX 180)), (2, .ref (aM 0)), (3, .int (nI i))]) ([]) (u) (v)) : VL D cy aX aM K0 S0 p l e s m below meth c b (702) ([(0, .ref b), (1, .ref (aX 180)), (2, .ref (aM 0)), (3, .int (nI i))]) ([]) (u) (v) := by
  obtain ⟨r, u2, v2, hX, hM, hR2⟩ := hs u v (xs (i + 1)) (xs (i + 2)) (decide ((xs (i + 3)) ≠ 0)) hR
  refine l_aload_n C 1 dL_law_702 rfl rfl ?_
  refine l_aload_n C 0 dL_law_703 rfl rfl ?_
  refine l_iload_n C 3 dL_law_704 rfl rfl ?_
  refine l_iconst C (x := 1) dL_law_705 (by decide) ?_
  refine l_iadd C dL_law_706 ?_
  refine l_sld C (j := i + 1) (nI_add i 1) (by omega) hL dL_law_707 ?_
  refine l_aload_n C 0 dL_law_708 rfl rfl ?_
  refine l_iload_n C 3 dL_law_709 rfl rfl ?_
  refine l_iconst C (x := 2) dL_law_710 (by decide) ?_
  refine l_iadd C dL_law_711 ?_
  refine l_sld C (j := i + 2) (nI_add i 2) (by omega) hL dL_law_712 ?_
  refine l_aload_n C 0 dL_law_713 rfl rfl ?_
  refine l_iload_n C 3 dL_law_714 rfl rfl ?_
  refine l_iconst C (x := 3) dL_law_715 (by decide) ?_
  refine l_iadd C dL_law_716 ?_
  refine l_sld C (j := i + 3) (nI_add i 3) (by omega) hL dL_law_717 ?_
  refine l_dia 726 (.int (bz (decide ((xs (i + 3)) ≠ 0)))) [.int (xs (i + 2)), .int (xs (i + 1)), .ref (aX 180)] ?_ (fun hj => ?_)
  · refine l_callXl C [.int (xs (i + 1)), .int (xs (i + 2)), .int (bz (decide ((xs (i + 3)) ≠ 0)))] (cX11_through_ct l D cy aX (xs (i + 1)) (xs (i + 2)) (decide ((xs (i + 3)) ≠ 0)) u _ hX) ml_L_79 ⟨Nat.le_of_ble_eq_true rfl, Nat.le_of_ble_eq_true rfl⟩ ⟨rfl, rfl⟩ rfl rfl (Nat.le_of_ble_eq_true rfl) hKS dL_law_726 ?_
    refine l_aload_n C 2 dL_law_729 rfl rfl ?_
    refine l_aload_n C 0 dL_law_730 rfl rfl ?_
    refine l_iload_n C 3 dL_law_731 rfl rfl ?_
    refine l_iconst C (x := 1) dL_law_732 (by decide) ?_
    refine l_iadd C dL_law_733 ?_
    refine l_sld C (j := i + 1) (nI_add i 1) (by omega) hL dL_law_734 ?_
    refine l_aload_n C 0 dL_law_735 rfl rfl ?_
    refine l_iload_n C 3 dL_law_736 rfl rfl ?_
    refine l_iconst C (x := 2) dL_law_737 (by decide) ?_
    refine l_iadd C dL_law_738 ?_
    refine l_sld C (j := i + 2) (nI_add i 2) (by omega) hL dL_law_739 ?_
    refine l_aload_n C 0 dL_law_740 rfl rfl ?_
    refine l_iload_n C 3 dL_law_741 rfl rfl ?_
    refine l_iconst C (x := 3) dL_law_742 (by decide) ?_
    refine l_iadd C dL_law_743 ?_
    refine l_sld C (j := i + 3) (nI_add i 3) (by omega) hL dL_law_744 ?_
    refine l_dia 753 (.int (bz (decide ((xs (i + 3)) ≠ 0)))) [.int (xs (i + 2)), .int (xs (i + 1)), .ref (aM 0), .long r] ?_ (fun hj => ?_)
    · refine l_callMl C [.int (xs (i + 1)), .int (xs (i + 2)), .int (bz (decide ((xs (i + 3)) ≠ 0)))] (cX12_through_ct l D cy aM (xs (i + 1)) (xs (i + 2)) (decide ((xs (i + 3)) ≠ 0)) v _ hM) ml_L_83 ⟨Nat.le_of_ble_eq_true rfl, Nat.le_of_ble_eq_true rfl⟩ ⟨rfl, rfl⟩ rfl rfl (Nat.le_of_ble_eq_true rfl) hKS dL_law_753 ?_
      refine l_lcmp_eq C 1248 dL_law_756 dL_law_757 (by decide) (fun _ => ?_) (fun z => absurd rfl z)
      exact hnext _ _ hR2
    · refine l_if_eq C 752 dL_law_745 (by decide) (fun z => ?_) (fun z => ?_)
      · refine l_iconst C (x := 0) dL_law_752 (by decide) ?_
        exact l_top (by rw [decide_eq_false (fun q => q z)]; rfl) hj
      · refine l_iconst C (x := 1) dL_law_748 (by decide) ?_
        refine l_goto C 753 dL_law_749 (by decide) ?_
        exact l_top (by rw [decide_eq_true z]; rfl) hj
  · refine l_if_eq C 725 dL_law_718 (by decide) (fun z => ?_) (fun z => ?_)
    · refine l_iconst C (x := 0) dL_law_725 (by decide) ?_
      exact l_top (by rw [decide_eq_false (fun q => q z)]; rfl) hj
    · refine l_iconst C (x := 1) dL_law_721 (by decide) ?_
      refine l_goto C 726 dL_law_722 (by decide) ?_
      exact l_top (by rw [decide_eq_true z]; rfl) hj
/-- what is to be shown of settled -/
def sp_settled (R : Mem → Mem → Prop) : Prop := ∀ (u v : Mem) (a1 : Int32), R u v → ∃ (r : Int32) (u2 : Mem) (v2 : Mem), fX11_settled a1 u = some (r, u2) ∧ fX12_settled a1 v = some (r, v2) ∧ R u2 v2
set_option maxHeartbeats 4000000 in
set_option maxRecDepth 100000 in
theorem lc_15 {D : va_G} {cy : Nat → ClassId} {aX aM : Nat → Nat} {K0 S0 : Nat} {p : Program} {l : Launch} {e : Env} {s : State} {m : MethodId} {below : List Frame} {meth : Method} {c : Code} {b L : Nat} {xs : Nat → Int32} (C : CL D cy aX aM p s m c b L xs) (hL : L ≤ 3072) (hKS : K0 ≤ 600000 ∧ S0 ≤ 7302250) {R : Mem → Mem → Prop} (hs : sp_settled R) {i : Nat} (hi : i + 6 ≤ L) {u v : Mem} (hR : R u v) (hnext : ∀ u v, R u v → VL D cy aX aM K0 S0 p l e s m below meth c b (1248) ([(0, .ref b), (1, .ref (aX 180)), (2, .ref (aM 0)), (3, .int (nI i))]) ([]) (u) (v)) : VL D cy aX aM K0 S0 p l e s m below meth c b (762) ([(0, .ref b), (1, .ref (aX 180)), (2, .ref (aM 0)), (3, .int (nI i))]) ([]) (u) (v) := by
  obtain ⟨r, u2, v2, hX, hM, hR2⟩ := hs u v (xs (i + 1)) hR
  refine l_aload_n C 1 dL_law_762 rfl rfl ?_
  refine l_aload_n C 0 dL_law_763 rfl rfl ?_
  refine l_iload_n C 3 dL_law_764 rfl rfl ?_
  refine l_iconst C (x := 1) dL_law_765 (by decide) ?_
  refine l_iadd C dL_law_766 ?_
  refine l_sld C (j := i + 1) (nI_add i 1) (by omega) hL dL_law_767 ?_
  refine l_callXi C [.int (xs (i + 1))] (cX11_settled_ct l D cy aX (xs (i + 1)) u _ hX) ml_L_84 ⟨Nat.le_of_ble_eq_true rfl, Nat.le_of_ble_eq_true rfl⟩ ⟨rfl, rfl⟩ rfl rfl (Nat.le_of_ble_eq_true rfl) hKS dL_law_768 ?_
  refine l_aload_n C 2 dL_law_771 rfl rfl ?_
  refine l_aload_n C 0 dL_law_772 rfl rfl ?_
  refine l_iload_n C 3 dL_law_773 rfl rfl ?_
  refine l_iconst C (x := 1) dL_law_774 (by decide) ?_
  refine l_iadd C dL_law_775 ?_
  refine l_sld C (j := i + 1) (nI_add i 1) (by omega) hL dL_law_776 ?_
  refine l_callMi C [.int (xs (i + 1))] (cX12_settled_ct l D cy aM (xs (i + 1)) v _ hM) ml_L_87 ⟨Nat.le_of_ble_eq_true rfl, Nat.le_of_ble_eq_true rfl⟩ ⟨rfl, rfl⟩ rfl rfl (Nat.le_of_ble_eq_true rfl) hKS dL_law_777 ?_
  refine l_icmp_eq C 1248 dL_law_780 (by decide) (fun _ => ?_) (fun z => absurd rfl z)
  exact hnext _ _ hR2
/-- what is to be shown of steps -/
def sp_steps (R : Mem → Mem → Prop) : Prop := ∀ (u v : Mem) (a1 : Int32) (a2 : Int32), R u v → ∃ (r : Int32) (u2 : Mem) (v2 : Mem), fX11_steps a1 a2 u = some (r, u2) ∧ fX12_steps a1 a2 v = some (r, v2) ∧ R u2 v2
set_option maxHeartbeats 4000000 in
set_option maxRecDepth 100000 in
theorem lc_16 {D : va_G} {cy : Nat → ClassId} {aX aM : Nat → Nat} {K0 S0 : Nat} {p : Program} {l : Launch} {e : Env} {s : State} {m : MethodId} {below : List Frame} {meth : Method} {c : Code} {b L : Nat} {xs : Nat → Int32} (C : CL D cy aX aM p s m c b L xs) (hL : L ≤ 3072) (hKS : K0 ≤ 600000 ∧ S0 ≤ 7302250) {R : Mem → Mem → Prop} (hs : sp_steps R) {i : Nat} (hi : i + 6 ≤ L) {u v : Mem} (hR : R u v) (hnext : ∀ u v, R u v → VL D cy aX aM K0 S0 p l e s m below meth c b (1248) ([(0, .ref b), (1, .ref (aX 180)), (2, .ref (aM 0)), (3, .int (nI i))]) ([]) (u) (v)) : VL D cy aX aM K0 S0 p l e s m below meth c b (785) ([(0, .ref b), (1, .ref (aX 180)), (2, .ref (aM 0)), (3, .int (nI i))]) ([]) (u) (v) := by
  obtain ⟨r, u2, v2, hX, hM, hR2⟩ := hs u v (xs (i + 1)) (xs (i + 2)) hR
  refine l_aload_n C 1 dL_law_785 rfl rfl ?_
  refine l_aload_n C 0 dL_law_786 rfl rfl ?_
  refine l_iload_n C 3 dL_law_787 rfl rfl ?_
  refine l_iconst C (x := 1) dL_law_788 (by decide) ?_
  refine l_iadd C dL_law_789 ?_
  refine l_sld C (j := i + 1) (nI_add i 1) (by omega) hL dL_law_790 ?_
  refine l_aload_n C 0 dL_law_791 rfl rfl ?_
  refine l_iload_n C 3 dL_law_792 rfl rfl ?_
  refine l_iconst C (x := 2) dL_law_793 (by decide) ?_
  refine l_iadd C dL_law_794 ?_
  refine l_sld C (j := i + 2) (nI_add i 2) (by omega) hL dL_law_795 ?_
  refine l_callXi C [.int (xs (i + 1)), .int (xs (i + 2))] (cX11_steps_ct l D cy aX (xs (i + 1)) (xs (i + 2)) u _ hX) ml_L_88 ⟨Nat.le_of_ble_eq_true rfl, Nat.le_of_ble_eq_true rfl⟩ ⟨rfl, rfl⟩ rfl rfl (Nat.le_of_ble_eq_true rfl) hKS dL_law_796 ?_
  refine l_aload_n C 2 dL_law_799 rfl rfl ?_
  refine l_aload_n C 0 dL_law_800 rfl rfl ?_
  refine l_iload_n C 3 dL_law_801 rfl rfl ?_
  refine l_iconst C (x := 1) dL_law_802 (by decide) ?_
  refine l_iadd C dL_law_803 ?_
  refine l_sld C (j := i + 1) (nI_add i 1) (by omega) hL dL_law_804 ?_
  refine l_aload_n C 0 dL_law_805 rfl rfl ?_
  refine l_iload_n C 3 dL_law_806 rfl rfl ?_
  refine l_iconst C (x := 2) dL_law_807 (by decide) ?_
  refine l_iadd C dL_law_808 ?_
  refine l_sld C (j := i + 2) (nI_add i 2) (by omega) hL dL_law_809 ?_
  refine l_callMi C [.int (xs (i + 1)), .int (xs (i + 2))] (cX12_steps_ct l D cy aM (xs (i + 1)) (xs (i + 2)) v _ hM) ml_L_91 ⟨Nat.le_of_ble_eq_true rfl, Nat.le_of_ble_eq_true rfl⟩ ⟨rfl, rfl⟩ rfl rfl (Nat.le_of_ble_eq_true rfl) hKS dL_law_810 ?_
  refine l_icmp_eq C 1248 dL_law_813 (by decide) (fun _ => ?_) (fun z => absurd rfl z)
  exact hnext _ _ hR2
/-- what is to be shown of event -/
def sp_event (R : Mem → Mem → Prop) : Prop := ∀ (u v : Mem) (a1 : Int32) (a2 : Int32), R u v → ∃ (r : Int32), fX11_event a1 a2 u = some r ∧ fX12_event a1 a2 v = some r ∧ R u v
set_option maxHeartbeats 4000000 in
set_option maxRecDepth 100000 in
theorem lc_17 {D : va_G} {cy : Nat → ClassId} {aX aM : Nat → Nat} {K0 S0 : Nat} {p : Program} {l : Launch} {e : Env} {s : State} {m : MethodId} {below : List Frame} {meth : Method} {c : Code} {b L : Nat} {xs : Nat → Int32} (C : CL D cy aX aM p s m c b L xs) (hL : L ≤ 3072) (hKS : K0 ≤ 600000 ∧ S0 ≤ 7302250) {R : Mem → Mem → Prop} (hs : sp_event R) {i : Nat} (hi : i + 6 ≤ L) {u v : Mem} (hR : R u v) (hnext : ∀ u v, R u v → VL D cy aX aM K0 S0 p l e s m below meth c b (1248) ([(0, .ref b), (1, .ref (aX 180)), (2, .ref (aM 0)), (3, .int (nI i))]) ([]) (u) (v)) : VL D cy aX aM K0 S0 p l e s m below meth c b (818) ([(0, .ref b), (1, .ref (aX 180)), (2, .ref (aM 0)), (3, .int (nI i))]) ([]) (u) (v) := by
  obtain ⟨r, hX, hM, hR2⟩ := hs u v (xs (i + 1)) (xs (i + 2)) hR
  refine l_aload_n C 1 dL_law_818 rfl rfl ?_
  refine l_aload_n C 0 dL_law_819 rfl rfl ?_
  refine l_iload_n C 3 dL_law_820 rfl rfl ?_
  refine l_iconst C (x := 1) dL_law_821 (by decide) ?_
  refine l_iadd C dL_law_822 ?_
  refine l_sld C (j := i + 1) (nI_add i 1) (by omega) hL dL_law_823 ?_
  refine l_aload_n C 0 dL_law_824 rfl rfl ?_
  refine l_iload_n C 3 dL_law_825 rfl rfl ?_
  refine l_iconst C (x := 2) dL_law_826 (by decide) ?_
  refine l_iadd C dL_law_827 ?_
  refine l_sld C (j := i + 2) (nI_add i 2) (by omega) hL dL_law_828 ?_
  refine l_callXi C [.int (xs (i + 1)), .int (xs (i + 2))] (cX11_event_ct l D cy aX (xs (i + 1)) (xs (i + 2)) u _ hX) ml_L_92 ⟨Nat.le_of_ble_eq_true rfl, Nat.le_of_ble_eq_true rfl⟩ ⟨rfl, rfl⟩ rfl rfl (Nat.le_of_ble_eq_true rfl) hKS dL_law_829 ?_
  refine l_aload_n C 2 dL_law_832 rfl rfl ?_
  refine l_aload_n C 0 dL_law_833 rfl rfl ?_
  refine l_iload_n C 3 dL_law_834 rfl rfl ?_
  refine l_iconst C (x := 1) dL_law_835 (by decide) ?_
  refine l_iadd C dL_law_836 ?_
  refine l_sld C (j := i + 1) (nI_add i 1) (by omega) hL dL_law_837 ?_
  refine l_aload_n C 0 dL_law_838 rfl rfl ?_
  refine l_iload_n C 3 dL_law_839 rfl rfl ?_
  refine l_iconst C (x := 2) dL_law_840 (by decide) ?_
  refine l_iadd C dL_law_841 ?_
  refine l_sld C (j := i + 2) (nI_add i 2) (by omega) hL dL_law_842 ?_
  refine l_callMi C [.int (xs (i + 1)), .int (xs (i + 2))] (cX12_event_ct l D cy aM (xs (i + 1)) (xs (i + 2)) v _ hM) ml_L_95 ⟨Nat.le_of_ble_eq_true rfl, Nat.le_of_ble_eq_true rfl⟩ ⟨rfl, rfl⟩ rfl rfl (Nat.le_of_ble_eq_true rfl) hKS dL_law_843 ?_
  refine l_icmp_eq C 1248 dL_law_846 (by decide) (fun _ => ?_) (fun z => absurd rfl z)
  exact hnext _ _ hR2
/-- what is to be shown of hand -/
def sp_hand (R : Mem → Mem → Prop) : Prop := ∀ (u v : Mem) (a1 : Int32) (a2 : Int32), R u v → ∃ (r : Bool) (u2 : Mem) (v2 : Mem), fX11_hand a1 a2 u = some (r, u2) ∧ fX12_hand a1 a2 v = some (r, v2) ∧ R u2 v2
set_option maxHeartbeats 4000000 in
set_option maxRecDepth 100000 in
theorem lc_18 {D : va_G} {cy : Nat → ClassId} {aX aM : Nat → Nat} {K0 S0 : Nat} {p : Program} {l : Launch} {e : Env} {s : State} {m : MethodId} {below : List Frame} {meth : Method} {c : Code} {b L : Nat} {xs : Nat → Int32} (C : CL D cy aX aM p s m c b L xs) (hL : L ≤ 3072) (hKS : K0 ≤ 600000 ∧ S0 ≤ 7302250) {R : Mem → Mem → Prop} (hs : sp_hand R) {i : Nat} (hi : i + 6 ≤ L) {u v : Mem} (hR : R u v) (hnext : ∀ u v, R u v → VL D cy aX aM K0 S0 p l e s m below meth c b (1248) ([(0, .ref b), (1, .ref (aX 180)), (2, .ref (aM 0)), (3, .int (nI i))]) ([]) (u) (v)) : VL D cy aX aM K0 S0 p l e s m below meth c b (851) ([(0, .ref b), (1, .ref (aX 180)), (2, .ref (aM 0)), (3, .int (nI i))]) ([]) (u) (v) := by
  obtain ⟨r, u2, v2, hX, hM, hR2⟩ := hs u v (xs (i + 1)) (xs (i + 2)) hR
  refine l_aload_n C 1 dL_law_851 rfl rfl ?_
  refine l_aload_n C 0 dL_law_852 rfl rfl ?_
  refine l_iload_n C 3 dL_law_853 rfl rfl ?_
  refine l_iconst C (x := 1) dL_law_854 (by decide) ?_
  refine l_iadd C dL_law_855 ?_
  refine l_sld C (j := i + 1) (nI_add i 1) (by omega) hL dL_law_856 ?_
  refine l_aload_n C 0 dL_law_857 rfl rfl ?_
  refine l_iload_n C 3 dL_law_858 rfl rfl ?_
  refine l_iconst C (x := 2) dL_law_859 (by decide) ?_
  refine l_iadd C dL_law_860 ?_
  refine l_sld C (j := i + 2) (nI_add i 2) (by omega) hL dL_law_861 ?_
  refine l_callXi C [.int (xs (i + 1)), .int (xs (i + 2))] (cX11_hand_ct l D cy aX (xs (i + 1)) (xs (i + 2)) u _ hX) ml_L_96 ⟨Nat.le_of_ble_eq_true rfl, Nat.le_of_ble_eq_true rfl⟩ ⟨rfl, rfl⟩ rfl rfl (Nat.le_of_ble_eq_true rfl) hKS dL_law_862 ?_
  refine l_aload_n C 2 dL_law_865 rfl rfl ?_
  refine l_aload_n C 0 dL_law_866 rfl rfl ?_
  refine l_iload_n C 3 dL_law_867 rfl rfl ?_
  refine l_iconst C (x := 1) dL_law_868 (by decide) ?_
  refine l_iadd C dL_law_869 ?_
  refine l_sld C (j := i + 1) (nI_add i 1) (by omega) hL dL_law_870 ?_
  refine l_aload_n C 0 dL_law_871 rfl rfl ?_
  refine l_iload_n C 3 dL_law_872 rfl rfl ?_
  refine l_iconst C (x := 2) dL_law_873 (by decide) ?_
  refine l_iadd C dL_law_874 ?_
  refine l_sld C (j := i + 2) (nI_add i 2) (by omega) hL dL_law_875 ?_
  refine l_callMi C [.int (xs (i + 1)), .int (xs (i + 2))] (cX12_hand_ct l D cy aM (xs (i + 1)) (xs (i + 2)) v _ hM) ml_L_100 ⟨Nat.le_of_ble_eq_true rfl, Nat.le_of_ble_eq_true rfl⟩ ⟨rfl, rfl⟩ rfl rfl (Nat.le_of_ble_eq_true rfl) hKS dL_law_876 ?_
  refine l_icmp_eq C 1248 dL_law_879 (by decide) (fun _ => ?_) (fun z => absurd rfl z)
  exact hnext _ _ hR2
/-- what is to be shown of light -/
def sp_light (R : Mem → Mem → Prop) : Prop := ∀ (u v : Mem) (a1 : Int32) (a2 : Int32) (a3 : Int32), R u v → ∃ (r : Int64), fX11_light a1 a2 a3 u = some r ∧ fX12_light a1 a2 a3 v = some r ∧ R u v
set_option maxHeartbeats 4000000 in
set_option maxRecDepth 100000 in
theorem lc_19 {D : va_G} {cy : Nat → ClassId} {aX aM : Nat → Nat} {K0 S0 : Nat} {p : Program} {l : Launch} {e : Env} {s : State} {m : MethodId} {below : List Frame} {meth : Method} {c : Code} {b L : Nat} {xs : Nat → Int32} (C : CL D cy aX aM p s m c b L xs) (hL : L ≤ 3072) (hKS : K0 ≤ 600000 ∧ S0 ≤ 7302250) {R : Mem → Mem → Prop} (hs : sp_light R) {i : Nat} (hi : i + 6 ≤ L) {u v : Mem} (hR : R u v) (hnext : ∀ u v, R u v → VL D cy aX aM K0 S0 p l e s m below meth c b (1248) ([(0, .ref b), (1, .ref (aX 180)), (2, .ref (aM 0)), (3, .int (nI i))]) ([]) (u) (v)) : VL D cy aX aM K0 S0 p l e s m below meth c b (884) ([(0, .ref b), (1, .ref (aX 180)), (2, .ref (aM 0)), (3, .int (nI i))]) ([]) (u) (v) := by
  obtain ⟨r, hX, hM, hR2⟩ := hs u v (xs (i + 1)) (xs (i + 2)) (xs (i + 3)) hR
  refine l_aload_n C 1 dL_law_884 rfl rfl ?_
  refine l_aload_n C 0 dL_law_885 rfl rfl ?_
  refine l_iload_n C 3 dL_law_886 rfl rfl ?_
  refine l_iconst C (x := 1) dL_law_887 (by decide) ?_
  refine l_iadd C dL_law_888 ?_
  refine l_sld C (j := i + 1) (nI_add i 1) (by omega) hL dL_law_889 ?_
  refine l_aload_n C 0 dL_law_890 rfl rfl ?_
  refine l_iload_n C 3 dL_law_891 rfl rfl ?_
  refine l_iconst C (x := 2) dL_law_892 (by decide) ?_
  refine l_iadd C dL_law_893 ?_
  refine l_sld C (j := i + 2) (nI_add i 2) (by omega) hL dL_law_894 ?_
  refine l_aload_n C 0 dL_law_895 rfl rfl ?_
  refine l_iload_n C 3 dL_law_896 rfl rfl ?_
  refine l_iconst C (x := 3) dL_law_897 (by decide) ?_
  refine l_iadd C dL_law_898 ?_
  refine l_sld C (j := i + 3) (nI_add i 3) (by omega) hL dL_law_899 ?_
  refine l_callXl C [.int (xs (i + 1)), .int (xs (i + 2)), .int (xs (i + 3))] (cX11_light_ct l D cy aX (xs (i + 1)) (xs (i + 2)) (xs (i + 3)) u _ hX) ml_L_101 ⟨Nat.le_of_ble_eq_true rfl, Nat.le_of_ble_eq_true rfl⟩ ⟨rfl, rfl⟩ rfl rfl (Nat.le_of_ble_eq_true rfl) hKS dL_law_900 ?_
  refine l_aload_n C 2 dL_law_903 rfl rfl ?_
  refine l_aload_n C 0 dL_law_904 rfl rfl ?_
  refine l_iload_n C 3 dL_law_905 rfl rfl ?_
  refine l_iconst C (x := 1) dL_law_906 (by decide) ?_
  refine l_iadd C dL_law_907 ?_
  refine l_sld C (j := i + 1) (nI_add i 1) (by omega) hL dL_law_908 ?_
  refine l_aload_n C 0 dL_law_909 rfl rfl ?_
  refine l_iload_n C 3 dL_law_910 rfl rfl ?_
  refine l_iconst C (x := 2) dL_law_911 (by decide) ?_
  refine l_iadd C dL_law_912 ?_
  refine l_sld C (j := i + 2) (nI_add i 2) (by omega) hL dL_law_913 ?_
  refine l_aload_n C 0 dL_law_914 rfl rfl ?_
  refine l_iload_n C 3 dL_law_915 rfl rfl ?_
  refine l_iconst C (x := 3) dL_law_916 (by decide) ?_
  refine l_iadd C dL_law_917 ?_
  refine l_sld C (j := i + 3) (nI_add i 3) (by omega) hL dL_law_918 ?_
  refine l_callMl C [.int (xs (i + 1)), .int (xs (i + 2)), .int (xs (i + 3))] (cX12_light_ct l D cy aM (xs (i + 1)) (xs (i + 2)) (xs (i + 3)) v _ hM) ml_L_105 ⟨Nat.le_of_ble_eq_true rfl, Nat.le_of_ble_eq_true rfl⟩ ⟨rfl, rfl⟩ rfl rfl (Nat.le_of_ble_eq_true rfl) hKS dL_law_919 ?_
  refine l_lcmp_eq C 1248 dL_law_922 dL_law_923 (by decide) (fun _ => ?_) (fun z => absurd rfl z)
  exact hnext _ _ hR2
/-- what is to be shown of sheet -/
def sp_sheet (R : Mem → Mem → Prop) : Prop := ∀ (u v : Mem) (a1 : Int32), R u v → ∃ (r : Bool) (u2 : Mem) (v2 : Mem), fX11_sheet a1 u = some (r, u2) ∧ fX12_sheet a1 v = some (r, v2) ∧ R u2 v2
set_option maxHeartbeats 4000000 in
set_option maxRecDepth 100000 in
theorem lc_20 {D : va_G} {cy : Nat → ClassId} {aX aM : Nat → Nat} {K0 S0 : Nat} {p : Program} {l : Launch} {e : Env} {s : State} {m : MethodId} {below : List Frame} {meth : Method} {c : Code} {b L : Nat} {xs : Nat → Int32} (C : CL D cy aX aM p s m c b L xs) (hL : L ≤ 3072) (hKS : K0 ≤ 600000 ∧ S0 ≤ 7302250) {R : Mem → Mem → Prop} (hs : sp_sheet R) {i : Nat} (hi : i + 6 ≤ L) {u v : Mem} (hR : R u v) (hnext : ∀ u v, R u v → VL D cy aX aM K0 S0 p l e s m below meth c b (1248) ([(0, .ref b), (1, .ref (aX 180)), (2, .ref (aM 0)), (3, .int (nI i))]) ([]) (u) (v)) : VL D cy aX aM K0 S0 p l e s m below meth c b (928) ([(0, .ref b), (1, .ref (aX 180)), (2, .ref (aM 0)), (3, .int (nI i))]) ([]) (u) (v) := by
  obtain ⟨r, u2, v2, hX, hM, hR2⟩ := hs u v (xs (i + 1)) hR
  refine l_aload_n C 1 dL_law_928 rfl rfl ?_
  refine l_aload_n C 0 dL_law_929 rfl rfl ?_
  refine l_iload_n C 3 dL_law_930 rfl rfl ?_
  refine l_iconst C (x := 1) dL_law_931 (by decide) ?_
  refine l_iadd C dL_law_932 ?_
  refine l_sld C (j := i + 1) (nI_add i 1) (by omega) hL dL_law_933 ?_
  refine l_callXi C [.int (xs (i + 1))] (cX11_sheet_ct l D cy aX (xs (i + 1)) u _ hX) ml_L_106 ⟨Nat.le_of_ble_eq_true rfl, Nat.le_of_ble_eq_true rfl⟩ ⟨rfl, rfl⟩ rfl rfl (Nat.le_of_ble_eq_true rfl) hKS dL_law_934 ?_
  refine l_aload_n C 2 dL_law_937 rfl rfl ?_
  refine l_aload_n C 0 dL_law_938 rfl rfl ?_
  refine l_iload_n C 3 dL_law_939 rfl rfl ?_
  refine l_iconst C (x := 1) dL_law_940 (by decide) ?_
  refine l_iadd C dL_law_941 ?_
  refine l_sld C (j := i + 1) (nI_add i 1) (by omega) hL dL_law_942 ?_
  refine l_callMi C [.int (xs (i + 1))] (cX12_sheet_ct l D cy aM (xs (i + 1)) v _ hM) ml_L_109 ⟨Nat.le_of_ble_eq_true rfl, Nat.le_of_ble_eq_true rfl⟩ ⟨rfl, rfl⟩ rfl rfl (Nat.le_of_ble_eq_true rfl) hKS dL_law_943 ?_
  refine l_icmp_eq C 1248 dL_law_946 (by decide) (fun _ => ?_) (fun z => absurd rfl z)
  exact hnext _ _ hR2
/-- what is to be shown of alter -/
def sp_alter (R : Mem → Mem → Prop) : Prop := ∀ (u v : Mem) (a1 : Int32) (a2 : Int32) (a3 : Int64), R u v → ∃ (r : Bool) (u2 : Mem) (v2 : Mem), fX11_alter a1 a2 a3 u = some (r, u2) ∧ fX12_alter a1 a2 a3 v = some (r, v2) ∧ R u2 v2
set_option maxHeartbeats 4000000 in
set_option maxRecDepth 100000 in
theorem lc_21 {D : va_G} {cy : Nat → ClassId} {aX aM : Nat → Nat} {K0 S0 : Nat} {p : Program} {l : Launch} {e : Env} {s : State} {m : MethodId} {below : List Frame} {meth : Method} {c : Code} {b L : Nat} {xs : Nat → Int32} (C : CL D cy aX aM p s m c b L xs) (hL : L ≤ 3072) (hKS : K0 ≤ 600000 ∧ S0 ≤ 7302250) {R : Mem → Mem → Prop} (hs : sp_alter R) {i : Nat} (hi : i + 6 ≤ L) {u v : Mem} (hR : R u v) (hnext : ∀ u v, R u v → VL D cy aX aM K0 S0 p l e s m below meth c b (1248) ([(0, .ref b), (1, .ref (aX 180)), (2, .ref (aM 0)), (3, .int (nI i))]) ([]) (u) (v)) : VL D cy aX aM K0 S0 p l e s m below meth c b (951) ([(0, .ref b), (1, .ref (aX 180)), (2, .ref (aM 0)), (3, .int (nI i))]) ([]) (u) (v) := by
  obtain ⟨r, u2, v2, hX, hM, hR2⟩ := hs u v (xs (i + 1)) (xs (i + 2)) ((((xs (i + 3)).toInt64) <<< ((32 : Int32).toInt64 &&& 63)) ||| (((xs (i + 4)).toInt64) &&& 4294967295)) hR
  refine l_aload_n C 1 dL_law_951 rfl rfl ?_
  refine l_aload_n C 0 dL_law_952 rfl rfl ?_
  refine l_iload_n C 3 dL_law_953 rfl rfl ?_
  refine l_iconst C (x := 1) dL_law_954 (by decide) ?_
  refine l_iadd C dL_law_955 ?_
  refine l_sld C (j := i + 1) (nI_add i 1) (by omega) hL dL_law_956 ?_
  refine l_aload_n C 0 dL_law_957 rfl rfl ?_
  refine l_iload_n C 3 dL_law_958 rfl rfl ?_
  refine l_iconst C (x := 2) dL_law_959 (by decide) ?_
  refine l_iadd C dL_law_960 ?_
  refine l_sld C (j := i + 2) (nI_add i 2) (by omega) hL dL_law_961 ?_
  refine l_aload_n C 0 dL_law_962 rfl rfl ?_
  refine l_iload_n C 3 dL_law_963 rfl rfl ?_
  refine l_iconst C (x := 3) dL_law_964 (by decide) ?_
  refine l_iadd C dL_law_965 ?_
  refine l_sld C (j := i + 3) (nI_add i 3) (by omega) hL dL_law_966 ?_
  refine l_i2l C dL_law_967 ?_
  refine l_bipush C (x := 32) dL_law_968 (by decide) ?_
  refine l_lshl C dL_law_970 ?_
  refine l_aload_n C 0 dL_law_971 rfl rfl ?_
  refine l_iload_n C 3 dL_law_972 rfl rfl ?_
  refine l_iconst C (x := 4) dL_law_973 (by decide) ?_
  refine l_iadd C dL_law_974 ?_
  refine l_sld C (j := i + 4) (nI_add i 4) (by omega) hL dL_law_975 ?_
  refine l_i2l C dL_law_976 ?_
  refine l_ldc2 C kc_L_110 dL_law_977 ?_
  refine l_land C dL_law_980 ?_
  refine l_lor C dL_law_981 ?_
  refine l_callXi C [.int (xs (i + 1)), .int (xs (i + 2)), .long ((((xs (i + 3)).toInt64) <<< ((32 : Int32).toInt64 &&& 63)) ||| (((xs (i + 4)).toInt64) &&& 4294967295))] (cX11_alter_ct l D cy aX (xs (i + 1)) (xs (i + 2)) ((((xs (i + 3)).toInt64) <<< ((32 : Int32).toInt64 &&& 63)) ||| (((xs (i + 4)).toInt64) &&& 4294967295)) u _ hX) ml_L_112 ⟨Nat.le_of_ble_eq_true rfl, Nat.le_of_ble_eq_true rfl⟩ ⟨rfl, rfl⟩ rfl rfl (Nat.le_of_ble_eq_true rfl) hKS dL_law_982 ?_
  refine l_aload_n C 2 dL_law_985 rfl rfl ?_
  refine l_aload_n C 0 dL_law_986 rfl rfl ?_
  refine l_iload_n C 3 dL_law_987 rfl rfl ?_
  refine l_iconst C (x := 1) dL_law_988 (by decide) ?_
  refine l_iadd C dL_law_989 ?_
  refine l_sld C (j := i + 1) (nI_add i 1) (by omega) hL dL_law_990 ?_
  refine l_aload_n C 0 dL_law_991 rfl rfl ?_
  refine l_iload_n C 3 dL_law_992 rfl rfl ?_
  refine l_iconst C (x := 2) dL_law_993 (by decide) ?_
  refine l_iadd C dL_law_994 ?_
  refine l_sld C (j := i + 2) (nI_add i 2) (by omega) hL dL_law_995 ?_
  refine l_aload_n C 0 dL_law_996 rfl rfl ?_
  refine l_iload_n C 3 dL_law_997 rfl rfl ?_
  refine l_iconst C (x := 3) dL_law_998 (by decide) ?_
  refine l_iadd C dL_law_999 ?_
  refine l_sld C (j := i + 3) (nI_add i 3) (by omega) hL dL_law_1000 ?_
  refine l_i2l C dL_law_1001 ?_
  refine l_bipush C (x := 32) dL_law_1002 (by decide) ?_
  refine l_lshl C dL_law_1004 ?_
  refine l_aload_n C 0 dL_law_1005 rfl rfl ?_
  refine l_iload_n C 3 dL_law_1006 rfl rfl ?_
  refine l_iconst C (x := 4) dL_law_1007 (by decide) ?_
  refine l_iadd C dL_law_1008 ?_
  refine l_sld C (j := i + 4) (nI_add i 4) (by omega) hL dL_law_1009 ?_
  refine l_i2l C dL_law_1010 ?_
  refine l_ldc2 C kc_L_110 dL_law_1011 ?_
  refine l_land C dL_law_1014 ?_
  refine l_lor C dL_law_1015 ?_
  refine l_callMi C [.int (xs (i + 1)), .int (xs (i + 2)), .long ((((xs (i + 3)).toInt64) <<< ((32 : Int32).toInt64 &&& 63)) ||| (((xs (i + 4)).toInt64) &&& 4294967295))] (cX12_alter_ct l D cy aM (xs (i + 1)) (xs (i + 2)) ((((xs (i + 3)).toInt64) <<< ((32 : Int32).toInt64 &&& 63)) ||| (((xs (i + 4)).toInt64) &&& 4294967295)) v _ hM) ml_L_116 ⟨Nat.le_of_ble_eq_true rfl, Nat.le_of_ble_eq_true rfl⟩ ⟨rfl, rfl⟩ rfl rfl (Nat.le_of_ble_eq_true rfl) hKS dL_law_1016 ?_
  refine l_icmp_eq C 1248 dL_law_1019 (by decide) (fun _ => ?_) (fun z => absurd rfl z)
  exact hnext _ _ hR2
/-- what is to be shown of check -/
def sp_check (R : Mem → Mem → Prop) : Prop := ∀ (u v : Mem) (a1 : Int32), R u v → ∃ (r : Int32) (u2 : Mem), fX11_check a1 u = some (r, u2) ∧ fX12_check a1 v = some r ∧ R u2 v
set_option maxHeartbeats 4000000 in
set_option maxRecDepth 100000 in
theorem lc_22 {D : va_G} {cy : Nat → ClassId} {aX aM : Nat → Nat} {K0 S0 : Nat} {p : Program} {l : Launch} {e : Env} {s : State} {m : MethodId} {below : List Frame} {meth : Method} {c : Code} {b L : Nat} {xs : Nat → Int32} (C : CL D cy aX aM p s m c b L xs) (hL : L ≤ 3072) (hKS : K0 ≤ 600000 ∧ S0 ≤ 7302250) {R : Mem → Mem → Prop} (hs : sp_check R) {i : Nat} (hi : i + 6 ≤ L) {u v : Mem} (hR : R u v) (hnext : ∀ u v, R u v → VL D cy aX aM K0 S0 p l e s m below meth c b (1248) ([(0, .ref b), (1, .ref (aX 180)), (2, .ref (aM 0)), (3, .int (nI i))]) ([]) (u) (v)) : VL D cy aX aM K0 S0 p l e s m below meth c b (1024) ([(0, .ref b), (1, .ref (aX 180)), (2, .ref (aM 0)), (3, .int (nI i))]) ([]) (u) (v) := by
  obtain ⟨r, u2, hX, hM, hR2⟩ := hs u v (xs (i + 1)) hR
  refine l_aload_n C 1 dL_law_1024 rfl rfl ?_
  refine l_aload_n C 0 dL_law_1025 rfl rfl ?_
  refine l_iload_n C 3 dL_law_1026 rfl rfl ?_
  refine l_iconst C (x := 1) dL_law_1027 (by decide) ?_
  refine l_iadd C dL_law_1028 ?_
  refine l_sld C (j := i + 1) (nI_add i 1) (by omega) hL dL_law_1029 ?_
  refine l_callXi C [.int (xs (i + 1))] (cX11_check_ct l D cy aX (xs (i + 1)) u _ hX) ml_L_117 ⟨Nat.le_of_ble_eq_true rfl, Nat.le_of_ble_eq_true rfl⟩ ⟨rfl, rfl⟩ rfl rfl (Nat.le_of_ble_eq_true rfl) hKS dL_law_1030 ?_
  refine l_aload_n C 2 dL_law_1033 rfl rfl ?_
  refine l_aload_n C 0 dL_law_1034 rfl rfl ?_
  refine l_iload_n C 3 dL_law_1035 rfl rfl ?_
  refine l_iconst C (x := 1) dL_law_1036 (by decide) ?_
  refine l_iadd C dL_law_1037 ?_
  refine l_sld C (j := i + 1) (nI_add i 1) (by omega) hL dL_law_1038 ?_
  refine l_callMi C [.int (xs (i + 1))] (cX12_check_ct l D cy aM (xs (i + 1)) v _ hM) ml_L_120 ⟨Nat.le_of_ble_eq_true rfl, Nat.le_of_ble_eq_true rfl⟩ ⟨rfl, rfl⟩ rfl rfl (Nat.le_of_ble_eq_true rfl) hKS dL_law_1039 ?_
  refine l_icmp_eq C 1248 dL_law_1042 (by decide) (fun _ => ?_) (fun z => absurd rfl z)
  exact hnext _ _ hR2
/-- what is to be shown of below -/
def sp_below (R : Mem → Mem → Prop) : Prop := ∀ (u v : Mem) (a1 : Int32) (a2 : Int32), R u v → ∃ (r : Int32) (u2 : Mem) (v2 : Mem), fX11_below a1 a2 u = some (r, u2) ∧ fX12_below a1 a2 v = some (r, v2) ∧ R u2 v2
set_option maxHeartbeats 4000000 in
set_option maxRecDepth 100000 in
theorem lc_23 {D : va_G} {cy : Nat → ClassId} {aX aM : Nat → Nat} {K0 S0 : Nat} {p : Program} {l : Launch} {e : Env} {s : State} {m : MethodId} {below : List Frame} {meth : Method} {c : Code} {b L : Nat} {xs : Nat → Int32} (C : CL D cy aX aM p s m c b L xs) (hL : L ≤ 3072) (hKS : K0 ≤ 600000 ∧ S0 ≤ 7302250) {R : Mem → Mem → Prop} (hs : sp_below R) {i : Nat} (hi : i + 6 ≤ L) {u v : Mem} (hR : R u v) (hnext : ∀ u v, R u v → VL D cy aX aM K0 S0 p l e s m below meth c b (1248) ([(0, .ref b), (1, .ref (aX 180)), (2, .ref (aM 0)), (3, .int (nI i))]) ([]) (u) (v)) : VL D cy aX aM K0 S0 p l e s m below meth c b (1047) ([(0, .ref b), (1, .ref (aX 180)), (2, .ref (aM 0)), (3, .int (nI i))]) ([]) (u) (v) := by
  obtain ⟨r, u2, v2, hX, hM, hR2⟩ := hs u v (xs (i + 1)) (xs (i + 2)) hR
  refine l_aload_n C 1 dL_law_1047 rfl rfl ?_
  refine l_aload_n C 0 dL_law_1048 rfl rfl ?_
  refine l_iload_n C 3 dL_law_1049 rfl rfl ?_
  refine l_iconst C (x := 1) dL_law_1050 (by decide) ?_
  refine l_iadd C dL_law_1051 ?_
  refine l_sld C (j := i + 1) (nI_add i 1) (by omega) hL dL_law_1052 ?_
  refine l_aload_n C 0 dL_law_1053 rfl rfl ?_
  refine l_iload_n C 3 dL_law_1054 rfl rfl ?_
  refine l_iconst C (x := 2) dL_law_1055 (by decide) ?_
  refine l_iadd C dL_law_1056 ?_
  refine l_sld C (j := i + 2) (nI_add i 2) (by omega) hL dL_law_1057 ?_
  refine l_callXi C [.int (xs (i + 1)), .int (xs (i + 2))] (cX11_below_ct l D cy aX (xs (i + 1)) (xs (i + 2)) u _ hX) ml_L_121 ⟨Nat.le_of_ble_eq_true rfl, Nat.le_of_ble_eq_true rfl⟩ ⟨rfl, rfl⟩ rfl rfl (Nat.le_of_ble_eq_true rfl) hKS dL_law_1058 ?_
  refine l_aload_n C 2 dL_law_1061 rfl rfl ?_
  refine l_aload_n C 0 dL_law_1062 rfl rfl ?_
  refine l_iload_n C 3 dL_law_1063 rfl rfl ?_
  refine l_iconst C (x := 1) dL_law_1064 (by decide) ?_
  refine l_iadd C dL_law_1065 ?_
  refine l_sld C (j := i + 1) (nI_add i 1) (by omega) hL dL_law_1066 ?_
  refine l_aload_n C 0 dL_law_1067 rfl rfl ?_
  refine l_iload_n C 3 dL_law_1068 rfl rfl ?_
  refine l_iconst C (x := 2) dL_law_1069 (by decide) ?_
  refine l_iadd C dL_law_1070 ?_
  refine l_sld C (j := i + 2) (nI_add i 2) (by omega) hL dL_law_1071 ?_
  refine l_callMi C [.int (xs (i + 1)), .int (xs (i + 2))] (cX12_below_ct l D cy aM (xs (i + 1)) (xs (i + 2)) v _ hM) ml_L_124 ⟨Nat.le_of_ble_eq_true rfl, Nat.le_of_ble_eq_true rfl⟩ ⟨rfl, rfl⟩ rfl rfl (Nat.le_of_ble_eq_true rfl) hKS dL_law_1072 ?_
  refine l_icmp_eq C 1248 dL_law_1075 (by decide) (fun _ => ?_) (fun z => absurd rfl z)
  exact hnext _ _ hR2
/-- what is to be shown of tone -/
def sp_tone (R : Mem → Mem → Prop) : Prop := ∀ (u v : Mem) (a1 : Int32) (a2 : Int32), R u v → ∃ (r : Int32) (u2 : Mem) (v2 : Mem), fX11_tone a1 a2 u = some (r, u2) ∧ fX12_tone a1 a2 v = some (r, v2) ∧ R u2 v2
set_option maxHeartbeats 4000000 in
set_option maxRecDepth 100000 in
theorem lc_24 {D : va_G} {cy : Nat → ClassId} {aX aM : Nat → Nat} {K0 S0 : Nat} {p : Program} {l : Launch} {e : Env} {s : State} {m : MethodId} {below : List Frame} {meth : Method} {c : Code} {b L : Nat} {xs : Nat → Int32} (C : CL D cy aX aM p s m c b L xs) (hL : L ≤ 3072) (hKS : K0 ≤ 600000 ∧ S0 ≤ 7302250) {R : Mem → Mem → Prop} (hs : sp_tone R) {i : Nat} (hi : i + 6 ≤ L) {u v : Mem} (hR : R u v) (hnext : ∀ u v, R u v → VL D cy aX aM K0 S0 p l e s m below meth c b (1248) ([(0, .ref b), (1, .ref (aX 180)), (2, .ref (aM 0)), (3, .int (nI i))]) ([]) (u) (v)) : VL D cy aX aM K0 S0 p l e s m below meth c b (1080) ([(0, .ref b), (1, .ref (aX 180)), (2, .ref (aM 0)), (3, .int (nI i))]) ([]) (u) (v) := by
  obtain ⟨r, u2, v2, hX, hM, hR2⟩ := hs u v (xs (i + 1)) (xs (i + 2)) hR
  refine l_aload_n C 1 dL_law_1080 rfl rfl ?_
  refine l_aload_n C 0 dL_law_1081 rfl rfl ?_
  refine l_iload_n C 3 dL_law_1082 rfl rfl ?_
  refine l_iconst C (x := 1) dL_law_1083 (by decide) ?_
  refine l_iadd C dL_law_1084 ?_
  refine l_sld C (j := i + 1) (nI_add i 1) (by omega) hL dL_law_1085 ?_
  refine l_aload_n C 0 dL_law_1086 rfl rfl ?_
  refine l_iload_n C 3 dL_law_1087 rfl rfl ?_
  refine l_iconst C (x := 2) dL_law_1088 (by decide) ?_
  refine l_iadd C dL_law_1089 ?_
  refine l_sld C (j := i + 2) (nI_add i 2) (by omega) hL dL_law_1090 ?_
  refine l_callXi C [.int (xs (i + 1)), .int (xs (i + 2))] (cX11_tone_ct l D cy aX (xs (i + 1)) (xs (i + 2)) u _ hX) ml_L_125 ⟨Nat.le_of_ble_eq_true rfl, Nat.le_of_ble_eq_true rfl⟩ ⟨rfl, rfl⟩ rfl rfl (Nat.le_of_ble_eq_true rfl) hKS dL_law_1091 ?_
  refine l_aload_n C 2 dL_law_1094 rfl rfl ?_
  refine l_aload_n C 0 dL_law_1095 rfl rfl ?_
  refine l_iload_n C 3 dL_law_1096 rfl rfl ?_
  refine l_iconst C (x := 1) dL_law_1097 (by decide) ?_
  refine l_iadd C dL_law_1098 ?_
  refine l_sld C (j := i + 1) (nI_add i 1) (by omega) hL dL_law_1099 ?_
  refine l_aload_n C 0 dL_law_1100 rfl rfl ?_
  refine l_iload_n C 3 dL_law_1101 rfl rfl ?_
  refine l_iconst C (x := 2) dL_law_1102 (by decide) ?_
  refine l_iadd C dL_law_1103 ?_
  refine l_sld C (j := i + 2) (nI_add i 2) (by omega) hL dL_law_1104 ?_
  refine l_callMi C [.int (xs (i + 1)), .int (xs (i + 2))] (cX12_tone_ct l D cy aM (xs (i + 1)) (xs (i + 2)) v _ hM) ml_L_128 ⟨Nat.le_of_ble_eq_true rfl, Nat.le_of_ble_eq_true rfl⟩ ⟨rfl, rfl⟩ rfl rfl (Nat.le_of_ble_eq_true rfl) hKS dL_law_1105 ?_
  refine l_icmp_eq C 1248 dL_law_1108 (by decide) (fun _ => ?_) (fun z => absurd rfl z)
  exact hnext _ _ hR2
/-- what is to be shown of seen -/
def sp_seen (R : Mem → Mem → Prop) : Prop := ∀ (u v : Mem) (a1 : Int32) (a2 : Int32) (a3 : Int32) (a4 : Int32), R u v → ∃ (r : Int32) (u2 : Mem) (v2 : Mem), fX11_seen a1 a2 a3 a4 u = some (r, u2) ∧ fX12_seen a1 a2 a3 a4 v = some (r, v2) ∧ R u2 v2
set_option maxHeartbeats 4000000 in
set_option maxRecDepth 100000 in
theorem lc_25 {D : va_G} {cy : Nat → ClassId} {aX aM : Nat → Nat} {K0 S0 : Nat} {p : Program} {l : Launch} {e : Env} {s : State} {m : MethodId} {below : List Frame} {meth : Method} {c : Code} {b L : Nat} {xs : Nat → Int32} (C : CL D cy aX aM p s m c b L xs) (hL : L ≤ 3072) (hKS : K0 ≤ 600000 ∧ S0 ≤ 7302250) {R : Mem → Mem → Prop} (hs : sp_seen R) {i : Nat} (hi : i + 6 ≤ L) {u v : Mem} (hR : R u v) (hnext : ∀ u v, R u v → VL D cy aX aM K0 S0 p l e s m below meth c b (1248) ([(0, .ref b), (1, .ref (aX 180)), (2, .ref (aM 0)), (3, .int (nI i))]) ([]) (u) (v)) : VL D cy aX aM K0 S0 p l e s m below meth c b (1113) ([(0, .ref b), (1, .ref (aX 180)), (2, .ref (aM 0)), (3, .int (nI i))]) ([]) (u) (v) := by
  obtain ⟨r, u2, v2, hX, hM, hR2⟩ := hs u v (xs (i + 1)) (xs (i + 2)) (xs (i + 3)) (xs (i + 4)) hR
  refine l_aload_n C 1 dL_law_1113 rfl rfl ?_
  refine l_aload_n C 0 dL_law_1114 rfl rfl ?_
  refine l_iload_n C 3 dL_law_1115 rfl rfl ?_
  refine l_iconst C (x := 1) dL_law_1116 (by decide) ?_
  refine l_iadd C dL_law_1117 ?_
  refine l_sld C (j := i + 1) (nI_add i 1) (by omega) hL dL_law_1118 ?_
  refine l_aload_n C 0 dL_law_1119 rfl rfl ?_
  refine l_iload_n C 3 dL_law_1120 rfl rfl ?_
  refine l_iconst C (x := 2) dL_law_1121 (by decide) ?_
  refine l_iadd C dL_law_1122 ?_
  refine l_sld C (j := i + 2) (nI_add i 2) (by omega) hL dL_law_1123 ?_
  refine l_aload_n C 0 dL_law_1124 rfl rfl ?_
  refine l_iload_n C 3 dL_law_1125 rfl rfl ?_
  refine l_iconst C (x := 3) dL_law_1126 (by decide) ?_
  refine l_iadd C dL_law_1127 ?_
  refine l_sld C (j := i + 3) (nI_add i 3) (by omega) hL dL_law_1128 ?_
  refine l_aload_n C 0 dL_law_1129 rfl rfl ?_
  refine l_iload_n C 3 dL_law_1130 rfl rfl ?_
  refine l_iconst C (x := 4) dL_law_1131 (by decide) ?_
  refine l_iadd C dL_law_1132 ?_
  refine l_sld C (j := i + 4) (nI_add i 4) (by omega) hL dL_law_1133 ?_
  refine l_callXi C [.int (xs (i + 1)), .int (xs (i + 2)), .int (xs (i + 3)), .int (xs (i + 4))] (cX11_seen_ct l D cy aX (xs (i + 1)) (xs (i + 2)) (xs (i + 3)) (xs (i + 4)) u _ hX) ml_L_129 ⟨Nat.le_of_ble_eq_true rfl, Nat.le_of_ble_eq_true rfl⟩ ⟨rfl, rfl⟩ rfl rfl (Nat.le_of_ble_eq_true rfl) hKS dL_law_1134 ?_
  refine l_aload_n C 2 dL_law_1137 rfl rfl ?_
  refine l_aload_n C 0 dL_law_1138 rfl rfl ?_
  refine l_iload_n C 3 dL_law_1139 rfl rfl ?_
  refine l_iconst C (x := 1) dL_law_1140 (by decide) ?_
  refine l_iadd C dL_law_1141 ?_
  refine l_sld C (j := i + 1) (nI_add i 1) (by omega) hL dL_law_1142 ?_
  refine l_aload_n C 0 dL_law_1143 rfl rfl ?_
  refine l_iload_n C 3 dL_law_1144 rfl rfl ?_
  refine l_iconst C (x := 2) dL_law_1145 (by decide) ?_
  refine l_iadd C dL_law_1146 ?_
  refine l_sld C (j := i + 2) (nI_add i 2) (by omega) hL dL_law_1147 ?_
  refine l_aload_n C 0 dL_law_1148 rfl rfl ?_
  refine l_iload_n C 3 dL_law_1149 rfl rfl ?_
  refine l_iconst C (x := 3) dL_law_1150 (by decide) ?_
  refine l_iadd C dL_law_1151 ?_
  refine l_sld C (j := i + 3) (nI_add i 3) (by omega) hL dL_law_1152 ?_
  refine l_aload_n C 0 dL_law_1153 rfl rfl ?_
  refine l_iload_n C 3 dL_law_1154 rfl rfl ?_
  refine l_iconst C (x := 4) dL_law_1155 (by decide) ?_
  refine l_iadd C dL_law_1156 ?_
  refine l_sld C (j := i + 4) (nI_add i 4) (by omega) hL dL_law_1157 ?_
  refine l_callMi C [.int (xs (i + 1)), .int (xs (i + 2)), .int (xs (i + 3)), .int (xs (i + 4))] (cX12_seen_ct l D cy aM (xs (i + 1)) (xs (i + 2)) (xs (i + 3)) (xs (i + 4)) v _ hM) ml_L_133 ⟨Nat.le_of_ble_eq_true rfl, Nat.le_of_ble_eq_true rfl⟩ ⟨rfl, rfl⟩ rfl rfl (Nat.le_of_ble_eq_true rfl) hKS dL_law_1158 ?_
  refine l_icmp_eq C 1248 dL_law_1161 (by decide) (fun _ => ?_) (fun z => absurd rfl z)
  exact hnext _ _ hR2
/-- what is to be shown of fits -/
def sp_fits (R : Mem → Mem → Prop) : Prop := ∀ (u v : Mem) (a1 : Int32) (a2 : Int32), R u v → ∃ (r : Int32) (u2 : Mem) (v2 : Mem), fX11_fits a1 a2 u = some (r, u2) ∧ fX12_fits a1 a2 v = some (r, v2) ∧ R u2 v2
set_option maxHeartbeats 4000000 in
set_option maxRecDepth 100000 in
theorem lc_26 {D : va_G} {cy : Nat → ClassId} {aX aM : Nat → Nat} {K0 S0 : Nat} {p : Program} {l : Launch} {e : Env} {s : State} {m : MethodId} {below : List Frame} {meth : Method} {c : Code} {b L : Nat} {xs : Nat → Int32} (C : CL D cy aX aM p s m c b L xs) (hL : L ≤ 3072) (hKS : K0 ≤ 600000 ∧ S0 ≤ 7302250) {R : Mem → Mem → Prop} (hs : sp_fits R) {i : Nat} (hi : i + 6 ≤ L) {u v : Mem} (hR : R u v) (hnext : ∀ u v, R u v → VL D cy aX aM K0 S0 p l e s m below meth c b (1248) ([(0, .ref b), (1, .ref (aX 180)), (2, .ref (aM 0)), (3, .int (nI i))]) ([]) (u) (v)) : VL D cy aX aM K0 S0 p l e s m below meth c b (1166) ([(0, .ref b), (1, .ref (aX 180)), (2, .ref (aM 0)), (3, .int (nI i))]) ([]) (u) (v) := by
  obtain ⟨r, u2, v2, hX, hM, hR2⟩ := hs u v (xs (i + 1)) (xs (i + 2)) hR
  refine l_aload_n C 1 dL_law_1166 rfl rfl ?_
  refine l_aload_n C 0 dL_law_1167 rfl rfl ?_
  refine l_iload_n C 3 dL_law_1168 rfl rfl ?_
  refine l_iconst C (x := 1) dL_law_1169 (by decide) ?_
  refine l_iadd C dL_law_1170 ?_
  refine l_sld C (j := i + 1) (nI_add i 1) (by omega) hL dL_law_1171 ?_
  refine l_aload_n C 0 dL_law_1172 rfl rfl ?_
  refine l_iload_n C 3 dL_law_1173 rfl rfl ?_
  refine l_iconst C (x := 2) dL_law_1174 (by decide) ?_
  refine l_iadd C dL_law_1175 ?_
  refine l_sld C (j := i + 2) (nI_add i 2) (by omega) hL dL_law_1176 ?_
  refine l_callXi C [.int (xs (i + 1)), .int (xs (i + 2))] (cX11_fits_ct l D cy aX (xs (i + 1)) (xs (i + 2)) u _ hX) ml_L_134 ⟨Nat.le_of_ble_eq_true rfl, Nat.le_of_ble_eq_true rfl⟩ ⟨rfl, rfl⟩ rfl rfl (Nat.le_of_ble_eq_true rfl) hKS dL_law_1177 ?_
  refine l_aload_n C 2 dL_law_1180 rfl rfl ?_
  refine l_aload_n C 0 dL_law_1181 rfl rfl ?_
  refine l_iload_n C 3 dL_law_1182 rfl rfl ?_
  refine l_iconst C (x := 1) dL_law_1183 (by decide) ?_
  refine l_iadd C dL_law_1184 ?_
  refine l_sld C (j := i + 1) (nI_add i 1) (by omega) hL dL_law_1185 ?_
  refine l_aload_n C 0 dL_law_1186 rfl rfl ?_
  refine l_iload_n C 3 dL_law_1187 rfl rfl ?_
  refine l_iconst C (x := 2) dL_law_1188 (by decide) ?_
  refine l_iadd C dL_law_1189 ?_
  refine l_sld C (j := i + 2) (nI_add i 2) (by omega) hL dL_law_1190 ?_
  refine l_callMi C [.int (xs (i + 1)), .int (xs (i + 2))] (cX12_fits_ct l D cy aM (xs (i + 1)) (xs (i + 2)) v _ hM) ml_L_137 ⟨Nat.le_of_ble_eq_true rfl, Nat.le_of_ble_eq_true rfl⟩ ⟨rfl, rfl⟩ rfl rfl (Nat.le_of_ble_eq_true rfl) hKS dL_law_1191 ?_
  refine l_icmp_eq C 1248 dL_law_1194 (by decide) (fun _ => ?_) (fun z => absurd rfl z)
  exact hnext _ _ hR2
/-- what is to be shown of image -/
def sp_image (R : Mem → Mem → Prop) : Prop := ∀ (u v : Mem), R u v → ∃ (r : Int32) (u2 : Mem) (v2 : Mem), fX11_image u = some (r, u2) ∧ fX12_image v = some (r, v2) ∧ R u2 v2
set_option maxHeartbeats 4000000 in
set_option maxRecDepth 100000 in
theorem lc_27 {D : va_G} {cy : Nat → ClassId} {aX aM : Nat → Nat} {K0 S0 : Nat} {p : Program} {l : Launch} {e : Env} {s : State} {m : MethodId} {below : List Frame} {meth : Method} {c : Code} {b L : Nat} {xs : Nat → Int32} (C : CL D cy aX aM p s m c b L xs) (hL : L ≤ 3072) (hKS : K0 ≤ 600000 ∧ S0 ≤ 7302250) {R : Mem → Mem → Prop} (hs : sp_image R) {i : Nat} (hi : i + 6 ≤ L) {u v : Mem} (hR : R u v) (hnext : ∀ u v, R u v → VL D cy aX aM K0 S0 p l e s m below meth c b (1248) ([(0, .ref b), (1, .ref (aX 180)), (2, .ref (aM 0)), (3, .int (nI i))]) ([]) (u) (v)) : VL D cy aX aM K0 S0 p l e s m below meth c b (1199) ([(0, .ref b), (1, .ref (aX 180)), (2, .ref (aM 0)), (3, .int (nI i))]) ([]) (u) (v) := by
  obtain ⟨r, u2, v2, hX, hM, hR2⟩ := hs u v hR
  refine l_aload_n C 1 dL_law_1199 rfl rfl ?_
  refine l_callXi C [] (cX11_image_ct l D cy aX u _ hX) ml_L_138 ⟨Nat.le_of_ble_eq_true rfl, Nat.le_of_ble_eq_true rfl⟩ ⟨rfl, rfl⟩ rfl rfl (Nat.le_of_ble_eq_true rfl) hKS dL_law_1200 ?_
  refine l_aload_n C 2 dL_law_1203 rfl rfl ?_
  refine l_callMi C [] (cX12_image_ct l D cy aM v _ hM) ml_L_141 ⟨Nat.le_of_ble_eq_true rfl, Nat.le_of_ble_eq_true rfl⟩ ⟨rfl, rfl⟩ rfl rfl (Nat.le_of_ble_eq_true rfl) hKS dL_law_1204 ?_
  refine l_icmp_eq C 1248 dL_law_1207 (by decide) (fun _ => ?_) (fun z => absurd rfl z)
  exact hnext _ _ hR2
/-- what is to be shown of back -/
def sp_back (R : Mem → Mem → Prop) : Prop := ∀ (u v : Mem), R u v → ∃ (r : Int32) (u2 : Mem) (v2 : Mem), fX11_back u = some (r, u2) ∧ fX12_back v = some (r, v2) ∧ R u2 v2
set_option maxHeartbeats 4000000 in
set_option maxRecDepth 100000 in
theorem lc_28 {D : va_G} {cy : Nat → ClassId} {aX aM : Nat → Nat} {K0 S0 : Nat} {p : Program} {l : Launch} {e : Env} {s : State} {m : MethodId} {below : List Frame} {meth : Method} {c : Code} {b L : Nat} {xs : Nat → Int32} (C : CL D cy aX aM p s m c b L xs) (hL : L ≤ 3072) (hKS : K0 ≤ 600000 ∧ S0 ≤ 7302250) {R : Mem → Mem → Prop} (hs : sp_back R) {i : Nat} (hi : i + 6 ≤ L) {u v : Mem} (hR : R u v) (hnext : ∀ u v, R u v → VL D cy aX aM K0 S0 p l e s m below meth c b (1248) ([(0, .ref b), (1, .ref (aX 180)), (2, .ref (aM 0)), (3, .int (nI i))]) ([]) (u) (v)) : VL D cy aX aM K0 S0 p l e s m below meth c b (1212) ([(0, .ref b), (1, .ref (aX 180)), (2, .ref (aM 0)), (3, .int (nI i))]) ([]) (u) (v) := by
  obtain ⟨r, u2, v2, hX, hM, hR2⟩ := hs u v hR
  refine l_aload_n C 1 dL_law_1212 rfl rfl ?_
  refine l_callXi C [] (cX11_back_ct l D cy aX u _ hX) ml_L_142 ⟨Nat.le_of_ble_eq_true rfl, Nat.le_of_ble_eq_true rfl⟩ ⟨rfl, rfl⟩ rfl rfl (Nat.le_of_ble_eq_true rfl) hKS dL_law_1213 ?_
  refine l_aload_n C 2 dL_law_1216 rfl rfl ?_
  refine l_callMi C [] (cX12_back_ct l D cy aM v _ hM) ml_L_145 ⟨Nat.le_of_ble_eq_true rfl, Nat.le_of_ble_eq_true rfl⟩ ⟨rfl, rfl⟩ rfl rfl (Nat.le_of_ble_eq_true rfl) hKS dL_law_1217 ?_
  refine l_icmp_eq C 1248 dL_law_1220 (by decide) (fun _ => ?_) (fun z => absurd rfl z)
  exact hnext _ _ hR2
/-- what is to be shown of about -/
def sp_about (R : Mem → Mem → Prop) : Prop := ∀ (u v : Mem) (a1 : Int32), R u v → ∃ (r : Int32), fX11_about a1 u = some r ∧ fX12_about a1 v = some r ∧ R u v
set_option maxHeartbeats 4000000 in
set_option maxRecDepth 100000 in
theorem lc_29 {D : va_G} {cy : Nat → ClassId} {aX aM : Nat → Nat} {K0 S0 : Nat} {p : Program} {l : Launch} {e : Env} {s : State} {m : MethodId} {below : List Frame} {meth : Method} {c : Code} {b L : Nat} {xs : Nat → Int32} (C : CL D cy aX aM p s m c b L xs) (hL : L ≤ 3072) (hKS : K0 ≤ 600000 ∧ S0 ≤ 7302250) {R : Mem → Mem → Prop} (hs : sp_about R) {i : Nat} (hi : i + 6 ≤ L) {u v : Mem} (hR : R u v) (hnext : ∀ u v, R u v → VL D cy aX aM K0 S0 p l e s m below meth c b (1248) ([(0, .ref b), (1, .ref (aX 180)), (2, .ref (aM 0)), (3, .int (nI i))]) ([]) (u) (v)) : VL D cy aX aM K0 S0 p l e s m below meth c b (1225) ([(0, .ref b), (1, .ref (aX 180)), (2, .ref (aM 0)), (3, .int (nI i))]) ([]) (u) (v) := by
  obtain ⟨r, hX, hM, hR2⟩ := hs u v (xs (i + 1)) hR
  refine l_aload_n C 1 dL_law_1225 rfl rfl ?_
  refine l_aload_n C 0 dL_law_1226 rfl rfl ?_
  refine l_iload_n C 3 dL_law_1227 rfl rfl ?_
  refine l_iconst C (x := 1) dL_law_1228 (by decide) ?_
  refine l_iadd C dL_law_1229 ?_
  refine l_sld C (j := i + 1) (nI_add i 1) (by omega) hL dL_law_1230 ?_
  refine l_callXi C [.int (xs (i + 1))] (cX11_about_ct l D cy aX (xs (i + 1)) u _ hX) ml_L_146 ⟨Nat.le_of_ble_eq_true rfl, Nat.le_of_ble_eq_true rfl⟩ ⟨rfl, rfl⟩ rfl rfl (Nat.le_of_ble_eq_true rfl) hKS dL_law_1231 ?_
  refine l_aload_n C 2 dL_law_1234 rfl rfl ?_
  refine l_aload_n C 0 dL_law_1235 rfl rfl ?_
  refine l_iload_n C 3 dL_law_1236 rfl rfl ?_
  refine l_iconst C (x := 1) dL_law_1237 (by decide) ?_
  refine l_iadd C dL_law_1238 ?_
  refine l_sld C (j := i + 1) (nI_add i 1) (by omega) hL dL_law_1239 ?_
  refine l_callMi C [.int (xs (i + 1))] (cX12_about_ct l D cy aM (xs (i + 1)) v _ hM) ml_L_149 ⟨Nat.le_of_ble_eq_true rfl, Nat.le_of_ble_eq_true rfl⟩ ⟨rfl, rfl⟩ rfl rfl (Nat.le_of_ble_eq_true rfl) hKS dL_law_1240 ?_
  refine l_icmp_eq C 1248 dL_law_1243 (by decide) (fun _ => ?_) (fun z => absurd rfl z)
  exact hnext _ _ hR2
set_option maxHeartbeats 4000000 in
set_option maxRecDepth 100000 in
def sp_all (R : Mem → Mem → Prop) : Prop := sp_feed R ∧ sp_end R ∧ sp_text R ∧ sp_fault R ∧ sp_look R ∧ sp_weight R ∧ sp_chain R ∧ sp_law R ∧ sp_shell R ∧ sp_fill R ∧ sp_parts R ∧ sp_rules R ∧ sp_of R ∧ sp_box R ∧ sp_through R ∧ sp_settled R ∧ sp_steps R ∧ sp_event R ∧ sp_hand R ∧ sp_light R ∧ sp_sheet R ∧ sp_alter R ∧ sp_check R ∧ sp_below R ∧ sp_tone R ∧ sp_seen R ∧ sp_fits R ∧ sp_image R ∧ sp_back R ∧ sp_about R

/-- THE LAW'S LOOP -/
theorem law_loop {D : va_G} {cy : Nat → ClassId} {aX aM : Nat → Nat} {K0 S0 : Nat} {p : Program} {l : Launch} {e : Env} {s : State} {m : MethodId} {below : List Frame} {meth : Method} {c : Code} {b L : Nat} {xs : Nat → Int32} (C : CL D cy aX aM p s m c b L xs) (hlk : meth.locks = false) (hr : meth.sig.returnType = ret) (hL : L ≤ 3072) (hKS : K0 ≤ 600000 ∧ S0 ≤ 7302250) {R : Mem → Mem → Prop} (hs : sp_all R) : ∀ (t i : Nat) (u v : Mem), i ≤ L → L + 1 ≤ i + t → R u v → VL D cy aX aM K0 S0 p l e s m below meth c b (18) ([(0, .ref b), (1, .ref (aX 180)), (2, .ref (aM 0)), (3, .int (nI i))]) ([]) (u) (v) := by
  intro t
  induction t with
  | zero => intro i u v h1 h2; exact absurd h2 (by omega)
  | succ t ih =>
    intro i u v hi ht hR
    obtain ⟨s0, s1, s2, s3, s4, s5, s6, s7, s8, s9, s10, s11, s12, s13, s14, s15, s16, s17, s18, s19, s20, s21, s22, s23, s24, s25, s26, s27, s28, s29⟩ := hs
    refine l_iload_n C 3 dL_law_18 rfl rfl ?_
    refine l_aload_n C 0 dL_law_19 rfl rfl ?_
    refine l_slen C dL_law_20 ?_
    refine l_bipush C (x := 6) dL_law_21 (by decide) ?_
    refine l_isub C dL_law_23 ?_
    refine l_icmp_gt C 1254 dL_law_24 (by decide) (fun z => ?_) (fun z => ?_)
    · intro H locs la hP hM hS hl
      refine lv_iconst (v := 1) C.1 C.2.1 dL_law_1254 (by decide) ?_
      refine va_forget (fun q hq => hS.2.2 q hq) ?_
      refine W.widen (k := 600000) (n := 7302250) hKS.1 hKS.2 ?_
      exact lw_ret C.1 C.2.1 hr hlk dL_law_1255
    · have hi6 : i + 6 ≤ L := by
        rcases Nat.lt_or_ge L (i + 6) with q | q
        · refine absurd ?_ z
          rw [fa_lt5]
          have e1 : (nI i).toInt = i := nI_toInt (by omega)
          have e2 : (nI L - 6).toInt = (L : Int) - 6 := by
            have := pk_sub_toInt (a := L) (b := 6) (by omega) (by omega)
            exact this
          rw [e1, e2]
          omega
        · exact q
      have hnext : ∀ u v, R u v → VL D cy aX aM K0 S0 p l e s m below meth c b (1248) ([(0, .ref b), (1, .ref (aX 180)), (2, .ref (aM 0)), (3, .int (nI i))]) ([]) (u) (v) := by
        intro u v hR
        have e6 : nI i + Int32.ofInt 6 = nI (i + 6) := nI_add i 6
        refine l_iinc C 3 [(3, .int (nI (i + 6))), (0, .ref b), (1, .ref (aX 180)), (2, .ref (aM 0))] dL_law_1248 rfl e6 (by decide) rfl ?_
        refine l_goto C 18 dL_law_1251 (by decide) ?_
        refine l_sub [1, 2, 3, 0] rfl ?_
        exact ih (i + 6) u v hi6 (by omega) hR
      refine l_aload_n C 0 dL_law_27 rfl rfl ?_
      refine l_iload_n C 3 dL_law_28 rfl rfl ?_
      refine l_sld C (j := i) rfl (by omega) hL dL_law_29 ?_
      refine l_bipush C (x := 31) dL_law_30 (by decide) ?_
      refine l_iand C dL_law_32 ?_
      obtain ⟨j, hj, ej⟩ := pk_andE (xs i) (m := 31) 5 (by decide)
      refine l_top ej.symm ?_
      by_cases z0 : j = 0
      · exact l_tabIn C 168 (k0 := 0) (by rw [z0]; rfl) dL_law_33 (by decide) (by decide) (by decide) (by decide) (lc_0 C hL hKS s0 hi6 hR hnext)
      by_cases z1 : j = 1
      · exact l_tabIn C 231 (k0 := 1) (by rw [z1]; rfl) dL_law_33 (by decide) (by decide) (by decide) (by decide) (lc_1 C hL hKS s1 hi6 hR hnext)
      by_cases z2 : j = 2
      · exact l_tabIn C 254 (k0 := 2) (by rw [z2]; rfl) dL_law_33 (by decide) (by decide) (by decide) (by decide) (lc_2 C hL hKS s2 hi6 hR hnext)
      by_cases z3 : j = 3
      · exact l_tabIn C 267 (k0 := 3) (by rw [z3]; rfl) dL_law_33 (by decide) (by decide) (by decide) (by decide) (lc_3 C hL hKS s3 hi6 hR hnext)
      by_cases z4 : j = 4
      · exact l_tabIn C 290 (k0 := 4) (by rw [z4]; rfl) dL_law_33 (by decide) (by decide) (by decide) (by decide) (lc_4 C hL hKS s4 hi6 hR hnext)
      by_cases z5 : j = 5
      · exact l_tabIn C 313 (k0 := 5) (by rw [z5]; rfl) dL_law_33 (by decide) (by decide) (by decide) (by decide) (lc_5 C hL hKS s5 hi6 hR hnext)
      by_cases z6 : j = 6
      · exact l_tabIn C 336 (k0 := 6) (by rw [z6]; rfl) dL_law_33 (by decide) (by decide) (by decide) (by decide) (lc_6 C hL hKS s6 hi6 hR hnext)
      by_cases z7 : j = 7
      · exact l_tabIn C 369 (k0 := 7) (by rw [z7]; rfl) dL_law_33 (by decide) (by decide) (by decide) (by decide) (lc_7 C hL hKS s7 hi6 hR hnext)
      by_cases z8 : j = 8
      · exact l_tabIn C 428 (k0 := 8) (by rw [z8]; rfl) dL_law_33 (by decide) (by decide) (by decide) (by decide) (lc_8 C hL hKS s8 hi6 hR hnext)
      by_cases z9 : j = 9
      · exact l_tabIn C 451 (k0 := 9) (by rw [z9]; rfl) dL_law_33 (by decide) (by decide) (by decide) (by decide) (lc_9 C hL hKS s9 hi6 hR hnext)
      by_cases z10 : j = 10
      · exact l_tabIn C 504 (k0 := 10) (by rw [z10]; rfl) dL_law_33 (by decide) (by decide) (by decide) (by decide) (lc_10 C hL hKS s10 hi6 hR hnext)
      by_cases z11 : j = 11
      · exact l_tabIn C 547 (k0 := 11) (by rw [z11]; rfl) dL_law_33 (by decide) (by decide) (by decide) (by decide) (lc_11 C hL hKS s11 hi6 hR hnext)
      by_cases z12 : j = 12
      · exact l_tabIn C 590 (k0 := 12) (by rw [z12]; rfl) dL_law_33 (by decide) (by decide) (by decide) (by decide) (lc_12 C hL hKS s12 hi6 hR hnext)
      by_cases z13 : j = 13
      · exact l_tabIn C 633 (k0 := 13) (by rw [z13]; rfl) dL_law_33 (by decide) (by decide) (by decide) (by decide) (lc_13 C hL hKS s13 hi6 hR hnext)
      by_cases z14 : j = 14
      · exact l_tabIn C 702 (k0 := 14) (by rw [z14]; rfl) dL_law_33 (by decide) (by decide) (by decide) (by decide) (lc_14 C hL hKS s14 hi6 hR hnext)
      by_cases z15 : j = 15
      · exact l_tabIn C 762 (k0 := 15) (by rw [z15]; rfl) dL_law_33 (by decide) (by decide) (by decide) (by decide) (lc_15 C hL hKS s15 hi6 hR hnext)
      by_cases z16 : j = 16
      · exact l_tabIn C 785 (k0 := 16) (by rw [z16]; rfl) dL_law_33 (by decide) (by decide) (by decide) (by decide) (lc_16 C hL hKS s16 hi6 hR hnext)
      by_cases z17 : j = 17
      · exact l_tabIn C 818 (k0 := 17) (by rw [z17]; rfl) dL_law_33 (by decide) (by decide) (by decide) (by decide) (lc_17 C hL hKS s17 hi6 hR hnext)
      by_cases z18 : j = 18
      · exact l_tabIn C 851 (k0 := 18) (by rw [z18]; rfl) dL_law_33 (by decide) (by decide) (by decide) (by decide) (lc_18 C hL hKS s18 hi6 hR hnext)
      by_cases z19 : j = 19
      · exact l_tabIn C 884 (k0 := 19) (by rw [z19]; rfl) dL_law_33 (by decide) (by decide) (by decide) (by decide) (lc_19 C hL hKS s19 hi6 hR hnext)
      by_cases z20 : j = 20
      · exact l_tabIn C 928 (k0 := 20) (by rw [z20]; rfl) dL_law_33 (by decide) (by decide) (by decide) (by decide) (lc_20 C hL hKS s20 hi6 hR hnext)
      by_cases z21 : j = 21
      · exact l_tabIn C 951 (k0 := 21) (by rw [z21]; rfl) dL_law_33 (by decide) (by decide) (by decide) (by decide) (lc_21 C hL hKS s21 hi6 hR hnext)
      by_cases z22 : j = 22
      · exact l_tabIn C 1024 (k0 := 22) (by rw [z22]; rfl) dL_law_33 (by decide) (by decide) (by decide) (by decide) (lc_22 C hL hKS s22 hi6 hR hnext)
      by_cases z23 : j = 23
      · exact l_tabIn C 1047 (k0 := 23) (by rw [z23]; rfl) dL_law_33 (by decide) (by decide) (by decide) (by decide) (lc_23 C hL hKS s23 hi6 hR hnext)
      by_cases z24 : j = 24
      · exact l_tabIn C 1080 (k0 := 24) (by rw [z24]; rfl) dL_law_33 (by decide) (by decide) (by decide) (by decide) (lc_24 C hL hKS s24 hi6 hR hnext)
      by_cases z25 : j = 25
      · exact l_tabIn C 1113 (k0 := 25) (by rw [z25]; rfl) dL_law_33 (by decide) (by decide) (by decide) (by decide) (lc_25 C hL hKS s25 hi6 hR hnext)
      by_cases z26 : j = 26
      · exact l_tabIn C 1166 (k0 := 26) (by rw [z26]; rfl) dL_law_33 (by decide) (by decide) (by decide) (by decide) (lc_26 C hL hKS s26 hi6 hR hnext)
      by_cases z27 : j = 27
      · exact l_tabIn C 1199 (k0 := 27) (by rw [z27]; rfl) dL_law_33 (by decide) (by decide) (by decide) (by decide) (lc_27 C hL hKS s27 hi6 hR hnext)
      by_cases z28 : j = 28
      · exact l_tabIn C 1212 (k0 := 28) (by rw [z28]; rfl) dL_law_33 (by decide) (by decide) (by decide) (by decide) (lc_28 C hL hKS s28 hi6 hR hnext)
      by_cases z29 : j = 29
      · exact l_tabIn C 1225 (k0 := 29) (by rw [z29]; rfl) dL_law_33 (by decide) (by decide) (by decide) (by decide) (lc_29 C hL hKS s29 hi6 hR hnext)
      exact l_tabOut C 1248 dL_law_33 (Or.inr (by rw [nI_toInt (by omega)]; omega)) (by decide) (hnext u v hR)
