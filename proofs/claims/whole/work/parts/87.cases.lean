set_option maxHeartbeats 1000000 in
theorem law_c0 {E : jE} {nm : String} {S : Array Value → State → Prop} {b len i f : Nat} {xs : Nat → Int32} (hS : ∀ args s, S args s → va_X b len xs s s.heap ∧ b < s.heap.size ∧ s.heap.size = E.1) (hlen : len ≤ 3072) (hi6 : i + 6 ≤ len) (kont : ∀ (h2 : Nat → va_E) (n2 k1 k2 : Nat), Inv E h2 n2 → k1 + 11 * f ≤ 600000 → k2 + 228 * f ≤ 7302250 → J E (mLaw nm) (40, 600000, 7302250) S (fun v _ _ => v = some (.int 1)) h2 n2 (k1, k2) 1265 [(3, .int (nI i)), (2, .ref (E.1 + 38)), (1, .ref (E.1 + 0)), (0, .ref b)] []) {h : Nat → va_E} {n k1 k2 : Nat} (hI : Inv E h n) (hk1 : k1 + 11 * (f + 1) ≤ 600000) (hk2 : k2 + 228 * (f + 1) ≤ 7302250) : J E (mLaw nm) (40, 600000, 7302250) S (fun v _ _ => v = some (.int 1)) h n (k1, k2) 188 [(3, .int (nI i)), (2, .ref (E.1 + 38)), (1, .ref (E.1 + 0)), (0, .ref b)] [] := by
  obtain ⟨fs0, hc0, hn0⟩ := Inv_0 hI
  refine J_aload_n dL_law_188 rfl ?_
  refine J_aload_n dL_law_189 rfl ?_
  refine J_iload_n dL_law_190 rfl ?_
  refine J_iconst (v := nI 1) dL_law_191 (by decide +kernel) ?_
  refine J_iaddN dL_law_192 ?_
  refine J_sld hS (i := i + 1) (by omega) (by omega) dL_law_193 ?_
  refine J_callV (M' := mX7_street) (d' := (3, 0, 0)) (rest := []) dL_law_194 jmX7_street jlRL_13 (sim_street (uX (xs (i + 1))) (uX_lt _) hI) hc0 hn0 jk7.1 rfl rfl (Nat.le_of_ble_eq_true rfl) (Nat.le_of_ble_eq_true rfl) (by constructor <;> simp only [] <;> omega) (fun v1 h1 n1 q1 => ?_)
  obtain ⟨y, fs1, rfl, hm1, hn1, C8⟩ := q1
  refine J.stk (st' := [.int y]) rfl ?_
  refine J_aload_n dL_law_197 rfl ?_
  refine J_aload_n dL_law_198 rfl ?_
  refine J_iload_n dL_law_199 rfl ?_
  refine J_iconst (v := nI 1) dL_law_200 (by decide +kernel) ?_
  refine J_iaddN dL_law_201 ?_
  refine J_sld hS (i := i + 1) (by omega) (by omega) dL_law_202 ?_
  refine J_callV (M' := mX8_street) (d' := (2, 0, 0)) (rest := [.int y]) dL_law_203 jmX8_street jlRL_17 C8 hm1 hn1 jk8.1 rfl rfl (Nat.le_of_ble_eq_true rfl) (Nat.le_of_ble_eq_true rfl) (by constructor <;> simp only [] <;> omega) (fun v2 h2 n2 q2 => ?_)
  obtain ⟨rfl, hI2⟩ := q2
  refine J.stk (st' := [.int y, .int y]) rfl ?_
  refine J_icmp_eq (tgt := 1265) dL_law_206 (by decide) (fun _ => ?_) (fun z => absurd rfl z)
  exact kont _ _ _ _ hI2 (by simp only []; omega) (by simp only []; omega)
set_option maxHeartbeats 1000000 in
theorem law_c1 {E : jE} {nm : String} {S : Array Value → State → Prop} {b len i f : Nat} {xs : Nat → Int32} (hS : ∀ args s, S args s → va_X b len xs s s.heap ∧ b < s.heap.size ∧ s.heap.size = E.1) (hlen : len ≤ 3072) (hi6 : i + 6 ≤ len) (kont : ∀ (h2 : Nat → va_E) (n2 k1 k2 : Nat), Inv E h2 n2 → k1 + 11 * f ≤ 600000 → k2 + 228 * f ≤ 7302250 → J E (mLaw nm) (40, 600000, 7302250) S (fun v _ _ => v = some (.int 1)) h2 n2 (k1, k2) 1265 [(3, .int (nI i)), (2, .ref (E.1 + 38)), (1, .ref (E.1 + 0)), (0, .ref b)] []) {h : Nat → va_E} {n k1 k2 : Nat} (hI : Inv E h n) (hk1 : k1 + 11 * (f + 1) ≤ 600000) (hk2 : k2 + 228 * (f + 1) ≤ 7302250) : J E (mLaw nm) (40, 600000, 7302250) S (fun v _ _ => v = some (.int 1)) h n (k1, k2) 211 [(3, .int (nI i)), (2, .ref (E.1 + 38)), (1, .ref (E.1 + 0)), (0, .ref b)] [] := by
  obtain ⟨fs0, hc0, hn0⟩ := Inv_0 hI
  refine J_aload_n dL_law_211 rfl ?_
  refine J_aload_n dL_law_212 rfl ?_
  refine J_iload_n dL_law_213 rfl ?_
  refine J_iconst (v := nI 1) dL_law_214 (by decide +kernel) ?_
  refine J_iaddN dL_law_215 ?_
  refine J_sld hS (i := i + 1) (by omega) (by omega) dL_law_216 ?_
  refine J_aload_n dL_law_217 rfl ?_
  refine J_iload_n dL_law_218 rfl ?_
  refine J_iconst (v := nI 2) dL_law_219 (by decide +kernel) ?_
  refine J_iaddN dL_law_220 ?_
  refine J_sld hS (i := i + 2) (by omega) (by omega) dL_law_221 ?_
  refine J_aload_n dL_law_222 rfl ?_
  refine J_iload_n dL_law_223 rfl ?_
  refine J_iconst (v := nI 3) dL_law_224 (by decide +kernel) ?_
  refine J_iaddN dL_law_225 ?_
  refine J_sld hS (i := i + 3) (by omega) (by omega) dL_law_226 ?_
  refine J_aload_n dL_law_227 rfl ?_
  refine J_iload_n dL_law_228 rfl ?_
  refine J_iconst (v := nI 4) dL_law_229 (by decide +kernel) ?_
  refine J_iaddN dL_law_230 ?_
  refine J_sld hS (i := i + 4) (by omega) (by omega) dL_law_231 ?_
  refine J_aload_n dL_law_232 rfl ?_
  refine J_iload_n dL_law_233 rfl ?_
  refine J_iconst (v := nI 5) dL_law_234 (by decide +kernel) ?_
  refine J_iaddN dL_law_235 ?_
  refine J_sld hS (i := i + 5) (by omega) (by omega) dL_law_236 ?_
  refine J_callV (M' := mX7_anvil) (d' := (3, 0, 0)) (rest := []) dL_law_237 jmX7_anvil jlRL_18 (sim_anvil (uX (xs (i + 1))) (uX (xs (i + 2))) (uX (xs (i + 3))) (uX (xs (i + 4))) (uX (xs (i + 5))) (uX_lt _) (uX_lt _) (uX_lt _) (uX_lt _) (uX_lt _) hI) hc0 hn0 jk7.1 rfl rfl (Nat.le_of_ble_eq_true rfl) (Nat.le_of_ble_eq_true rfl) (by constructor <;> simp only [] <;> omega) (fun v1 h1 n1 q1 => ?_)
  obtain ⟨y, fs1, rfl, hm1, hn1, C8⟩ := q1
  refine J.stk (st' := [.int y]) rfl ?_
  refine J_aload_n dL_law_240 rfl ?_
  refine J_aload_n dL_law_241 rfl ?_
  refine J_iload_n dL_law_242 rfl ?_
  refine J_iconst (v := nI 1) dL_law_243 (by decide +kernel) ?_
  refine J_iaddN dL_law_244 ?_
  refine J_sld hS (i := i + 1) (by omega) (by omega) dL_law_245 ?_
  refine J_aload_n dL_law_246 rfl ?_
  refine J_iload_n dL_law_247 rfl ?_
  refine J_iconst (v := nI 2) dL_law_248 (by decide +kernel) ?_
  refine J_iaddN dL_law_249 ?_
  refine J_sld hS (i := i + 2) (by omega) (by omega) dL_law_250 ?_
  refine J_aload_n dL_law_251 rfl ?_
  refine J_iload_n dL_law_252 rfl ?_
  refine J_iconst (v := nI 3) dL_law_253 (by decide +kernel) ?_
  refine J_iaddN dL_law_254 ?_
  refine J_sld hS (i := i + 3) (by omega) (by omega) dL_law_255 ?_
  refine J_aload_n dL_law_256 rfl ?_
  refine J_iload_n dL_law_257 rfl ?_
  refine J_iconst (v := nI 4) dL_law_258 (by decide +kernel) ?_
  refine J_iaddN dL_law_259 ?_
  refine J_sld hS (i := i + 4) (by omega) (by omega) dL_law_260 ?_
  refine J_aload_n dL_law_261 rfl ?_
  refine J_iload_n dL_law_262 rfl ?_
  refine J_iconst (v := nI 5) dL_law_263 (by decide +kernel) ?_
  refine J_iaddN dL_law_264 ?_
  refine J_sld hS (i := i + 5) (by omega) (by omega) dL_law_265 ?_
  refine J_callV (M' := mX8_anvil) (d' := (3, 0, 0)) (rest := [.int y]) dL_law_266 jmX8_anvil jlRL_22 C8 hm1 hn1 jk8.1 rfl rfl (Nat.le_of_ble_eq_true rfl) (Nat.le_of_ble_eq_true rfl) (by constructor <;> simp only [] <;> omega) (fun v2 h2 n2 q2 => ?_)
  obtain ⟨rfl, hI2⟩ := q2
  refine J.stk (st' := [.int y, .int y]) rfl ?_
  refine J_icmp_eq (tgt := 1265) dL_law_269 (by decide) (fun _ => ?_) (fun z => absurd rfl z)
  exact kont _ _ _ _ hI2 (by simp only []; omega) (by simp only []; omega)
set_option maxHeartbeats 1000000 in
theorem law_c2 {E : jE} {nm : String} {S : Array Value → State → Prop} {b len i f : Nat} {xs : Nat → Int32} (hS : ∀ args s, S args s → va_X b len xs s s.heap ∧ b < s.heap.size ∧ s.heap.size = E.1) (hlen : len ≤ 3072) (hi6 : i + 6 ≤ len) (kont : ∀ (h2 : Nat → va_E) (n2 k1 k2 : Nat), Inv E h2 n2 → k1 + 11 * f ≤ 600000 → k2 + 228 * f ≤ 7302250 → J E (mLaw nm) (40, 600000, 7302250) S (fun v _ _ => v = some (.int 1)) h2 n2 (k1, k2) 1265 [(3, .int (nI i)), (2, .ref (E.1 + 38)), (1, .ref (E.1 + 0)), (0, .ref b)] []) {h : Nat → va_E} {n k1 k2 : Nat} (hI : Inv E h n) (hk1 : k1 + 11 * (f + 1) ≤ 600000) (hk2 : k2 + 228 * (f + 1) ≤ 7302250) : J E (mLaw nm) (40, 600000, 7302250) S (fun v _ _ => v = some (.int 1)) h n (k1, k2) 274 [(3, .int (nI i)), (2, .ref (E.1 + 38)), (1, .ref (E.1 + 0)), (0, .ref b)] [] := by
  obtain ⟨fs0, hc0, hn0⟩ := Inv_0 hI
  refine J_aload_n dL_law_274 rfl ?_
  refine J_aload_n dL_law_275 rfl ?_
  refine J_iload_n dL_law_276 rfl ?_
  refine J_iconst (v := nI 1) dL_law_277 (by decide +kernel) ?_
  refine J_iaddN dL_law_278 ?_
  refine J_sld hS (i := i + 1) (by omega) (by omega) dL_law_279 ?_
  refine J_callV (M' := mX7_type) (d' := (2, 0, 0)) (rest := []) dL_law_280 jmX7_type jlRL_23 (sim_type (uX (xs (i + 1))) (uX_lt _) hI) hc0 hn0 jk7.1 rfl rfl (Nat.le_of_ble_eq_true rfl) (Nat.le_of_ble_eq_true rfl) (by constructor <;> simp only [] <;> omega) (fun v1 h1 n1 q1 => ?_)
  obtain ⟨y, fs1, rfl, hm1, hn1, C8⟩ := q1
  refine J.stk (st' := [.int y]) rfl ?_
  refine J_aload_n dL_law_283 rfl ?_
  refine J_aload_n dL_law_284 rfl ?_
  refine J_iload_n dL_law_285 rfl ?_
  refine J_iconst (v := nI 1) dL_law_286 (by decide +kernel) ?_
  refine J_iaddN dL_law_287 ?_
  refine J_sld hS (i := i + 1) (by omega) (by omega) dL_law_288 ?_
  refine J_callV (M' := mX8_type) (d' := (2, 0, 0)) (rest := [.int y]) dL_law_289 jmX8_type jlRL_26 C8 hm1 hn1 jk8.1 rfl rfl (Nat.le_of_ble_eq_true rfl) (Nat.le_of_ble_eq_true rfl) (by constructor <;> simp only [] <;> omega) (fun v2 h2 n2 q2 => ?_)
  obtain ⟨rfl, hI2⟩ := q2
  refine J.stk (st' := [.int y, .int y]) rfl ?_
  refine J_icmp_eq (tgt := 1265) dL_law_292 (by decide) (fun _ => ?_) (fun z => absurd rfl z)
  exact kont _ _ _ _ hI2 (by simp only []; omega) (by simp only []; omega)
set_option maxHeartbeats 1000000 in
theorem law_c3 {E : jE} {nm : String} {S : Array Value → State → Prop} {b len i f : Nat} {xs : Nat → Int32} (hS : ∀ args s, S args s → va_X b len xs s s.heap ∧ b < s.heap.size ∧ s.heap.size = E.1) (hlen : len ≤ 3072) (hi6 : i + 6 ≤ len) (kont : ∀ (h2 : Nat → va_E) (n2 k1 k2 : Nat), Inv E h2 n2 → k1 + 11 * f ≤ 600000 → k2 + 228 * f ≤ 7302250 → J E (mLaw nm) (40, 600000, 7302250) S (fun v _ _ => v = some (.int 1)) h2 n2 (k1, k2) 1265 [(3, .int (nI i)), (2, .ref (E.1 + 38)), (1, .ref (E.1 + 0)), (0, .ref b)] []) {h : Nat → va_E} {n k1 k2 : Nat} (hI : Inv E h n) (hk1 : k1 + 11 * (f + 1) ≤ 600000) (hk2 : k2 + 228 * (f + 1) ≤ 7302250) : J E (mLaw nm) (40, 600000, 7302250) S (fun v _ _ => v = some (.int 1)) h n (k1, k2) 297 [(3, .int (nI i)), (2, .ref (E.1 + 38)), (1, .ref (E.1 + 0)), (0, .ref b)] [] := by
  obtain ⟨fs0, hc0, hn0⟩ := Inv_0 hI
  refine J_aload_n dL_law_297 rfl ?_
  refine J_callV (M' := mX7_clear) (d' := (1, 0, 0)) (rest := []) dL_law_298 jmX7_clear jlRL_27 (sim_clear   hI) hc0 hn0 jk7.1 rfl rfl (Nat.le_of_ble_eq_true rfl) (Nat.le_of_ble_eq_true rfl) (by constructor <;> simp only [] <;> omega) (fun v1 h1 n1 q1 => ?_)
  obtain ⟨y, fs1, rfl, hm1, hn1, C8⟩ := q1
  refine J.stk (st' := [.int y]) rfl ?_
  refine J_aload_n dL_law_301 rfl ?_
  refine J_callV (M' := mX8_clear) (d' := (1, 0, 0)) (rest := [.int y]) dL_law_302 jmX8_clear jlRL_31 C8 hm1 hn1 jk8.1 rfl rfl (Nat.le_of_ble_eq_true rfl) (Nat.le_of_ble_eq_true rfl) (by constructor <;> simp only [] <;> omega) (fun v2 h2 n2 q2 => ?_)
  obtain ⟨rfl, hI2⟩ := q2
  refine J.stk (st' := [.int y, .int y]) rfl ?_
  refine J_icmp_eq (tgt := 1265) dL_law_305 (by decide) (fun _ => ?_) (fun z => absurd rfl z)
  exact kont _ _ _ _ hI2 (by simp only []; omega) (by simp only []; omega)
set_option maxHeartbeats 1000000 in
theorem law_c4 {E : jE} {nm : String} {S : Array Value → State → Prop} {b len i f : Nat} {xs : Nat → Int32} (hS : ∀ args s, S args s → va_X b len xs s s.heap ∧ b < s.heap.size ∧ s.heap.size = E.1) (hlen : len ≤ 3072) (hi6 : i + 6 ≤ len) (kont : ∀ (h2 : Nat → va_E) (n2 k1 k2 : Nat), Inv E h2 n2 → k1 + 11 * f ≤ 600000 → k2 + 228 * f ≤ 7302250 → J E (mLaw nm) (40, 600000, 7302250) S (fun v _ _ => v = some (.int 1)) h2 n2 (k1, k2) 1265 [(3, .int (nI i)), (2, .ref (E.1 + 38)), (1, .ref (E.1 + 0)), (0, .ref b)] []) {h : Nat → va_E} {n k1 k2 : Nat} (hI : Inv E h n) (hk1 : k1 + 11 * (f + 1) ≤ 600000) (hk2 : k2 + 228 * (f + 1) ≤ 7302250) : J E (mLaw nm) (40, 600000, 7302250) S (fun v _ _ => v = some (.int 1)) h n (k1, k2) 310 [(3, .int (nI i)), (2, .ref (E.1 + 38)), (1, .ref (E.1 + 0)), (0, .ref b)] [] := by
  obtain ⟨fs0, hc0, hn0⟩ := Inv_0 hI
  refine J_aload_n dL_law_310 rfl ?_
  refine J_callV (M' := mX7_read) (d' := (9, 0, 0)) (rest := []) dL_law_311 jmX7_read jlRL_32 (sim_read   hI) hc0 hn0 jk7.1 rfl rfl (Nat.le_of_ble_eq_true rfl) (Nat.le_of_ble_eq_true rfl) (by constructor <;> simp only [] <;> omega) (fun v1 h1 n1 q1 => ?_)
  obtain ⟨y, fs1, rfl, hm1, hn1, C8⟩ := q1
  refine J.stk (st' := [.int y]) rfl ?_
  refine J_aload_n dL_law_314 rfl ?_
  refine J_callV (M' := mX8_read) (d' := (8, 0, 0)) (rest := [.int y]) dL_law_315 jmX8_read jlRL_35 C8 hm1 hn1 jk8.1 rfl rfl (Nat.le_of_ble_eq_true rfl) (Nat.le_of_ble_eq_true rfl) (by constructor <;> simp only [] <;> omega) (fun v2 h2 n2 q2 => ?_)
  obtain ⟨rfl, hI2⟩ := q2
  refine J.stk (st' := [.int y, .int y]) rfl ?_
  refine J_icmp_eq (tgt := 1265) dL_law_318 (by decide) (fun _ => ?_) (fun z => absurd rfl z)
  exact kont _ _ _ _ hI2 (by simp only []; omega) (by simp only []; omega)
set_option maxHeartbeats 1000000 in
theorem law_c5 {E : jE} {nm : String} {S : Array Value → State → Prop} {b len i f : Nat} {xs : Nat → Int32} (hS : ∀ args s, S args s → va_X b len xs s s.heap ∧ b < s.heap.size ∧ s.heap.size = E.1) (hlen : len ≤ 3072) (hi6 : i + 6 ≤ len) (kont : ∀ (h2 : Nat → va_E) (n2 k1 k2 : Nat), Inv E h2 n2 → k1 + 11 * f ≤ 600000 → k2 + 228 * f ≤ 7302250 → J E (mLaw nm) (40, 600000, 7302250) S (fun v _ _ => v = some (.int 1)) h2 n2 (k1, k2) 1265 [(3, .int (nI i)), (2, .ref (E.1 + 38)), (1, .ref (E.1 + 0)), (0, .ref b)] []) {h : Nat → va_E} {n k1 k2 : Nat} (hI : Inv E h n) (hk1 : k1 + 11 * (f + 1) ≤ 600000) (hk2 : k2 + 228 * (f + 1) ≤ 7302250) : J E (mLaw nm) (40, 600000, 7302250) S (fun v _ _ => v = some (.int 1)) h n (k1, k2) 323 [(3, .int (nI i)), (2, .ref (E.1 + 38)), (1, .ref (E.1 + 0)), (0, .ref b)] [] := by
  obtain ⟨fs0, hc0, hn0⟩ := Inv_0 hI
  refine J_aload_n dL_law_323 rfl ?_
  refine J_aload_n dL_law_324 rfl ?_
  refine J_iload_n dL_law_325 rfl ?_
  refine J_iconst (v := nI 1) dL_law_326 (by decide +kernel) ?_
  refine J_iaddN dL_law_327 ?_
  refine J_sld hS (i := i + 1) (by omega) (by omega) dL_law_328 ?_
  refine J_aload_n dL_law_329 rfl ?_
  refine J_iload_n dL_law_330 rfl ?_
  refine J_iconst (v := nI 2) dL_law_331 (by decide +kernel) ?_
  refine J_iaddN dL_law_332 ?_
  refine J_sld hS (i := i + 2) (by omega) (by omega) dL_law_333 ?_
  refine J_aload_n dL_law_334 rfl ?_
  refine J_iload_n dL_law_335 rfl ?_
  refine J_iconst (v := nI 3) dL_law_336 (by decide +kernel) ?_
  refine J_iaddN dL_law_337 ?_
  refine J_sld hS (i := i + 3) (by omega) (by omega) dL_law_338 ?_
  refine J_callV (M' := mX7_work) (d' := (5, 0, 0)) (rest := []) dL_law_339 jmX7_work jlRL_36 (sim_work (uX (xs (i + 1))) (uX (xs (i + 2))) (uX (xs (i + 3))) (uX_lt _) (uX_lt _) (uX_lt _) hI) hc0 hn0 jk7.1 rfl rfl (Nat.le_of_ble_eq_true rfl) (Nat.le_of_ble_eq_true rfl) (by constructor <;> simp only [] <;> omega) (fun v1 h1 n1 q1 => ?_)
  obtain ⟨y, fs1, rfl, hm1, hn1, C8⟩ := q1
  refine J.stk (st' := [.int y]) rfl ?_
  refine J_aload_n dL_law_342 rfl ?_
  refine J_aload_n dL_law_343 rfl ?_
  refine J_iload_n dL_law_344 rfl ?_
  refine J_iconst (v := nI 1) dL_law_345 (by decide +kernel) ?_
  refine J_iaddN dL_law_346 ?_
  refine J_sld hS (i := i + 1) (by omega) (by omega) dL_law_347 ?_
  refine J_aload_n dL_law_348 rfl ?_
  refine J_iload_n dL_law_349 rfl ?_
  refine J_iconst (v := nI 2) dL_law_350 (by decide +kernel) ?_
  refine J_iaddN dL_law_351 ?_
  refine J_sld hS (i := i + 2) (by omega) (by omega) dL_law_352 ?_
  refine J_aload_n dL_law_353 rfl ?_
  refine J_iload_n dL_law_354 rfl ?_
  refine J_iconst (v := nI 3) dL_law_355 (by decide +kernel) ?_
  refine J_iaddN dL_law_356 ?_
  refine J_sld hS (i := i + 3) (by omega) (by omega) dL_law_357 ?_
  refine J_callV (M' := mX8_work) (d' := (5, 0, 0)) (rest := [.int y]) dL_law_358 jmX8_work jlRL_40 C8 hm1 hn1 jk8.1 rfl rfl (Nat.le_of_ble_eq_true rfl) (Nat.le_of_ble_eq_true rfl) (by constructor <;> simp only [] <;> omega) (fun v2 h2 n2 q2 => ?_)
  obtain ⟨rfl, hI2⟩ := q2
  refine J.stk (st' := [.int y, .int y]) rfl ?_
  refine J_icmp_eq (tgt := 1265) dL_law_361 (by decide) (fun _ => ?_) (fun z => absurd rfl z)
  exact kont _ _ _ _ hI2 (by simp only []; omega) (by simp only []; omega)
set_option maxHeartbeats 1000000 in
theorem law_c6 {E : jE} {nm : String} {S : Array Value → State → Prop} {b len i f : Nat} {xs : Nat → Int32} (hS : ∀ args s, S args s → va_X b len xs s s.heap ∧ b < s.heap.size ∧ s.heap.size = E.1) (hlen : len ≤ 3072) (hi6 : i + 6 ≤ len) (kont : ∀ (h2 : Nat → va_E) (n2 k1 k2 : Nat), Inv E h2 n2 → k1 + 11 * f ≤ 600000 → k2 + 228 * f ≤ 7302250 → J E (mLaw nm) (40, 600000, 7302250) S (fun v _ _ => v = some (.int 1)) h2 n2 (k1, k2) 1265 [(3, .int (nI i)), (2, .ref (E.1 + 38)), (1, .ref (E.1 + 0)), (0, .ref b)] []) {h : Nat → va_E} {n k1 k2 : Nat} (hI : Inv E h n) (hk1 : k1 + 11 * (f + 1) ≤ 600000) (hk2 : k2 + 228 * (f + 1) ≤ 7302250) : J E (mLaw nm) (40, 600000, 7302250) S (fun v _ _ => v = some (.int 1)) h n (k1, k2) 366 [(3, .int (nI i)), (2, .ref (E.1 + 38)), (1, .ref (E.1 + 0)), (0, .ref b)] [] := by
  obtain ⟨fs0, hc0, hn0⟩ := Inv_0 hI
  refine J_aload_n dL_law_366 rfl ?_
  refine J_aload_n dL_law_367 rfl ?_
  refine J_iload_n dL_law_368 rfl ?_
  refine J_iconst (v := nI 1) dL_law_369 (by decide +kernel) ?_
  refine J_iaddN dL_law_370 ?_
  refine J_sld hS (i := i + 1) (by omega) (by omega) dL_law_371 ?_
  refine J_callV (M' := mX7_day) (d' := (5, 0, 0)) (rest := []) dL_law_372 jmX7_day jlRL_41 (sim_day (uX (xs (i + 1))) (uX_lt _) hI) hc0 hn0 jk7.1 rfl rfl (Nat.le_of_ble_eq_true rfl) (Nat.le_of_ble_eq_true rfl) (by constructor <;> simp only [] <;> omega) (fun v1 h1 n1 q1 => ?_)
  obtain ⟨y, fs1, rfl, hm1, hn1, C8⟩ := q1
  refine J.stk (st' := [.int y]) rfl ?_
  refine J_aload_n dL_law_375 rfl ?_
  refine J_aload_n dL_law_376 rfl ?_
  refine J_iload_n dL_law_377 rfl ?_
  refine J_iconst (v := nI 1) dL_law_378 (by decide +kernel) ?_
  refine J_iaddN dL_law_379 ?_
  refine J_sld hS (i := i + 1) (by omega) (by omega) dL_law_380 ?_
  refine J_callV (M' := mX8_day) (d' := (3, 0, 0)) (rest := [.int y]) dL_law_381 jmX8_day jlRL_44 C8 hm1 hn1 jk8.1 rfl rfl (Nat.le_of_ble_eq_true rfl) (Nat.le_of_ble_eq_true rfl) (by constructor <;> simp only [] <;> omega) (fun v2 h2 n2 q2 => ?_)
  obtain ⟨rfl, hI2⟩ := q2
  refine J.stk (st' := [.int y, .int y]) rfl ?_
  refine J_icmp_eq (tgt := 1265) dL_law_384 (by decide) (fun _ => ?_) (fun z => absurd rfl z)
  exact kont _ _ _ _ hI2 (by simp only []; omega) (by simp only []; omega)
set_option maxHeartbeats 1000000 in
theorem law_c7 {E : jE} {nm : String} {S : Array Value → State → Prop} {b len i f : Nat} {xs : Nat → Int32} (hS : ∀ args s, S args s → va_X b len xs s s.heap ∧ b < s.heap.size ∧ s.heap.size = E.1) (hlen : len ≤ 3072) (hi6 : i + 6 ≤ len) (kont : ∀ (h2 : Nat → va_E) (n2 k1 k2 : Nat), Inv E h2 n2 → k1 + 11 * f ≤ 600000 → k2 + 228 * f ≤ 7302250 → J E (mLaw nm) (40, 600000, 7302250) S (fun v _ _ => v = some (.int 1)) h2 n2 (k1, k2) 1265 [(3, .int (nI i)), (2, .ref (E.1 + 38)), (1, .ref (E.1 + 0)), (0, .ref b)] []) {h : Nat → va_E} {n k1 k2 : Nat} (hI : Inv E h n) (hk1 : k1 + 11 * (f + 1) ≤ 600000) (hk2 : k2 + 228 * (f + 1) ≤ 7302250) : J E (mLaw nm) (40, 600000, 7302250) S (fun v _ _ => v = some (.int 1)) h n (k1, k2) 389 [(3, .int (nI i)), (2, .ref (E.1 + 38)), (1, .ref (E.1 + 0)), (0, .ref b)] [] := by
  obtain ⟨fs0, hc0, hn0⟩ := Inv_0 hI
  refine J_aload_n dL_law_389 rfl ?_
  refine J_aload_n dL_law_390 rfl ?_
  refine J_iload_n dL_law_391 rfl ?_
  refine J_iconst (v := nI 1) dL_law_392 (by decide +kernel) ?_
  refine J_iaddN dL_law_393 ?_
  refine J_sld hS (i := i + 1) (by omega) (by omega) dL_law_394 ?_
  refine J_aload_n dL_law_395 rfl ?_
  refine J_iload_n dL_law_396 rfl ?_
  refine J_iconst (v := nI 2) dL_law_397 (by decide +kernel) ?_
  refine J_iaddN dL_law_398 ?_
  refine J_sld hS (i := i + 2) (by omega) (by omega) dL_law_399 ?_
  refine J_callV (M' := mX7_salt) (d' := (4, 0, 0)) (rest := []) dL_law_400 jmX7_salt jlRL_45 (sim_salt (uX (xs (i + 1))) (uX (xs (i + 2))) (uX_lt _) (uX_lt _) hI) hc0 hn0 jk7.1 rfl rfl (Nat.le_of_ble_eq_true rfl) (Nat.le_of_ble_eq_true rfl) (by constructor <;> simp only [] <;> omega) (fun v1 h1 n1 q1 => ?_)
  obtain ⟨y, fs1, rfl, hm1, hn1, C8⟩ := q1
  refine J.stk (st' := [.int y]) rfl ?_
  refine J_aload_n dL_law_403 rfl ?_
  refine J_aload_n dL_law_404 rfl ?_
  refine J_iload_n dL_law_405 rfl ?_
  refine J_iconst (v := nI 1) dL_law_406 (by decide +kernel) ?_
  refine J_iaddN dL_law_407 ?_
  refine J_sld hS (i := i + 1) (by omega) (by omega) dL_law_408 ?_
  refine J_aload_n dL_law_409 rfl ?_
  refine J_iload_n dL_law_410 rfl ?_
  refine J_iconst (v := nI 2) dL_law_411 (by decide +kernel) ?_
  refine J_iaddN dL_law_412 ?_
  refine J_sld hS (i := i + 2) (by omega) (by omega) dL_law_413 ?_
  refine J_callV (M' := mX8_salt) (d' := (3, 0, 0)) (rest := [.int y]) dL_law_414 jmX8_salt jlRL_49 C8 hm1 hn1 jk8.1 rfl rfl (Nat.le_of_ble_eq_true rfl) (Nat.le_of_ble_eq_true rfl) (by constructor <;> simp only [] <;> omega) (fun v2 h2 n2 q2 => ?_)
  obtain ⟨rfl, hI2⟩ := q2
  refine J.stk (st' := [.int y, .int y]) rfl ?_
  refine J_icmp_eq (tgt := 1265) dL_law_417 (by decide) (fun _ => ?_) (fun z => absurd rfl z)
  exact kont _ _ _ _ hI2 (by simp only []; omega) (by simp only []; omega)
set_option maxHeartbeats 1000000 in
theorem law_c8 {E : jE} {nm : String} {S : Array Value → State → Prop} {b len i f : Nat} {xs : Nat → Int32} (hS : ∀ args s, S args s → va_X b len xs s s.heap ∧ b < s.heap.size ∧ s.heap.size = E.1) (hlen : len ≤ 3072) (hi6 : i + 6 ≤ len) (kont : ∀ (h2 : Nat → va_E) (n2 k1 k2 : Nat), Inv E h2 n2 → k1 + 11 * f ≤ 600000 → k2 + 228 * f ≤ 7302250 → J E (mLaw nm) (40, 600000, 7302250) S (fun v _ _ => v = some (.int 1)) h2 n2 (k1, k2) 1265 [(3, .int (nI i)), (2, .ref (E.1 + 38)), (1, .ref (E.1 + 0)), (0, .ref b)] []) {h : Nat → va_E} {n k1 k2 : Nat} (hI : Inv E h n) (hk1 : k1 + 11 * (f + 1) ≤ 600000) (hk2 : k2 + 228 * (f + 1) ≤ 7302250) : J E (mLaw nm) (40, 600000, 7302250) S (fun v _ _ => v = some (.int 1)) h n (k1, k2) 422 [(3, .int (nI i)), (2, .ref (E.1 + 38)), (1, .ref (E.1 + 0)), (0, .ref b)] [] := by
  obtain ⟨fs0, hc0, hn0⟩ := Inv_0 hI
  refine J_aload_n dL_law_422 rfl ?_
  refine J_aload_n dL_law_423 rfl ?_
  refine J_iload_n dL_law_424 rfl ?_
  refine J_iconst (v := nI 1) dL_law_425 (by decide +kernel) ?_
  refine J_iaddN dL_law_426 ?_
  refine J_sld hS (i := i + 1) (by omega) (by omega) dL_law_427 ?_
  refine J_callV (M' := mX7_hand) (d' := (4, 0, 0)) (rest := []) dL_law_428 jmX7_hand jlRL_50 (sim_hand (uX (xs (i + 1))) (uX_lt _) hI) hc0 hn0 jk7.1 rfl rfl (Nat.le_of_ble_eq_true rfl) (Nat.le_of_ble_eq_true rfl) (by constructor <;> simp only [] <;> omega) (fun v1 h1 n1 q1 => ?_)
  obtain ⟨y, fs1, rfl, hm1, hn1, C8⟩ := q1
  refine J.stk (st' := [.int y]) rfl ?_
  refine J_aload_n dL_law_431 rfl ?_
  refine J_aload_n dL_law_432 rfl ?_
  refine J_iload_n dL_law_433 rfl ?_
  refine J_iconst (v := nI 1) dL_law_434 (by decide +kernel) ?_
  refine J_iaddN dL_law_435 ?_
  refine J_sld hS (i := i + 1) (by omega) (by omega) dL_law_436 ?_
  refine J_callV (M' := mX8_hand) (d' := (2, 0, 0)) (rest := [.int y]) dL_law_437 jmX8_hand jlRL_53 C8 hm1 hn1 jk8.1 rfl rfl (Nat.le_of_ble_eq_true rfl) (Nat.le_of_ble_eq_true rfl) (by constructor <;> simp only [] <;> omega) (fun v2 h2 n2 q2 => ?_)
  obtain ⟨rfl, hI2⟩ := q2
  refine J.stk (st' := [.int y, .int y]) rfl ?_
  refine J_icmp_eq (tgt := 1265) dL_law_440 (by decide) (fun _ => ?_) (fun z => absurd rfl z)
  exact kont _ _ _ _ hI2 (by simp only []; omega) (by simp only []; omega)
set_option maxHeartbeats 1000000 in
theorem law_c9 {E : jE} {nm : String} {S : Array Value → State → Prop} {b len i f : Nat} {xs : Nat → Int32} (hS : ∀ args s, S args s → va_X b len xs s s.heap ∧ b < s.heap.size ∧ s.heap.size = E.1) (hlen : len ≤ 3072) (hi6 : i + 6 ≤ len) (kont : ∀ (h2 : Nat → va_E) (n2 k1 k2 : Nat), Inv E h2 n2 → k1 + 11 * f ≤ 600000 → k2 + 228 * f ≤ 7302250 → J E (mLaw nm) (40, 600000, 7302250) S (fun v _ _ => v = some (.int 1)) h2 n2 (k1, k2) 1265 [(3, .int (nI i)), (2, .ref (E.1 + 38)), (1, .ref (E.1 + 0)), (0, .ref b)] []) {h : Nat → va_E} {n k1 k2 : Nat} (hI : Inv E h n) (hk1 : k1 + 11 * (f + 1) ≤ 600000) (hk2 : k2 + 228 * (f + 1) ≤ 7302250) : J E (mLaw nm) (40, 600000, 7302250) S (fun v _ _ => v = some (.int 1)) h n (k1, k2) 445 [(3, .int (nI i)), (2, .ref (E.1 + 38)), (1, .ref (E.1 + 0)), (0, .ref b)] [] := by
  obtain ⟨fs0, hc0, hn0⟩ := Inv_0 hI
  refine J_aload_n dL_law_445 rfl ?_
  refine J_callV (M' := mX7_undo) (d' := (2, 0, 0)) (rest := []) dL_law_446 jmX7_undo jlRL_54 (sim_undo   hI) hc0 hn0 jk7.1 rfl rfl (Nat.le_of_ble_eq_true rfl) (Nat.le_of_ble_eq_true rfl) (by constructor <;> simp only [] <;> omega) (fun v1 h1 n1 q1 => ?_)
  obtain ⟨y, fs1, rfl, hm1, hn1, C8⟩ := q1
  refine J.stk (st' := [.int y]) rfl ?_
  refine J_aload_n dL_law_449 rfl ?_
  refine J_callV (M' := mX8_undo) (d' := (2, 0, 0)) (rest := [.int y]) dL_law_450 jmX8_undo jlRL_57 C8 hm1 hn1 jk8.1 rfl rfl (Nat.le_of_ble_eq_true rfl) (Nat.le_of_ble_eq_true rfl) (by constructor <;> simp only [] <;> omega) (fun v2 h2 n2 q2 => ?_)
  obtain ⟨rfl, hI2⟩ := q2
  refine J.stk (st' := [.int y, .int y]) rfl ?_
  refine J_icmp_eq (tgt := 1265) dL_law_453 (by decide) (fun _ => ?_) (fun z => absurd rfl z)
  exact kont _ _ _ _ hI2 (by simp only []; omega) (by simp only []; omega)
set_option maxHeartbeats 1000000 in
theorem law_c10 {E : jE} {nm : String} {S : Array Value → State → Prop} {b len i f : Nat} {xs : Nat → Int32} (hS : ∀ args s, S args s → va_X b len xs s s.heap ∧ b < s.heap.size ∧ s.heap.size = E.1) (hlen : len ≤ 3072) (hi6 : i + 6 ≤ len) (kont : ∀ (h2 : Nat → va_E) (n2 k1 k2 : Nat), Inv E h2 n2 → k1 + 11 * f ≤ 600000 → k2 + 228 * f ≤ 7302250 → J E (mLaw nm) (40, 600000, 7302250) S (fun v _ _ => v = some (.int 1)) h2 n2 (k1, k2) 1265 [(3, .int (nI i)), (2, .ref (E.1 + 38)), (1, .ref (E.1 + 0)), (0, .ref b)] []) {h : Nat → va_E} {n k1 k2 : Nat} (hI : Inv E h n) (hk1 : k1 + 11 * (f + 1) ≤ 600000) (hk2 : k2 + 228 * (f + 1) ≤ 7302250) : J E (mLaw nm) (40, 600000, 7302250) S (fun v _ _ => v = some (.int 1)) h n (k1, k2) 458 [(3, .int (nI i)), (2, .ref (E.1 + 38)), (1, .ref (E.1 + 0)), (0, .ref b)] [] := by
  obtain ⟨fs0, hc0, hn0⟩ := Inv_0 hI
  refine J_aload_n dL_law_458 rfl ?_
  refine J_aload_n dL_law_459 rfl ?_
  refine J_iload_n dL_law_460 rfl ?_
  refine J_iconst (v := nI 1) dL_law_461 (by decide +kernel) ?_
  refine J_iaddN dL_law_462 ?_
  refine J_sld hS (i := i + 1) (by omega) (by omega) dL_law_463 ?_
  refine J_aload_n dL_law_464 rfl ?_
  refine J_iload_n dL_law_465 rfl ?_
  refine J_iconst (v := nI 2) dL_law_466 (by decide +kernel) ?_
  refine J_iaddN dL_law_467 ?_
  refine J_sld hS (i := i + 2) (by omega) (by omega) dL_law_468 ?_
  refine J_callV (M' := mX7_of) (d' := (2, 0, 0)) (rest := []) dL_law_469 jmX7_of jlRL_58 (sim_of (uX (xs (i + 1))) (uX (xs (i + 2))) (uX_lt _) (uX_lt _) hI) hc0 hn0 jk7.1 rfl rfl (Nat.le_of_ble_eq_true rfl) (Nat.le_of_ble_eq_true rfl) (by constructor <;> simp only [] <;> omega) (fun v1 h1 n1 q1 => ?_)
  obtain ⟨y, fs1, rfl, hm1, hn1, C8⟩ := q1
  refine J.stk (st' := [.int y]) rfl ?_
  refine J_aload_n dL_law_472 rfl ?_
  refine J_aload_n dL_law_473 rfl ?_
  refine J_iload_n dL_law_474 rfl ?_
  refine J_iconst (v := nI 1) dL_law_475 (by decide +kernel) ?_
  refine J_iaddN dL_law_476 ?_
  refine J_sld hS (i := i + 1) (by omega) (by omega) dL_law_477 ?_
  refine J_aload_n dL_law_478 rfl ?_
  refine J_iload_n dL_law_479 rfl ?_
  refine J_iconst (v := nI 2) dL_law_480 (by decide +kernel) ?_
  refine J_iaddN dL_law_481 ?_
  refine J_sld hS (i := i + 2) (by omega) (by omega) dL_law_482 ?_
  refine J_callV (M' := mX8_of) (d' := (3, 0, 0)) (rest := [.int y]) dL_law_483 jmX8_of jlRL_61 C8 hm1 hn1 jk8.1 rfl rfl (Nat.le_of_ble_eq_true rfl) (Nat.le_of_ble_eq_true rfl) (by constructor <;> simp only [] <;> omega) (fun v2 h2 n2 q2 => ?_)
  obtain ⟨rfl, hI2⟩ := q2
  refine J.stk (st' := [.int y, .int y]) rfl ?_
  refine J_icmp_eq (tgt := 1265) dL_law_486 (by decide) (fun _ => ?_) (fun z => absurd rfl z)
  exact kont _ _ _ _ hI2 (by simp only []; omega) (by simp only []; omega)
set_option maxHeartbeats 1000000 in
theorem law_c11 {E : jE} {nm : String} {S : Array Value → State → Prop} {b len i f : Nat} {xs : Nat → Int32} (hS : ∀ args s, S args s → va_X b len xs s s.heap ∧ b < s.heap.size ∧ s.heap.size = E.1) (hlen : len ≤ 3072) (hi6 : i + 6 ≤ len) (kont : ∀ (h2 : Nat → va_E) (n2 k1 k2 : Nat), Inv E h2 n2 → k1 + 11 * f ≤ 600000 → k2 + 228 * f ≤ 7302250 → J E (mLaw nm) (40, 600000, 7302250) S (fun v _ _ => v = some (.int 1)) h2 n2 (k1, k2) 1265 [(3, .int (nI i)), (2, .ref (E.1 + 38)), (1, .ref (E.1 + 0)), (0, .ref b)] []) {h : Nat → va_E} {n k1 k2 : Nat} (hI : Inv E h n) (hk1 : k1 + 11 * (f + 1) ≤ 600000) (hk2 : k2 + 228 * (f + 1) ≤ 7302250) : J E (mLaw nm) (40, 600000, 7302250) S (fun v _ _ => v = some (.int 1)) h n (k1, k2) 491 [(3, .int (nI i)), (2, .ref (E.1 + 38)), (1, .ref (E.1 + 0)), (0, .ref b)] [] := by
  obtain ⟨fs0, hc0, hn0⟩ := Inv_0 hI
  refine J_aload_n dL_law_491 rfl ?_
  refine J_aload_n dL_law_492 rfl ?_
  refine J_iload_n dL_law_493 rfl ?_
  refine J_iconst (v := nI 1) dL_law_494 (by decide +kernel) ?_
  refine J_iaddN dL_law_495 ?_
  refine J_sld hS (i := i + 1) (by omega) (by omega) dL_law_496 ?_
  refine J_aload_n dL_law_497 rfl ?_
  refine J_iload_n dL_law_498 rfl ?_
  refine J_iconst (v := nI 2) dL_law_499 (by decide +kernel) ?_
  refine J_iaddN dL_law_500 ?_
  refine J_sld hS (i := i + 2) (by omega) (by omega) dL_law_501 ?_
  refine J_callV (M' := mX7_up) (d' := (4, 0, 0)) (rest := []) dL_law_502 jmX7_up jlRL_62 (sim_up (uX (xs (i + 1))) (uX (xs (i + 2))) (uX_lt _) (uX_lt _) hI) hc0 hn0 jk7.1 rfl rfl (Nat.le_of_ble_eq_true rfl) (Nat.le_of_ble_eq_true rfl) (by constructor <;> simp only [] <;> omega) (fun v1 h1 n1 q1 => ?_)
  obtain ⟨y, fs1, rfl, hm1, hn1, C8⟩ := q1
  refine J.stk (st' := [.int y]) rfl ?_
  refine J_aload_n dL_law_505 rfl ?_
  refine J_aload_n dL_law_506 rfl ?_
  refine J_iload_n dL_law_507 rfl ?_
  refine J_iconst (v := nI 1) dL_law_508 (by decide +kernel) ?_
  refine J_iaddN dL_law_509 ?_
  refine J_sld hS (i := i + 1) (by omega) (by omega) dL_law_510 ?_
  refine J_aload_n dL_law_511 rfl ?_
  refine J_iload_n dL_law_512 rfl ?_
  refine J_iconst (v := nI 2) dL_law_513 (by decide +kernel) ?_
  refine J_iaddN dL_law_514 ?_
  refine J_sld hS (i := i + 2) (by omega) (by omega) dL_law_515 ?_
  refine J_callV (M' := mX8_up) (d' := (3, 0, 0)) (rest := [.int y]) dL_law_516 jmX8_up jlRL_65 C8 hm1 hn1 jk8.1 rfl rfl (Nat.le_of_ble_eq_true rfl) (Nat.le_of_ble_eq_true rfl) (by constructor <;> simp only [] <;> omega) (fun v2 h2 n2 q2 => ?_)
  obtain ⟨rfl, hI2⟩ := q2
  refine J.stk (st' := [.int y, .int y]) rfl ?_
  refine J_icmp_eq (tgt := 1265) dL_law_519 (by decide) (fun _ => ?_) (fun z => absurd rfl z)
  exact kont _ _ _ _ hI2 (by simp only []; omega) (by simp only []; omega)
set_option maxHeartbeats 1000000 in
theorem law_c12 {E : jE} {nm : String} {S : Array Value → State → Prop} {b len i f : Nat} {xs : Nat → Int32} (hS : ∀ args s, S args s → va_X b len xs s s.heap ∧ b < s.heap.size ∧ s.heap.size = E.1) (hlen : len ≤ 3072) (hi6 : i + 6 ≤ len) (kont : ∀ (h2 : Nat → va_E) (n2 k1 k2 : Nat), Inv E h2 n2 → k1 + 11 * f ≤ 600000 → k2 + 228 * f ≤ 7302250 → J E (mLaw nm) (40, 600000, 7302250) S (fun v _ _ => v = some (.int 1)) h2 n2 (k1, k2) 1265 [(3, .int (nI i)), (2, .ref (E.1 + 38)), (1, .ref (E.1 + 0)), (0, .ref b)] []) {h : Nat → va_E} {n k1 k2 : Nat} (hI : Inv E h n) (hk1 : k1 + 11 * (f + 1) ≤ 600000) (hk2 : k2 + 228 * (f + 1) ≤ 7302250) : J E (mLaw nm) (40, 600000, 7302250) S (fun v _ _ => v = some (.int 1)) h n (k1, k2) 524 [(3, .int (nI i)), (2, .ref (E.1 + 38)), (1, .ref (E.1 + 0)), (0, .ref b)] [] := by
  obtain ⟨fs0, hc0, hn0⟩ := Inv_0 hI
  refine J_aload_n dL_law_524 rfl ?_
  refine J_aload_n dL_law_525 rfl ?_
  refine J_iload_n dL_law_526 rfl ?_
  refine J_iconst (v := nI 1) dL_law_527 (by decide +kernel) ?_
  refine J_iaddN dL_law_528 ?_
  refine J_sld hS (i := i + 1) (by omega) (by omega) dL_law_529 ?_
  refine J_aload_n dL_law_530 rfl ?_
  refine J_iload_n dL_law_531 rfl ?_
  refine J_iconst (v := nI 2) dL_law_532 (by decide +kernel) ?_
  refine J_iaddN dL_law_533 ?_
  refine J_sld hS (i := i + 2) (by omega) (by omega) dL_law_534 ?_
  refine J_callV (M' := mX7_foreign) (d' := (4, 0, 0)) (rest := []) dL_law_535 jmX7_foreign jlRL_66 (sim_foreign (uX (xs (i + 1))) (uX (xs (i + 2))) (uX_lt _) (uX_lt _) hI) hc0 hn0 jk7.1 rfl rfl (Nat.le_of_ble_eq_true rfl) (Nat.le_of_ble_eq_true rfl) (by constructor <;> simp only [] <;> omega) (fun v1 h1 n1 q1 => ?_)
  obtain ⟨y, fs1, rfl, hm1, hn1, C8⟩ := q1
  refine J.stk (st' := [.int y]) rfl ?_
  refine J_aload_n dL_law_538 rfl ?_
  refine J_aload_n dL_law_539 rfl ?_
  refine J_iload_n dL_law_540 rfl ?_
  refine J_iconst (v := nI 1) dL_law_541 (by decide +kernel) ?_
  refine J_iaddN dL_law_542 ?_
  refine J_sld hS (i := i + 1) (by omega) (by omega) dL_law_543 ?_
  refine J_aload_n dL_law_544 rfl ?_
  refine J_iload_n dL_law_545 rfl ?_
  refine J_iconst (v := nI 2) dL_law_546 (by decide +kernel) ?_
  refine J_iaddN dL_law_547 ?_
  refine J_sld hS (i := i + 2) (by omega) (by omega) dL_law_548 ?_
  refine J_callV (M' := mX8_foreign) (d' := (4, 0, 0)) (rest := [.int y]) dL_law_549 jmX8_foreign jlRL_69 C8 hm1 hn1 jk8.1 rfl rfl (Nat.le_of_ble_eq_true rfl) (Nat.le_of_ble_eq_true rfl) (by constructor <;> simp only [] <;> omega) (fun v2 h2 n2 q2 => ?_)
  obtain ⟨rfl, hI2⟩ := q2
  refine J.stk (st' := [.int y, .int y]) rfl ?_
  refine J_icmp_eq (tgt := 1265) dL_law_552 (by decide) (fun _ => ?_) (fun z => absurd rfl z)
  exact kont _ _ _ _ hI2 (by simp only []; omega) (by simp only []; omega)
set_option maxHeartbeats 1000000 in
theorem law_c13 {E : jE} {nm : String} {S : Array Value → State → Prop} {b len i f : Nat} {xs : Nat → Int32} (hS : ∀ args s, S args s → va_X b len xs s s.heap ∧ b < s.heap.size ∧ s.heap.size = E.1) (hlen : len ≤ 3072) (hi6 : i + 6 ≤ len) (kont : ∀ (h2 : Nat → va_E) (n2 k1 k2 : Nat), Inv E h2 n2 → k1 + 11 * f ≤ 600000 → k2 + 228 * f ≤ 7302250 → J E (mLaw nm) (40, 600000, 7302250) S (fun v _ _ => v = some (.int 1)) h2 n2 (k1, k2) 1265 [(3, .int (nI i)), (2, .ref (E.1 + 38)), (1, .ref (E.1 + 0)), (0, .ref b)] []) {h : Nat → va_E} {n k1 k2 : Nat} (hI : Inv E h n) (hk1 : k1 + 11 * (f + 1) ≤ 600000) (hk2 : k2 + 228 * (f + 1) ≤ 7302250) : J E (mLaw nm) (40, 600000, 7302250) S (fun v _ _ => v = some (.int 1)) h n (k1, k2) 557 [(3, .int (nI i)), (2, .ref (E.1 + 38)), (1, .ref (E.1 + 0)), (0, .ref b)] [] := by
  obtain ⟨fs0, hc0, hn0⟩ := Inv_0 hI
  refine J_aload_n dL_law_557 rfl ?_
  refine J_aload_n dL_law_558 rfl ?_
  refine J_iload_n dL_law_559 rfl ?_
  refine J_iconst (v := nI 1) dL_law_560 (by decide +kernel) ?_
  refine J_iaddN dL_law_561 ?_
  refine J_sld hS (i := i + 1) (by omega) (by omega) dL_law_562 ?_
  refine J_aload_n dL_law_563 rfl ?_
  refine J_iload_n dL_law_564 rfl ?_
  refine J_iconst (v := nI 2) dL_law_565 (by decide +kernel) ?_
  refine J_iaddN dL_law_566 ?_
  refine J_sld hS (i := i + 2) (by omega) (by omega) dL_law_567 ?_
  refine J_aload_n dL_law_568 rfl ?_
  refine J_iload_n dL_law_569 rfl ?_
  refine J_iconst (v := nI 3) dL_law_570 (by decide +kernel) ?_
  refine J_iaddN dL_law_571 ?_
  refine J_sld hS (i := i + 3) (by omega) (by omega) dL_law_572 ?_
  refine J_callV (M' := mX7_then) (d' := (4, 0, 0)) (rest := []) dL_law_573 jmX7_then jlRL_70 (sim_then (uX (xs (i + 1))) (uX (xs (i + 2))) (uX (xs (i + 3))) (uX_lt _) (uX_lt _) (uX_lt _) hI) hc0 hn0 jk7.1 rfl rfl (Nat.le_of_ble_eq_true rfl) (Nat.le_of_ble_eq_true rfl) (by constructor <;> simp only [] <;> omega) (fun v1 h1 n1 q1 => ?_)
  obtain ⟨y, fs1, rfl, hm1, hn1, C8⟩ := q1
  refine J.stk (st' := [.int y]) rfl ?_
  refine J_aload_n dL_law_576 rfl ?_
  refine J_aload_n dL_law_577 rfl ?_
  refine J_iload_n dL_law_578 rfl ?_
  refine J_iconst (v := nI 1) dL_law_579 (by decide +kernel) ?_
  refine J_iaddN dL_law_580 ?_
  refine J_sld hS (i := i + 1) (by omega) (by omega) dL_law_581 ?_
  refine J_aload_n dL_law_582 rfl ?_
  refine J_iload_n dL_law_583 rfl ?_
  refine J_iconst (v := nI 2) dL_law_584 (by decide +kernel) ?_
  refine J_iaddN dL_law_585 ?_
  refine J_sld hS (i := i + 2) (by omega) (by omega) dL_law_586 ?_
  refine J_aload_n dL_law_587 rfl ?_
  refine J_iload_n dL_law_588 rfl ?_
  refine J_iconst (v := nI 3) dL_law_589 (by decide +kernel) ?_
  refine J_iaddN dL_law_590 ?_
  refine J_sld hS (i := i + 3) (by omega) (by omega) dL_law_591 ?_
  refine J_callV (M' := mX8_then) (d' := (3, 0, 0)) (rest := [.int y]) dL_law_592 jmX8_then jlRL_73 C8 hm1 hn1 jk8.1 rfl rfl (Nat.le_of_ble_eq_true rfl) (Nat.le_of_ble_eq_true rfl) (by constructor <;> simp only [] <;> omega) (fun v2 h2 n2 q2 => ?_)
  obtain ⟨rfl, hI2⟩ := q2
  refine J.stk (st' := [.int y, .int y]) rfl ?_
  refine J_icmp_eq (tgt := 1265) dL_law_595 (by decide) (fun _ => ?_) (fun z => absurd rfl z)
  exact kont _ _ _ _ hI2 (by simp only []; omega) (by simp only []; omega)
set_option maxHeartbeats 1000000 in
theorem law_c14 {E : jE} {nm : String} {S : Array Value → State → Prop} {b len i f : Nat} {xs : Nat → Int32} (hS : ∀ args s, S args s → va_X b len xs s s.heap ∧ b < s.heap.size ∧ s.heap.size = E.1) (hlen : len ≤ 3072) (hi6 : i + 6 ≤ len) (kont : ∀ (h2 : Nat → va_E) (n2 k1 k2 : Nat), Inv E h2 n2 → k1 + 11 * f ≤ 600000 → k2 + 228 * f ≤ 7302250 → J E (mLaw nm) (40, 600000, 7302250) S (fun v _ _ => v = some (.int 1)) h2 n2 (k1, k2) 1265 [(3, .int (nI i)), (2, .ref (E.1 + 38)), (1, .ref (E.1 + 0)), (0, .ref b)] []) {h : Nat → va_E} {n k1 k2 : Nat} (hI : Inv E h n) (hk1 : k1 + 11 * (f + 1) ≤ 600000) (hk2 : k2 + 228 * (f + 1) ≤ 7302250) : J E (mLaw nm) (40, 600000, 7302250) S (fun v _ _ => v = some (.int 1)) h n (k1, k2) 600 [(3, .int (nI i)), (2, .ref (E.1 + 38)), (1, .ref (E.1 + 0)), (0, .ref b)] [] := by
  obtain ⟨fs0, hc0, hn0⟩ := Inv_0 hI
  refine J_aload_n dL_law_600 rfl ?_
  refine J_aload_n dL_law_601 rfl ?_
  refine J_iload_n dL_law_602 rfl ?_
  refine J_iconst (v := nI 1) dL_law_603 (by decide +kernel) ?_
  refine J_iaddN dL_law_604 ?_
  refine J_sld hS (i := i + 1) (by omega) (by omega) dL_law_605 ?_
  refine J_callV (M' := mX7_clean) (d' := (3, 0, 0)) (rest := []) dL_law_606 jmX7_clean jlRL_74 (sim_clean (uX (xs (i + 1))) (uX_lt _) hI) hc0 hn0 jk7.1 rfl rfl (Nat.le_of_ble_eq_true rfl) (Nat.le_of_ble_eq_true rfl) (by constructor <;> simp only [] <;> omega) (fun v1 h1 n1 q1 => ?_)
  obtain ⟨y, fs1, rfl, hm1, hn1, C8⟩ := q1
  refine J.stk (st' := [.int y]) rfl ?_
  refine J_aload_n dL_law_609 rfl ?_
  refine J_aload_n dL_law_610 rfl ?_
  refine J_iload_n dL_law_611 rfl ?_
  refine J_iconst (v := nI 1) dL_law_612 (by decide +kernel) ?_
  refine J_iaddN dL_law_613 ?_
  refine J_sld hS (i := i + 1) (by omega) (by omega) dL_law_614 ?_
  refine J_callV (M' := mX8_clean) (d' := (3, 0, 0)) (rest := [.int y]) dL_law_615 jmX8_clean jlRL_77 C8 hm1 hn1 jk8.1 rfl rfl (Nat.le_of_ble_eq_true rfl) (Nat.le_of_ble_eq_true rfl) (by constructor <;> simp only [] <;> omega) (fun v2 h2 n2 q2 => ?_)
  obtain ⟨rfl, hI2⟩ := q2
  refine J.stk (st' := [.int y, .int y]) rfl ?_
  refine J_icmp_eq (tgt := 1265) dL_law_618 (by decide) (fun _ => ?_) (fun z => absurd rfl z)
  exact kont _ _ _ _ hI2 (by simp only []; omega) (by simp only []; omega)
set_option maxHeartbeats 1000000 in
theorem law_c15 {E : jE} {nm : String} {S : Array Value → State → Prop} {b len i f : Nat} {xs : Nat → Int32} (hS : ∀ args s, S args s → va_X b len xs s s.heap ∧ b < s.heap.size ∧ s.heap.size = E.1) (hlen : len ≤ 3072) (hi6 : i + 6 ≤ len) (kont : ∀ (h2 : Nat → va_E) (n2 k1 k2 : Nat), Inv E h2 n2 → k1 + 11 * f ≤ 600000 → k2 + 228 * f ≤ 7302250 → J E (mLaw nm) (40, 600000, 7302250) S (fun v _ _ => v = some (.int 1)) h2 n2 (k1, k2) 1265 [(3, .int (nI i)), (2, .ref (E.1 + 38)), (1, .ref (E.1 + 0)), (0, .ref b)] []) {h : Nat → va_E} {n k1 k2 : Nat} (hI : Inv E h n) (hk1 : k1 + 11 * (f + 1) ≤ 600000) (hk2 : k2 + 228 * (f + 1) ≤ 7302250) : J E (mLaw nm) (40, 600000, 7302250) S (fun v _ _ => v = some (.int 1)) h n (k1, k2) 623 [(3, .int (nI i)), (2, .ref (E.1 + 38)), (1, .ref (E.1 + 0)), (0, .ref b)] [] := by
  obtain ⟨fs0, hc0, hn0⟩ := Inv_0 hI
  refine J_aload_n dL_law_623 rfl ?_
  refine J_aload_n dL_law_624 rfl ?_
  refine J_iload_n dL_law_625 rfl ?_
  refine J_iconst (v := nI 1) dL_law_626 (by decide +kernel) ?_
  refine J_iaddN dL_law_627 ?_
  refine J_sld hS (i := i + 1) (by omega) (by omega) dL_law_628 ?_
  refine J_callV (M' := mX7_keep) (d' := (3, 0, 0)) (rest := []) dL_law_629 jmX7_keep jlRL_78 (sim_keep (uX (xs (i + 1))) (uX_lt _) hI) hc0 hn0 jk7.1 rfl rfl (Nat.le_of_ble_eq_true rfl) (Nat.le_of_ble_eq_true rfl) (by constructor <;> simp only [] <;> omega) (fun v1 h1 n1 q1 => ?_)
  obtain ⟨y, fs1, rfl, hm1, hn1, C8⟩ := q1
  refine J.stk (st' := [.int y]) rfl ?_
  refine J_aload_n dL_law_632 rfl ?_
  refine J_aload_n dL_law_633 rfl ?_
  refine J_iload_n dL_law_634 rfl ?_
  refine J_iconst (v := nI 1) dL_law_635 (by decide +kernel) ?_
  refine J_iaddN dL_law_636 ?_
  refine J_sld hS (i := i + 1) (by omega) (by omega) dL_law_637 ?_
  refine J_callV (M' := mX8_keep) (d' := (3, 0, 0)) (rest := [.int y]) dL_law_638 jmX8_keep jlRL_81 C8 hm1 hn1 jk8.1 rfl rfl (Nat.le_of_ble_eq_true rfl) (Nat.le_of_ble_eq_true rfl) (by constructor <;> simp only [] <;> omega) (fun v2 h2 n2 q2 => ?_)
  obtain ⟨rfl, hI2⟩ := q2
  refine J.stk (st' := [.int y, .int y]) rfl ?_
  refine J_icmp_eq (tgt := 1265) dL_law_641 (by decide) (fun _ => ?_) (fun z => absurd rfl z)
  exact kont _ _ _ _ hI2 (by simp only []; omega) (by simp only []; omega)
set_option maxHeartbeats 1000000 in
theorem law_c16 {E : jE} {nm : String} {S : Array Value → State → Prop} {b len i f : Nat} {xs : Nat → Int32} (hS : ∀ args s, S args s → va_X b len xs s s.heap ∧ b < s.heap.size ∧ s.heap.size = E.1) (hlen : len ≤ 3072) (hi6 : i + 6 ≤ len) (kont : ∀ (h2 : Nat → va_E) (n2 k1 k2 : Nat), Inv E h2 n2 → k1 + 11 * f ≤ 600000 → k2 + 228 * f ≤ 7302250 → J E (mLaw nm) (40, 600000, 7302250) S (fun v _ _ => v = some (.int 1)) h2 n2 (k1, k2) 1265 [(3, .int (nI i)), (2, .ref (E.1 + 38)), (1, .ref (E.1 + 0)), (0, .ref b)] []) {h : Nat → va_E} {n k1 k2 : Nat} (hI : Inv E h n) (hk1 : k1 + 11 * (f + 1) ≤ 600000) (hk2 : k2 + 228 * (f + 1) ≤ 7302250) : J E (mLaw nm) (40, 600000, 7302250) S (fun v _ _ => v = some (.int 1)) h n (k1, k2) 646 [(3, .int (nI i)), (2, .ref (E.1 + 38)), (1, .ref (E.1 + 0)), (0, .ref b)] [] := by
  obtain ⟨fs0, hc0, hn0⟩ := Inv_0 hI
  refine J_aload_n dL_law_646 rfl ?_
  refine J_aload_n dL_law_647 rfl ?_
  refine J_iload_n dL_law_648 rfl ?_
  refine J_iconst (v := nI 1) dL_law_649 (by decide +kernel) ?_
  refine J_iaddN dL_law_650 ?_
  refine J_sld hS (i := i + 1) (by omega) (by omega) dL_law_651 ?_
  refine J_callV (M' := mX7_best) (d' := (4, 0, 0)) (rest := []) dL_law_652 jmX7_best jlRL_82 (sim_best (uX (xs (i + 1))) (uX_lt _) hI) hc0 hn0 jk7.1 rfl rfl (Nat.le_of_ble_eq_true rfl) (Nat.le_of_ble_eq_true rfl) (by constructor <;> simp only [] <;> omega) (fun v1 h1 n1 q1 => ?_)
  obtain ⟨y, fs1, rfl, hm1, hn1, C8⟩ := q1
  refine J.stk (st' := [.int y]) rfl ?_
  refine J_aload_n dL_law_655 rfl ?_
  refine J_aload_n dL_law_656 rfl ?_
  refine J_iload_n dL_law_657 rfl ?_
  refine J_iconst (v := nI 1) dL_law_658 (by decide +kernel) ?_
  refine J_iaddN dL_law_659 ?_
  refine J_sld hS (i := i + 1) (by omega) (by omega) dL_law_660 ?_
  refine J_callV (M' := mX8_best) (d' := (4, 0, 0)) (rest := [.int y]) dL_law_661 jmX8_best jlRL_85 C8 hm1 hn1 jk8.1 rfl rfl (Nat.le_of_ble_eq_true rfl) (Nat.le_of_ble_eq_true rfl) (by constructor <;> simp only [] <;> omega) (fun v2 h2 n2 q2 => ?_)
  obtain ⟨rfl, hI2⟩ := q2
  refine J.stk (st' := [.int y, .int y]) rfl ?_
  refine J_icmp_eq (tgt := 1265) dL_law_664 (by decide) (fun _ => ?_) (fun z => absurd rfl z)
  exact kont _ _ _ _ hI2 (by simp only []; omega) (by simp only []; omega)
set_option maxHeartbeats 1000000 in
theorem law_c17 {E : jE} {nm : String} {S : Array Value → State → Prop} {b len i f : Nat} {xs : Nat → Int32} (hS : ∀ args s, S args s → va_X b len xs s s.heap ∧ b < s.heap.size ∧ s.heap.size = E.1) (hlen : len ≤ 3072) (hi6 : i + 6 ≤ len) (kont : ∀ (h2 : Nat → va_E) (n2 k1 k2 : Nat), Inv E h2 n2 → k1 + 11 * f ≤ 600000 → k2 + 228 * f ≤ 7302250 → J E (mLaw nm) (40, 600000, 7302250) S (fun v _ _ => v = some (.int 1)) h2 n2 (k1, k2) 1265 [(3, .int (nI i)), (2, .ref (E.1 + 38)), (1, .ref (E.1 + 0)), (0, .ref b)] []) {h : Nat → va_E} {n k1 k2 : Nat} (hI : Inv E h n) (hk1 : k1 + 11 * (f + 1) ≤ 600000) (hk2 : k2 + 228 * (f + 1) ≤ 7302250) : J E (mLaw nm) (40, 600000, 7302250) S (fun v _ _ => v = some (.int 1)) h n (k1, k2) 669 [(3, .int (nI i)), (2, .ref (E.1 + 38)), (1, .ref (E.1 + 0)), (0, .ref b)] [] := by
  obtain ⟨fs0, hc0, hn0⟩ := Inv_0 hI
  refine J_aload_n dL_law_669 rfl ?_
  refine J_aload_n dL_law_670 rfl ?_
  refine J_iload_n dL_law_671 rfl ?_
  refine J_iconst (v := nI 1) dL_law_672 (by decide +kernel) ?_
  refine J_iaddN dL_law_673 ?_
  refine J_sld hS (i := i + 1) (by omega) (by omega) dL_law_674 ?_
  refine J_aload_n dL_law_675 rfl ?_
  refine J_iload_n dL_law_676 rfl ?_
  refine J_iconst (v := nI 2) dL_law_677 (by decide +kernel) ?_
  refine J_iaddN dL_law_678 ?_
  refine J_sld hS (i := i + 2) (by omega) (by omega) dL_law_679 ?_
  refine J_aload_n dL_law_680 rfl ?_
  refine J_iload_n dL_law_681 rfl ?_
  refine J_iconst (v := nI 3) dL_law_682 (by decide +kernel) ?_
  refine J_iaddN dL_law_683 ?_
  refine J_sld hS (i := i + 3) (by omega) (by omega) dL_law_684 ?_
  refine J_callV (M' := mX7_orders) (d' := (14, 0, 0)) (rest := []) dL_law_685 jmX7_orders jlRL_86 (sim_orders (uX (xs (i + 1))) (uX (xs (i + 2))) (uX (xs (i + 3))) (uX_lt _) (uX_lt _) (uX_lt _) hI) hc0 hn0 jk7.1 rfl rfl (Nat.le_of_ble_eq_true rfl) (Nat.le_of_ble_eq_true rfl) (by constructor <;> simp only [] <;> omega) (fun v1 h1 n1 q1 => ?_)
  obtain ⟨y, fs1, rfl, hm1, hn1, C8⟩ := q1
  refine J.stk (st' := [.int y]) rfl ?_
  refine J_aload_n dL_law_688 rfl ?_
  refine J_aload_n dL_law_689 rfl ?_
  refine J_iload_n dL_law_690 rfl ?_
  refine J_iconst (v := nI 1) dL_law_691 (by decide +kernel) ?_
  refine J_iaddN dL_law_692 ?_
  refine J_sld hS (i := i + 1) (by omega) (by omega) dL_law_693 ?_
  refine J_aload_n dL_law_694 rfl ?_
  refine J_iload_n dL_law_695 rfl ?_
  refine J_iconst (v := nI 2) dL_law_696 (by decide +kernel) ?_
  refine J_iaddN dL_law_697 ?_
  refine J_sld hS (i := i + 2) (by omega) (by omega) dL_law_698 ?_
  refine J_aload_n dL_law_699 rfl ?_
  refine J_iload_n dL_law_700 rfl ?_
  refine J_iconst (v := nI 3) dL_law_701 (by decide +kernel) ?_
  refine J_iaddN dL_law_702 ?_
  refine J_sld hS (i := i + 3) (by omega) (by omega) dL_law_703 ?_
  refine J_callV (M' := mX8_orders) (d' := (5, 0, 0)) (rest := [.int y]) dL_law_704 jmX8_orders jlRL_89 C8 hm1 hn1 jk8.1 rfl rfl (Nat.le_of_ble_eq_true rfl) (Nat.le_of_ble_eq_true rfl) (by constructor <;> simp only [] <;> omega) (fun v2 h2 n2 q2 => ?_)
  obtain ⟨rfl, hI2⟩ := q2
  refine J.stk (st' := [.int y, .int y]) rfl ?_
  refine J_icmp_eq (tgt := 1265) dL_law_707 (by decide) (fun _ => ?_) (fun z => absurd rfl z)
  exact kont _ _ _ _ hI2 (by simp only []; omega) (by simp only []; omega)
set_option maxHeartbeats 1000000 in
theorem law_c18 {E : jE} {nm : String} {S : Array Value → State → Prop} {b len i f : Nat} {xs : Nat → Int32} (hS : ∀ args s, S args s → va_X b len xs s s.heap ∧ b < s.heap.size ∧ s.heap.size = E.1) (hlen : len ≤ 3072) (hi6 : i + 6 ≤ len) (kont : ∀ (h2 : Nat → va_E) (n2 k1 k2 : Nat), Inv E h2 n2 → k1 + 11 * f ≤ 600000 → k2 + 228 * f ≤ 7302250 → J E (mLaw nm) (40, 600000, 7302250) S (fun v _ _ => v = some (.int 1)) h2 n2 (k1, k2) 1265 [(3, .int (nI i)), (2, .ref (E.1 + 38)), (1, .ref (E.1 + 0)), (0, .ref b)] []) {h : Nat → va_E} {n k1 k2 : Nat} (hI : Inv E h n) (hk1 : k1 + 11 * (f + 1) ≤ 600000) (hk2 : k2 + 228 * (f + 1) ≤ 7302250) : J E (mLaw nm) (40, 600000, 7302250) S (fun v _ _ => v = some (.int 1)) h n (k1, k2) 712 [(3, .int (nI i)), (2, .ref (E.1 + 38)), (1, .ref (E.1 + 0)), (0, .ref b)] [] := by
  obtain ⟨fs0, hc0, hn0⟩ := Inv_0 hI
  refine J_aload_n dL_law_712 rfl ?_
  refine J_aload_n dL_law_713 rfl ?_
  refine J_iload_n dL_law_714 rfl ?_
  refine J_iconst (v := nI 1) dL_law_715 (by decide +kernel) ?_
  refine J_iaddN dL_law_716 ?_
  refine J_sld hS (i := i + 1) (by omega) (by omega) dL_law_717 ?_
  refine J_aload_n dL_law_718 rfl ?_
  refine J_iload_n dL_law_719 rfl ?_
  refine J_iconst (v := nI 2) dL_law_720 (by decide +kernel) ?_
  refine J_iaddN dL_law_721 ?_
  refine J_sld hS (i := i + 2) (by omega) (by omega) dL_law_722 ?_
  refine J_aload_n dL_law_723 rfl ?_
  refine J_iload_n dL_law_724 rfl ?_
  refine J_iconst (v := nI 3) dL_law_725 (by decide +kernel) ?_
  refine J_iaddN dL_law_726 ?_
  refine J_sld hS (i := i + 3) (by omega) (by omega) dL_law_727 ?_
  refine J_aload_n dL_law_728 rfl ?_
  refine J_iload_n dL_law_729 rfl ?_
  refine J_iconst (v := nI 4) dL_law_730 (by decide +kernel) ?_
  refine J_iaddN dL_law_731 ?_
  refine J_sld hS (i := i + 4) (by omega) (by omega) dL_law_732 ?_
  refine J_callV (M' := mX7_waits) (d' := (4, 0, 0)) (rest := []) dL_law_733 jmX7_waits jlRL_90 (sim_waits (uX (xs (i + 1))) (uX (xs (i + 2))) (uX (xs (i + 3))) (uX (xs (i + 4))) (uX_lt _) (uX_lt _) (uX_lt _) (uX_lt _) hI) hc0 hn0 jk7.1 rfl rfl (Nat.le_of_ble_eq_true rfl) (Nat.le_of_ble_eq_true rfl) (by constructor <;> simp only [] <;> omega) (fun v1 h1 n1 q1 => ?_)
  obtain ⟨y, fs1, rfl, hm1, hn1, C8⟩ := q1
  refine J.stk (st' := [.int y]) rfl ?_
  refine J_aload_n dL_law_736 rfl ?_
  refine J_aload_n dL_law_737 rfl ?_
  refine J_iload_n dL_law_738 rfl ?_
  refine J_iconst (v := nI 1) dL_law_739 (by decide +kernel) ?_
  refine J_iaddN dL_law_740 ?_
  refine J_sld hS (i := i + 1) (by omega) (by omega) dL_law_741 ?_
  refine J_aload_n dL_law_742 rfl ?_
  refine J_iload_n dL_law_743 rfl ?_
  refine J_iconst (v := nI 2) dL_law_744 (by decide +kernel) ?_
  refine J_iaddN dL_law_745 ?_
  refine J_sld hS (i := i + 2) (by omega) (by omega) dL_law_746 ?_
  refine J_aload_n dL_law_747 rfl ?_
  refine J_iload_n dL_law_748 rfl ?_
  refine J_iconst (v := nI 3) dL_law_749 (by decide +kernel) ?_
  refine J_iaddN dL_law_750 ?_
  refine J_sld hS (i := i + 3) (by omega) (by omega) dL_law_751 ?_
  refine J_aload_n dL_law_752 rfl ?_
  refine J_iload_n dL_law_753 rfl ?_
  refine J_iconst (v := nI 4) dL_law_754 (by decide +kernel) ?_
  refine J_iaddN dL_law_755 ?_
  refine J_sld hS (i := i + 4) (by omega) (by omega) dL_law_756 ?_
  refine J_callV (M' := mX8_waits) (d' := (4, 0, 0)) (rest := [.int y]) dL_law_757 jmX8_waits jlRL_94 C8 hm1 hn1 jk8.1 rfl rfl (Nat.le_of_ble_eq_true rfl) (Nat.le_of_ble_eq_true rfl) (by constructor <;> simp only [] <;> omega) (fun v2 h2 n2 q2 => ?_)
  obtain ⟨rfl, hI2⟩ := q2
  refine J.stk (st' := [.int y, .int y]) rfl ?_
  refine J_icmp_eq (tgt := 1265) dL_law_760 (by decide) (fun _ => ?_) (fun z => absurd rfl z)
  exact kont _ _ _ _ hI2 (by simp only []; omega) (by simp only []; omega)
set_option maxHeartbeats 1000000 in
theorem law_c19 {E : jE} {nm : String} {S : Array Value → State → Prop} {b len i f : Nat} {xs : Nat → Int32} (hS : ∀ args s, S args s → va_X b len xs s s.heap ∧ b < s.heap.size ∧ s.heap.size = E.1) (hlen : len ≤ 3072) (hi6 : i + 6 ≤ len) (kont : ∀ (h2 : Nat → va_E) (n2 k1 k2 : Nat), Inv E h2 n2 → k1 + 11 * f ≤ 600000 → k2 + 228 * f ≤ 7302250 → J E (mLaw nm) (40, 600000, 7302250) S (fun v _ _ => v = some (.int 1)) h2 n2 (k1, k2) 1265 [(3, .int (nI i)), (2, .ref (E.1 + 38)), (1, .ref (E.1 + 0)), (0, .ref b)] []) {h : Nat → va_E} {n k1 k2 : Nat} (hI : Inv E h n) (hk1 : k1 + 11 * (f + 1) ≤ 600000) (hk2 : k2 + 228 * (f + 1) ≤ 7302250) : J E (mLaw nm) (40, 600000, 7302250) S (fun v _ _ => v = some (.int 1)) h n (k1, k2) 765 [(3, .int (nI i)), (2, .ref (E.1 + 38)), (1, .ref (E.1 + 0)), (0, .ref b)] [] := by
  obtain ⟨fs0, hc0, hn0⟩ := Inv_0 hI
  refine J_aload_n dL_law_765 rfl ?_
  refine J_aload_n dL_law_766 rfl ?_
  refine J_iload_n dL_law_767 rfl ?_
  refine J_iconst (v := nI 1) dL_law_768 (by decide +kernel) ?_
  refine J_iaddN dL_law_769 ?_
  refine J_sld hS (i := i + 1) (by omega) (by omega) dL_law_770 ?_
  refine J_aload_n dL_law_771 rfl ?_
  refine J_iload_n dL_law_772 rfl ?_
  refine J_iconst (v := nI 2) dL_law_773 (by decide +kernel) ?_
  refine J_iaddN dL_law_774 ?_
  refine J_sld hS (i := i + 2) (by omega) (by omega) dL_law_775 ?_
  refine J_aload_n dL_law_776 rfl ?_
  refine J_iload_n dL_law_777 rfl ?_
  refine J_iconst (v := nI 3) dL_law_778 (by decide +kernel) ?_
  refine J_iaddN dL_law_779 ?_
  refine J_sld hS (i := i + 3) (by omega) (by omega) dL_law_780 ?_
  refine J_aload_n dL_law_781 rfl ?_
  refine J_iload_n dL_law_782 rfl ?_
  refine J_iconst (v := nI 4) dL_law_783 (by decide +kernel) ?_
  refine J_iaddN dL_law_784 ?_
  refine J_sld hS (i := i + 4) (by omega) (by omega) dL_law_785 ?_
  refine J_callV (M' := mX7_note) (d' := (3, 0, 0)) (rest := []) dL_law_786 jmX7_note jlRL_95 (sim_note (uX (xs (i + 1))) (uX (xs (i + 2))) (uX (xs (i + 3))) (uX (xs (i + 4))) (uX_lt _) (uX_lt _) (uX_lt _) (uX_lt _) hI) hc0 hn0 jk7.1 rfl rfl (Nat.le_of_ble_eq_true rfl) (Nat.le_of_ble_eq_true rfl) (by constructor <;> simp only [] <;> omega) (fun v1 h1 n1 q1 => ?_)
  obtain ⟨y, fs1, rfl, hm1, hn1, C8⟩ := q1
  refine J.stk (st' := [.int y]) rfl ?_
  refine J_aload_n dL_law_789 rfl ?_
  refine J_aload_n dL_law_790 rfl ?_
  refine J_iload_n dL_law_791 rfl ?_
  refine J_iconst (v := nI 1) dL_law_792 (by decide +kernel) ?_
  refine J_iaddN dL_law_793 ?_
  refine J_sld hS (i := i + 1) (by omega) (by omega) dL_law_794 ?_
  refine J_aload_n dL_law_795 rfl ?_
  refine J_iload_n dL_law_796 rfl ?_
  refine J_iconst (v := nI 2) dL_law_797 (by decide +kernel) ?_
  refine J_iaddN dL_law_798 ?_
  refine J_sld hS (i := i + 2) (by omega) (by omega) dL_law_799 ?_
  refine J_aload_n dL_law_800 rfl ?_
  refine J_iload_n dL_law_801 rfl ?_
  refine J_iconst (v := nI 3) dL_law_802 (by decide +kernel) ?_
  refine J_iaddN dL_law_803 ?_
  refine J_sld hS (i := i + 3) (by omega) (by omega) dL_law_804 ?_
  refine J_aload_n dL_law_805 rfl ?_
  refine J_iload_n dL_law_806 rfl ?_
  refine J_iconst (v := nI 4) dL_law_807 (by decide +kernel) ?_
  refine J_iaddN dL_law_808 ?_
  refine J_sld hS (i := i + 4) (by omega) (by omega) dL_law_809 ?_
  refine J_callV (M' := mX8_note) (d' := (3, 0, 0)) (rest := [.int y]) dL_law_810 jmX8_note jlRL_98 C8 hm1 hn1 jk8.1 rfl rfl (Nat.le_of_ble_eq_true rfl) (Nat.le_of_ble_eq_true rfl) (by constructor <;> simp only [] <;> omega) (fun v2 h2 n2 q2 => ?_)
  obtain ⟨rfl, hI2⟩ := q2
  refine J.stk (st' := [.int y, .int y]) rfl ?_
  refine J_icmp_eq (tgt := 1265) dL_law_813 (by decide) (fun _ => ?_) (fun z => absurd rfl z)
  exact kont _ _ _ _ hI2 (by simp only []; omega) (by simp only []; omega)
set_option maxHeartbeats 1000000 in
theorem law_c20 {E : jE} {nm : String} {S : Array Value → State → Prop} {b len i f : Nat} {xs : Nat → Int32} (hS : ∀ args s, S args s → va_X b len xs s s.heap ∧ b < s.heap.size ∧ s.heap.size = E.1) (hlen : len ≤ 3072) (hi6 : i + 6 ≤ len) (kont : ∀ (h2 : Nat → va_E) (n2 k1 k2 : Nat), Inv E h2 n2 → k1 + 11 * f ≤ 600000 → k2 + 228 * f ≤ 7302250 → J E (mLaw nm) (40, 600000, 7302250) S (fun v _ _ => v = some (.int 1)) h2 n2 (k1, k2) 1265 [(3, .int (nI i)), (2, .ref (E.1 + 38)), (1, .ref (E.1 + 0)), (0, .ref b)] []) {h : Nat → va_E} {n k1 k2 : Nat} (hI : Inv E h n) (hk1 : k1 + 11 * (f + 1) ≤ 600000) (hk2 : k2 + 228 * (f + 1) ≤ 7302250) : J E (mLaw nm) (40, 600000, 7302250) S (fun v _ _ => v = some (.int 1)) h n (k1, k2) 818 [(3, .int (nI i)), (2, .ref (E.1 + 38)), (1, .ref (E.1 + 0)), (0, .ref b)] [] := by
  obtain ⟨fs0, hc0, hn0⟩ := Inv_0 hI
  refine J_aload_n dL_law_818 rfl ?_
  refine J_aload_n dL_law_819 rfl ?_
  refine J_iload_n dL_law_820 rfl ?_
  refine J_iconst (v := nI 1) dL_law_821 (by decide +kernel) ?_
  refine J_iaddN dL_law_822 ?_
  refine J_sld hS (i := i + 1) (by omega) (by omega) dL_law_823 ?_
  refine J_aload_n dL_law_824 rfl ?_
  refine J_iload_n dL_law_825 rfl ?_
  refine J_iconst (v := nI 2) dL_law_826 (by decide +kernel) ?_
  refine J_iaddN dL_law_827 ?_
  refine J_sld hS (i := i + 2) (by omega) (by omega) dL_law_828 ?_
  refine J_aload_n dL_law_829 rfl ?_
  refine J_iload_n dL_law_830 rfl ?_
  refine J_iconst (v := nI 3) dL_law_831 (by decide +kernel) ?_
  refine J_iaddN dL_law_832 ?_
  refine J_sld hS (i := i + 3) (by omega) (by omega) dL_law_833 ?_
  refine J_aload_n dL_law_834 rfl ?_
  refine J_iload_n dL_law_835 rfl ?_
  refine J_iconst (v := nI 4) dL_law_836 (by decide +kernel) ?_
  refine J_iaddN dL_law_837 ?_
  refine J_sld hS (i := i + 4) (by omega) (by omega) dL_law_838 ?_
  refine J_callV (M' := mX7_came) (d' := (4, 0, 0)) (rest := []) dL_law_839 jmX7_came jlRL_99 (sim_came (uX (xs (i + 1))) (uX (xs (i + 2))) (uX (xs (i + 3))) (uX (xs (i + 4))) (uX_lt _) (uX_lt _) (uX_lt _) (uX_lt _) hI) hc0 hn0 jk7.1 rfl rfl (Nat.le_of_ble_eq_true rfl) (Nat.le_of_ble_eq_true rfl) (by constructor <;> simp only [] <;> omega) (fun v1 h1 n1 q1 => ?_)
  obtain ⟨y, fs1, rfl, hm1, hn1, C8⟩ := q1
  refine J.stk (st' := [.int y]) rfl ?_
  refine J_aload_n dL_law_842 rfl ?_
  refine J_aload_n dL_law_843 rfl ?_
  refine J_iload_n dL_law_844 rfl ?_
  refine J_iconst (v := nI 1) dL_law_845 (by decide +kernel) ?_
  refine J_iaddN dL_law_846 ?_
  refine J_sld hS (i := i + 1) (by omega) (by omega) dL_law_847 ?_
  refine J_aload_n dL_law_848 rfl ?_
  refine J_iload_n dL_law_849 rfl ?_
  refine J_iconst (v := nI 2) dL_law_850 (by decide +kernel) ?_
  refine J_iaddN dL_law_851 ?_
  refine J_sld hS (i := i + 2) (by omega) (by omega) dL_law_852 ?_
  refine J_aload_n dL_law_853 rfl ?_
  refine J_iload_n dL_law_854 rfl ?_
  refine J_iconst (v := nI 3) dL_law_855 (by decide +kernel) ?_
  refine J_iaddN dL_law_856 ?_
  refine J_sld hS (i := i + 3) (by omega) (by omega) dL_law_857 ?_
  refine J_aload_n dL_law_858 rfl ?_
  refine J_iload_n dL_law_859 rfl ?_
  refine J_iconst (v := nI 4) dL_law_860 (by decide +kernel) ?_
  refine J_iaddN dL_law_861 ?_
  refine J_sld hS (i := i + 4) (by omega) (by omega) dL_law_862 ?_
  refine J_callV (M' := mX8_came) (d' := (3, 0, 0)) (rest := [.int y]) dL_law_863 jmX8_came jlRL_102 C8 hm1 hn1 jk8.1 rfl rfl (Nat.le_of_ble_eq_true rfl) (Nat.le_of_ble_eq_true rfl) (by constructor <;> simp only [] <;> omega) (fun v2 h2 n2 q2 => ?_)
  obtain ⟨rfl, hI2⟩ := q2
  refine J.stk (st' := [.int y, .int y]) rfl ?_
  refine J_icmp_eq (tgt := 1265) dL_law_866 (by decide) (fun _ => ?_) (fun z => absurd rfl z)
  exact kont _ _ _ _ hI2 (by simp only []; omega) (by simp only []; omega)
set_option maxHeartbeats 1000000 in
theorem law_c21 {E : jE} {nm : String} {S : Array Value → State → Prop} {b len i f : Nat} {xs : Nat → Int32} (hS : ∀ args s, S args s → va_X b len xs s s.heap ∧ b < s.heap.size ∧ s.heap.size = E.1) (hlen : len ≤ 3072) (hi6 : i + 6 ≤ len) (kont : ∀ (h2 : Nat → va_E) (n2 k1 k2 : Nat), Inv E h2 n2 → k1 + 11 * f ≤ 600000 → k2 + 228 * f ≤ 7302250 → J E (mLaw nm) (40, 600000, 7302250) S (fun v _ _ => v = some (.int 1)) h2 n2 (k1, k2) 1265 [(3, .int (nI i)), (2, .ref (E.1 + 38)), (1, .ref (E.1 + 0)), (0, .ref b)] []) {h : Nat → va_E} {n k1 k2 : Nat} (hI : Inv E h n) (hk1 : k1 + 11 * (f + 1) ≤ 600000) (hk2 : k2 + 228 * (f + 1) ≤ 7302250) : J E (mLaw nm) (40, 600000, 7302250) S (fun v _ _ => v = some (.int 1)) h n (k1, k2) 871 [(3, .int (nI i)), (2, .ref (E.1 + 38)), (1, .ref (E.1 + 0)), (0, .ref b)] [] := by
  obtain ⟨fs0, hc0, hn0⟩ := Inv_0 hI
  refine J_aload_n dL_law_871 rfl ?_
  refine J_aload_n dL_law_872 rfl ?_
  refine J_iload_n dL_law_873 rfl ?_
  refine J_iconst (v := nI 1) dL_law_874 (by decide +kernel) ?_
  refine J_iaddN dL_law_875 ?_
  refine J_sld hS (i := i + 1) (by omega) (by omega) dL_law_876 ?_
  refine J_callV (M' := mX7_forget) (d' := (2, 0, 0)) (rest := []) dL_law_877 jmX7_forget jlRL_103 (sim_forget (uX (xs (i + 1))) (uX_lt _) hI) hc0 hn0 jk7.1 rfl rfl (Nat.le_of_ble_eq_true rfl) (Nat.le_of_ble_eq_true rfl) (by constructor <;> simp only [] <;> omega) (fun v1 h1 n1 q1 => ?_)
  obtain ⟨y, fs1, rfl, hm1, hn1, C8⟩ := q1
  refine J.stk (st' := [.int y]) rfl ?_
  refine J_aload_n dL_law_880 rfl ?_
  refine J_aload_n dL_law_881 rfl ?_
  refine J_iload_n dL_law_882 rfl ?_
  refine J_iconst (v := nI 1) dL_law_883 (by decide +kernel) ?_
  refine J_iaddN dL_law_884 ?_
  refine J_sld hS (i := i + 1) (by omega) (by omega) dL_law_885 ?_
  refine J_callV (M' := mX8_forget) (d' := (2, 0, 0)) (rest := [.int y]) dL_law_886 jmX8_forget jlRL_106 C8 hm1 hn1 jk8.1 rfl rfl (Nat.le_of_ble_eq_true rfl) (Nat.le_of_ble_eq_true rfl) (by constructor <;> simp only [] <;> omega) (fun v2 h2 n2 q2 => ?_)
  obtain ⟨rfl, hI2⟩ := q2
  refine J.stk (st' := [.int y, .int y]) rfl ?_
  refine J_icmp_eq (tgt := 1265) dL_law_889 (by decide) (fun _ => ?_) (fun z => absurd rfl z)
  exact kont _ _ _ _ hI2 (by simp only []; omega) (by simp only []; omega)
set_option maxHeartbeats 1000000 in
theorem law_c22 {E : jE} {nm : String} {S : Array Value → State → Prop} {b len i f : Nat} {xs : Nat → Int32} (hS : ∀ args s, S args s → va_X b len xs s s.heap ∧ b < s.heap.size ∧ s.heap.size = E.1) (hlen : len ≤ 3072) (hi6 : i + 6 ≤ len) (kont : ∀ (h2 : Nat → va_E) (n2 k1 k2 : Nat), Inv E h2 n2 → k1 + 11 * f ≤ 600000 → k2 + 228 * f ≤ 7302250 → J E (mLaw nm) (40, 600000, 7302250) S (fun v _ _ => v = some (.int 1)) h2 n2 (k1, k2) 1265 [(3, .int (nI i)), (2, .ref (E.1 + 38)), (1, .ref (E.1 + 0)), (0, .ref b)] []) {h : Nat → va_E} {n k1 k2 : Nat} (hI : Inv E h n) (hk1 : k1 + 11 * (f + 1) ≤ 600000) (hk2 : k2 + 228 * (f + 1) ≤ 7302250) : J E (mLaw nm) (40, 600000, 7302250) S (fun v _ _ => v = some (.int 1)) h n (k1, k2) 894 [(3, .int (nI i)), (2, .ref (E.1 + 38)), (1, .ref (E.1 + 0)), (0, .ref b)] [] := by
  obtain ⟨fs0, hc0, hn0⟩ := Inv_0 hI
  refine J_aload_n dL_law_894 rfl ?_
  refine J_aload_n dL_law_895 rfl ?_
  refine J_iload_n dL_law_896 rfl ?_
  refine J_iconst (v := nI 1) dL_law_897 (by decide +kernel) ?_
  refine J_iaddN dL_law_898 ?_
  refine J_sld hS (i := i + 1) (by omega) (by omega) dL_law_899 ?_
  refine J_callV (M' := mX7_is) (d' := (4, 0, 0)) (rest := []) dL_law_900 jmX7_is jlRL_107 (sim_is (uX (xs (i + 1))) (uX_lt _) hI) hc0 hn0 jk7.1 rfl rfl (Nat.le_of_ble_eq_true rfl) (Nat.le_of_ble_eq_true rfl) (by constructor <;> simp only [] <;> omega) (fun v1 h1 n1 q1 => ?_)
  obtain ⟨y, fs1, rfl, hm1, hn1, C8⟩ := q1
  refine J.stk (st' := [.int y]) rfl ?_
  refine J_aload_n dL_law_903 rfl ?_
  refine J_aload_n dL_law_904 rfl ?_
  refine J_iload_n dL_law_905 rfl ?_
  refine J_iconst (v := nI 1) dL_law_906 (by decide +kernel) ?_
  refine J_iaddN dL_law_907 ?_
  refine J_sld hS (i := i + 1) (by omega) (by omega) dL_law_908 ?_
  refine J_callV (M' := mX8_is) (d' := (3, 0, 0)) (rest := [.int y]) dL_law_909 jmX8_is jlRL_110 C8 hm1 hn1 jk8.1 rfl rfl (Nat.le_of_ble_eq_true rfl) (Nat.le_of_ble_eq_true rfl) (by constructor <;> simp only [] <;> omega) (fun v2 h2 n2 q2 => ?_)
  obtain ⟨rfl, hI2⟩ := q2
  refine J.stk (st' := [.int y, .int y]) rfl ?_
  refine J_icmp_eq (tgt := 1265) dL_law_912 (by decide) (fun _ => ?_) (fun z => absurd rfl z)
  exact kont _ _ _ _ hI2 (by simp only []; omega) (by simp only []; omega)
set_option maxHeartbeats 1000000 in
theorem law_c23 {E : jE} {nm : String} {S : Array Value → State → Prop} {b len i f : Nat} {xs : Nat → Int32} (hS : ∀ args s, S args s → va_X b len xs s s.heap ∧ b < s.heap.size ∧ s.heap.size = E.1) (hlen : len ≤ 3072) (hi6 : i + 6 ≤ len) (kont : ∀ (h2 : Nat → va_E) (n2 k1 k2 : Nat), Inv E h2 n2 → k1 + 11 * f ≤ 600000 → k2 + 228 * f ≤ 7302250 → J E (mLaw nm) (40, 600000, 7302250) S (fun v _ _ => v = some (.int 1)) h2 n2 (k1, k2) 1265 [(3, .int (nI i)), (2, .ref (E.1 + 38)), (1, .ref (E.1 + 0)), (0, .ref b)] []) {h : Nat → va_E} {n k1 k2 : Nat} (hI : Inv E h n) (hk1 : k1 + 11 * (f + 1) ≤ 600000) (hk2 : k2 + 228 * (f + 1) ≤ 7302250) : J E (mLaw nm) (40, 600000, 7302250) S (fun v _ _ => v = some (.int 1)) h n (k1, k2) 917 [(3, .int (nI i)), (2, .ref (E.1 + 38)), (1, .ref (E.1 + 0)), (0, .ref b)] [] := by
  obtain ⟨fs0, hc0, hn0⟩ := Inv_0 hI
  refine J_aload_n dL_law_917 rfl ?_
  refine J_aload_n dL_law_918 rfl ?_
  refine J_iload_n dL_law_919 rfl ?_
  refine J_iconst (v := nI 1) dL_law_920 (by decide +kernel) ?_
  refine J_iaddN dL_law_921 ?_
  refine J_sld hS (i := i + 1) (by omega) (by omega) dL_law_922 ?_
  refine J_callV (M' := mX7_look) (d' := (4, 0, 0)) (rest := []) dL_law_923 jmX7_look jlRL_111 (sim_look (uX (xs (i + 1))) (uX_lt _) hI) hc0 hn0 jk7.1 rfl rfl (Nat.le_of_ble_eq_true rfl) (Nat.le_of_ble_eq_true rfl) (by constructor <;> simp only [] <;> omega) (fun v1 h1 n1 q1 => ?_)
  obtain ⟨y, fs1, rfl, hm1, hn1, C8⟩ := q1
  refine J.stk (st' := [.int y]) rfl ?_
  refine J_aload_n dL_law_926 rfl ?_
  refine J_aload_n dL_law_927 rfl ?_
  refine J_iload_n dL_law_928 rfl ?_
  refine J_iconst (v := nI 1) dL_law_929 (by decide +kernel) ?_
  refine J_iaddN dL_law_930 ?_
  refine J_sld hS (i := i + 1) (by omega) (by omega) dL_law_931 ?_
  refine J_callV (M' := mX8_look) (d' := (3, 0, 0)) (rest := [.int y]) dL_law_932 jmX8_look jlRL_114 C8 hm1 hn1 jk8.1 rfl rfl (Nat.le_of_ble_eq_true rfl) (Nat.le_of_ble_eq_true rfl) (by constructor <;> simp only [] <;> omega) (fun v2 h2 n2 q2 => ?_)
  obtain ⟨rfl, hI2⟩ := q2
  refine J.stk (st' := [.int y, .int y]) rfl ?_
  refine J_icmp_eq (tgt := 1265) dL_law_935 (by decide) (fun _ => ?_) (fun z => absurd rfl z)
  exact kont _ _ _ _ hI2 (by simp only []; omega) (by simp only []; omega)
set_option maxHeartbeats 1000000 in
theorem law_c24 {E : jE} {nm : String} {S : Array Value → State → Prop} {b len i f : Nat} {xs : Nat → Int32} (hS : ∀ args s, S args s → va_X b len xs s s.heap ∧ b < s.heap.size ∧ s.heap.size = E.1) (hlen : len ≤ 3072) (hi6 : i + 6 ≤ len) (kont : ∀ (h2 : Nat → va_E) (n2 k1 k2 : Nat), Inv E h2 n2 → k1 + 11 * f ≤ 600000 → k2 + 228 * f ≤ 7302250 → J E (mLaw nm) (40, 600000, 7302250) S (fun v _ _ => v = some (.int 1)) h2 n2 (k1, k2) 1265 [(3, .int (nI i)), (2, .ref (E.1 + 38)), (1, .ref (E.1 + 0)), (0, .ref b)] []) {h : Nat → va_E} {n k1 k2 : Nat} (hI : Inv E h n) (hk1 : k1 + 11 * (f + 1) ≤ 600000) (hk2 : k2 + 228 * (f + 1) ≤ 7302250) : J E (mLaw nm) (40, 600000, 7302250) S (fun v _ _ => v = some (.int 1)) h n (k1, k2) 940 [(3, .int (nI i)), (2, .ref (E.1 + 38)), (1, .ref (E.1 + 0)), (0, .ref b)] [] := by
  obtain ⟨fs0, hc0, hn0⟩ := Inv_0 hI
  refine J_aload_n dL_law_940 rfl ?_
  refine J_aload_n dL_law_941 rfl ?_
  refine J_iload_n dL_law_942 rfl ?_
  refine J_iconst (v := nI 1) dL_law_943 (by decide +kernel) ?_
  refine J_iaddN dL_law_944 ?_
  refine J_sld hS (i := i + 1) (by omega) (by omega) dL_law_945 ?_
  refine J_aload_n dL_law_946 rfl ?_
  refine J_iload_n dL_law_947 rfl ?_
  refine J_iconst (v := nI 2) dL_law_948 (by decide +kernel) ?_
  refine J_iaddN dL_law_949 ?_
  refine J_sld hS (i := i + 2) (by omega) (by omega) dL_law_950 ?_
  refine J_callV (M' := mX7_memory) (d' := (4, 0, 0)) (rest := []) dL_law_951 jmX7_memory jlRL_115 (sim_memory (uX (xs (i + 1))) (uX (xs (i + 2))) (uX_lt _) (uX_lt _) hI) hc0 hn0 jk7.1 rfl rfl (Nat.le_of_ble_eq_true rfl) (Nat.le_of_ble_eq_true rfl) (by constructor <;> simp only [] <;> omega) (fun v1 h1 n1 q1 => ?_)
  obtain ⟨y, fs1, rfl, hm1, hn1, C8⟩ := q1
  refine J.stk (st' := [.int y]) rfl ?_
  refine J_aload_n dL_law_954 rfl ?_
  refine J_aload_n dL_law_955 rfl ?_
  refine J_iload_n dL_law_956 rfl ?_
  refine J_iconst (v := nI 1) dL_law_957 (by decide +kernel) ?_
  refine J_iaddN dL_law_958 ?_
  refine J_sld hS (i := i + 1) (by omega) (by omega) dL_law_959 ?_
  refine J_aload_n dL_law_960 rfl ?_
  refine J_iload_n dL_law_961 rfl ?_
  refine J_iconst (v := nI 2) dL_law_962 (by decide +kernel) ?_
  refine J_iaddN dL_law_963 ?_
  refine J_sld hS (i := i + 2) (by omega) (by omega) dL_law_964 ?_
  refine J_callV (M' := mX8_memory) (d' := (3, 0, 0)) (rest := [.int y]) dL_law_965 jmX8_memory jlRL_118 C8 hm1 hn1 jk8.1 rfl rfl (Nat.le_of_ble_eq_true rfl) (Nat.le_of_ble_eq_true rfl) (by constructor <;> simp only [] <;> omega) (fun v2 h2 n2 q2 => ?_)
  obtain ⟨rfl, hI2⟩ := q2
  refine J.stk (st' := [.int y, .int y]) rfl ?_
  refine J_icmp_eq (tgt := 1265) dL_law_968 (by decide) (fun _ => ?_) (fun z => absurd rfl z)
  exact kont _ _ _ _ hI2 (by simp only []; omega) (by simp only []; omega)
set_option maxHeartbeats 1000000 in
theorem law_c25 {E : jE} {nm : String} {S : Array Value → State → Prop} {b len i f : Nat} {xs : Nat → Int32} (hS : ∀ args s, S args s → va_X b len xs s s.heap ∧ b < s.heap.size ∧ s.heap.size = E.1) (hlen : len ≤ 3072) (hi6 : i + 6 ≤ len) (kont : ∀ (h2 : Nat → va_E) (n2 k1 k2 : Nat), Inv E h2 n2 → k1 + 11 * f ≤ 600000 → k2 + 228 * f ≤ 7302250 → J E (mLaw nm) (40, 600000, 7302250) S (fun v _ _ => v = some (.int 1)) h2 n2 (k1, k2) 1265 [(3, .int (nI i)), (2, .ref (E.1 + 38)), (1, .ref (E.1 + 0)), (0, .ref b)] []) {h : Nat → va_E} {n k1 k2 : Nat} (hI : Inv E h n) (hk1 : k1 + 11 * (f + 1) ≤ 600000) (hk2 : k2 + 228 * (f + 1) ≤ 7302250) : J E (mLaw nm) (40, 600000, 7302250) S (fun v _ _ => v = some (.int 1)) h n (k1, k2) 973 [(3, .int (nI i)), (2, .ref (E.1 + 38)), (1, .ref (E.1 + 0)), (0, .ref b)] [] := by
  obtain ⟨fs0, hc0, hn0⟩ := Inv_0 hI
  refine J_aload_n dL_law_973 rfl ?_
  refine J_aload_n dL_law_974 rfl ?_
  refine J_iload_n dL_law_975 rfl ?_
  refine J_iconst (v := nI 1) dL_law_976 (by decide +kernel) ?_
  refine J_iaddN dL_law_977 ?_
  refine J_sld hS (i := i + 1) (by omega) (by omega) dL_law_978 ?_
  refine J_aload_n dL_law_979 rfl ?_
  refine J_iload_n dL_law_980 rfl ?_
  refine J_iconst (v := nI 2) dL_law_981 (by decide +kernel) ?_
  refine J_iaddN dL_law_982 ?_
  refine J_sld hS (i := i + 2) (by omega) (by omega) dL_law_983 ?_
  refine J_aload_n dL_law_984 rfl ?_
  refine J_iload_n dL_law_985 rfl ?_
  refine J_iconst (v := nI 3) dL_law_986 (by decide +kernel) ?_
  refine J_iaddN dL_law_987 ?_
  refine J_sld hS (i := i + 3) (by omega) (by omega) dL_law_988 ?_
  refine J_aload_n dL_law_989 rfl ?_
  refine J_iload_n dL_law_990 rfl ?_
  refine J_iconst (v := nI 4) dL_law_991 (by decide +kernel) ?_
  refine J_iaddN dL_law_992 ?_
  refine J_sld hS (i := i + 4) (by omega) (by omega) dL_law_993 ?_
  refine J_callV (M' := mX7_whose) (d' := (3, 0, 0)) (rest := []) dL_law_994 jmX7_whose jlRL_119 (sim_whose (uX (xs (i + 1))) (uX (xs (i + 2))) (uX (xs (i + 3))) (uX (xs (i + 4))) (uX_lt _) (uX_lt _) (uX_lt _) (uX_lt _) hI) hc0 hn0 jk7.1 rfl rfl (Nat.le_of_ble_eq_true rfl) (Nat.le_of_ble_eq_true rfl) (by constructor <;> simp only [] <;> omega) (fun v1 h1 n1 q1 => ?_)
  obtain ⟨y, fs1, rfl, hm1, hn1, C8⟩ := q1
  refine J.stk (st' := [.int y]) rfl ?_
  refine J_aload_n dL_law_997 rfl ?_
  refine J_aload_n dL_law_998 rfl ?_
  refine J_iload_n dL_law_999 rfl ?_
  refine J_iconst (v := nI 1) dL_law_1000 (by decide +kernel) ?_
  refine J_iaddN dL_law_1001 ?_
  refine J_sld hS (i := i + 1) (by omega) (by omega) dL_law_1002 ?_
  refine J_aload_n dL_law_1003 rfl ?_
  refine J_iload_n dL_law_1004 rfl ?_
  refine J_iconst (v := nI 2) dL_law_1005 (by decide +kernel) ?_
  refine J_iaddN dL_law_1006 ?_
  refine J_sld hS (i := i + 2) (by omega) (by omega) dL_law_1007 ?_
  refine J_aload_n dL_law_1008 rfl ?_
  refine J_iload_n dL_law_1009 rfl ?_
  refine J_iconst (v := nI 3) dL_law_1010 (by decide +kernel) ?_
  refine J_iaddN dL_law_1011 ?_
  refine J_sld hS (i := i + 3) (by omega) (by omega) dL_law_1012 ?_
  refine J_aload_n dL_law_1013 rfl ?_
  refine J_iload_n dL_law_1014 rfl ?_
  refine J_iconst (v := nI 4) dL_law_1015 (by decide +kernel) ?_
  refine J_iaddN dL_law_1016 ?_
  refine J_sld hS (i := i + 4) (by omega) (by omega) dL_law_1017 ?_
  refine J_callV (M' := mX8_whose) (d' := (3, 0, 0)) (rest := [.int y]) dL_law_1018 jmX8_whose jlRL_122 C8 hm1 hn1 jk8.1 rfl rfl (Nat.le_of_ble_eq_true rfl) (Nat.le_of_ble_eq_true rfl) (by constructor <;> simp only [] <;> omega) (fun v2 h2 n2 q2 => ?_)
  obtain ⟨rfl, hI2⟩ := q2
  refine J.stk (st' := [.int y, .int y]) rfl ?_
  refine J_icmp_eq (tgt := 1265) dL_law_1021 (by decide) (fun _ => ?_) (fun z => absurd rfl z)
  exact kont _ _ _ _ hI2 (by simp only []; omega) (by simp only []; omega)
set_option maxHeartbeats 1000000 in
theorem law_c26 {E : jE} {nm : String} {S : Array Value → State → Prop} {b len i f : Nat} {xs : Nat → Int32} (hS : ∀ args s, S args s → va_X b len xs s s.heap ∧ b < s.heap.size ∧ s.heap.size = E.1) (hlen : len ≤ 3072) (hi6 : i + 6 ≤ len) (kont : ∀ (h2 : Nat → va_E) (n2 k1 k2 : Nat), Inv E h2 n2 → k1 + 11 * f ≤ 600000 → k2 + 228 * f ≤ 7302250 → J E (mLaw nm) (40, 600000, 7302250) S (fun v _ _ => v = some (.int 1)) h2 n2 (k1, k2) 1265 [(3, .int (nI i)), (2, .ref (E.1 + 38)), (1, .ref (E.1 + 0)), (0, .ref b)] []) {h : Nat → va_E} {n k1 k2 : Nat} (hI : Inv E h n) (hk1 : k1 + 11 * (f + 1) ≤ 600000) (hk2 : k2 + 228 * (f + 1) ≤ 7302250) : J E (mLaw nm) (40, 600000, 7302250) S (fun v _ _ => v = some (.int 1)) h n (k1, k2) 1026 [(3, .int (nI i)), (2, .ref (E.1 + 38)), (1, .ref (E.1 + 0)), (0, .ref b)] [] := by
  obtain ⟨fs0, hc0, hn0⟩ := Inv_0 hI
  refine J_aload_n dL_law_1026 rfl ?_
  refine J_aload_n dL_law_1027 rfl ?_
  refine J_iload_n dL_law_1028 rfl ?_
  refine J_iconst (v := nI 1) dL_law_1029 (by decide +kernel) ?_
  refine J_iaddN dL_law_1030 ?_
  refine J_sld hS (i := i + 1) (by omega) (by omega) dL_law_1031 ?_
  refine J_aload_n dL_law_1032 rfl ?_
  refine J_iload_n dL_law_1033 rfl ?_
  refine J_iconst (v := nI 2) dL_law_1034 (by decide +kernel) ?_
  refine J_iaddN dL_law_1035 ?_
  refine J_sld hS (i := i + 2) (by omega) (by omega) dL_law_1036 ?_
  refine J_aload_n dL_law_1037 rfl ?_
  refine J_iload_n dL_law_1038 rfl ?_
  refine J_iconst (v := nI 3) dL_law_1039 (by decide +kernel) ?_
  refine J_iaddN dL_law_1040 ?_
  refine J_sld hS (i := i + 3) (by omega) (by omega) dL_law_1041 ?_
  refine J_callV (M' := mX7_two) (d' := (5, 0, 0)) (rest := []) dL_law_1042 jmX7_two jlRL_123 (sim_two (uX (xs (i + 1))) (uX (xs (i + 2))) (uX (xs (i + 3))) (uX_lt _) (uX_lt _) (uX_lt _) hI) hc0 hn0 jk7.1 rfl rfl (Nat.le_of_ble_eq_true rfl) (Nat.le_of_ble_eq_true rfl) (by constructor <;> simp only [] <;> omega) (fun v1 h1 n1 q1 => ?_)
  obtain ⟨y, fs1, rfl, hm1, hn1, C8⟩ := q1
  refine J.stk (st' := [.int y]) rfl ?_
  refine J_aload_n dL_law_1045 rfl ?_
  refine J_aload_n dL_law_1046 rfl ?_
  refine J_iload_n dL_law_1047 rfl ?_
  refine J_iconst (v := nI 1) dL_law_1048 (by decide +kernel) ?_
  refine J_iaddN dL_law_1049 ?_
  refine J_sld hS (i := i + 1) (by omega) (by omega) dL_law_1050 ?_
  refine J_aload_n dL_law_1051 rfl ?_
  refine J_iload_n dL_law_1052 rfl ?_
  refine J_iconst (v := nI 2) dL_law_1053 (by decide +kernel) ?_
  refine J_iaddN dL_law_1054 ?_
  refine J_sld hS (i := i + 2) (by omega) (by omega) dL_law_1055 ?_
  refine J_aload_n dL_law_1056 rfl ?_
  refine J_iload_n dL_law_1057 rfl ?_
  refine J_iconst (v := nI 3) dL_law_1058 (by decide +kernel) ?_
  refine J_iaddN dL_law_1059 ?_
  refine J_sld hS (i := i + 3) (by omega) (by omega) dL_law_1060 ?_
  refine J_callV (M' := mX8_two) (d' := (6, 0, 0)) (rest := [.int y]) dL_law_1061 jmX8_two jlRL_126 C8 hm1 hn1 jk8.1 rfl rfl (Nat.le_of_ble_eq_true rfl) (Nat.le_of_ble_eq_true rfl) (by constructor <;> simp only [] <;> omega) (fun v2 h2 n2 q2 => ?_)
  obtain ⟨rfl, hI2⟩ := q2
  refine J.stk (st' := [.int y, .int y]) rfl ?_
  refine J_icmp_eq (tgt := 1265) dL_law_1064 (by decide) (fun _ => ?_) (fun z => absurd rfl z)
  exact kont _ _ _ _ hI2 (by simp only []; omega) (by simp only []; omega)
set_option maxHeartbeats 1000000 in
theorem law_c27 {E : jE} {nm : String} {S : Array Value → State → Prop} {b len i f : Nat} {xs : Nat → Int32} (hS : ∀ args s, S args s → va_X b len xs s s.heap ∧ b < s.heap.size ∧ s.heap.size = E.1) (hlen : len ≤ 3072) (hi6 : i + 6 ≤ len) (kont : ∀ (h2 : Nat → va_E) (n2 k1 k2 : Nat), Inv E h2 n2 → k1 + 11 * f ≤ 600000 → k2 + 228 * f ≤ 7302250 → J E (mLaw nm) (40, 600000, 7302250) S (fun v _ _ => v = some (.int 1)) h2 n2 (k1, k2) 1265 [(3, .int (nI i)), (2, .ref (E.1 + 38)), (1, .ref (E.1 + 0)), (0, .ref b)] []) {h : Nat → va_E} {n k1 k2 : Nat} (hI : Inv E h n) (hk1 : k1 + 11 * (f + 1) ≤ 600000) (hk2 : k2 + 228 * (f + 1) ≤ 7302250) : J E (mLaw nm) (40, 600000, 7302250) S (fun v _ _ => v = some (.int 1)) h n (k1, k2) 1069 [(3, .int (nI i)), (2, .ref (E.1 + 38)), (1, .ref (E.1 + 0)), (0, .ref b)] [] := by
  obtain ⟨fs0, hc0, hn0⟩ := Inv_0 hI
  refine J_aload_n dL_law_1069 rfl ?_
  refine J_aload_n dL_law_1070 rfl ?_
  refine J_iload_n dL_law_1071 rfl ?_
  refine J_iconst (v := nI 1) dL_law_1072 (by decide +kernel) ?_
  refine J_iaddN dL_law_1073 ?_
  refine J_sld hS (i := i + 1) (by omega) (by omega) dL_law_1074 ?_
  refine J_aload_n dL_law_1075 rfl ?_
  refine J_iload_n dL_law_1076 rfl ?_
  refine J_iconst (v := nI 2) dL_law_1077 (by decide +kernel) ?_
  refine J_iaddN dL_law_1078 ?_
  refine J_sld hS (i := i + 2) (by omega) (by omega) dL_law_1079 ?_
  refine J_callV (M' := mX7_frost) (d' := (3, 0, 0)) (rest := []) dL_law_1080 jmX7_frost jlRL_127 (sim_frost (uX (xs (i + 1))) (uX (xs (i + 2))) (uX_lt _) (uX_lt _) hI) hc0 hn0 jk7.1 rfl rfl (Nat.le_of_ble_eq_true rfl) (Nat.le_of_ble_eq_true rfl) (by constructor <;> simp only [] <;> omega) (fun v1 h1 n1 q1 => ?_)
  obtain ⟨y, fs1, rfl, hm1, hn1, C8⟩ := q1
  refine J.stk (st' := [.int y]) rfl ?_
  refine J_aload_n dL_law_1083 rfl ?_
  refine J_aload_n dL_law_1084 rfl ?_
  refine J_iload_n dL_law_1085 rfl ?_
  refine J_iconst (v := nI 1) dL_law_1086 (by decide +kernel) ?_
  refine J_iaddN dL_law_1087 ?_
  refine J_sld hS (i := i + 1) (by omega) (by omega) dL_law_1088 ?_
  refine J_aload_n dL_law_1089 rfl ?_
  refine J_iload_n dL_law_1090 rfl ?_
  refine J_iconst (v := nI 2) dL_law_1091 (by decide +kernel) ?_
  refine J_iaddN dL_law_1092 ?_
  refine J_sld hS (i := i + 2) (by omega) (by omega) dL_law_1093 ?_
  refine J_callV (M' := mX8_frost) (d' := (3, 0, 0)) (rest := [.int y]) dL_law_1094 jmX8_frost jlRL_130 C8 hm1 hn1 jk8.1 rfl rfl (Nat.le_of_ble_eq_true rfl) (Nat.le_of_ble_eq_true rfl) (by constructor <;> simp only [] <;> omega) (fun v2 h2 n2 q2 => ?_)
  obtain ⟨rfl, hI2⟩ := q2
  refine J.stk (st' := [.int y, .int y]) rfl ?_
  refine J_icmp_eq (tgt := 1265) dL_law_1097 (by decide) (fun _ => ?_) (fun z => absurd rfl z)
  exact kont _ _ _ _ hI2 (by simp only []; omega) (by simp only []; omega)
set_option maxHeartbeats 1000000 in
theorem law_c28 {E : jE} {nm : String} {S : Array Value → State → Prop} {b len i f : Nat} {xs : Nat → Int32} (hS : ∀ args s, S args s → va_X b len xs s s.heap ∧ b < s.heap.size ∧ s.heap.size = E.1) (hlen : len ≤ 3072) (hi6 : i + 6 ≤ len) (kont : ∀ (h2 : Nat → va_E) (n2 k1 k2 : Nat), Inv E h2 n2 → k1 + 11 * f ≤ 600000 → k2 + 228 * f ≤ 7302250 → J E (mLaw nm) (40, 600000, 7302250) S (fun v _ _ => v = some (.int 1)) h2 n2 (k1, k2) 1265 [(3, .int (nI i)), (2, .ref (E.1 + 38)), (1, .ref (E.1 + 0)), (0, .ref b)] []) {h : Nat → va_E} {n k1 k2 : Nat} (hI : Inv E h n) (hk1 : k1 + 11 * (f + 1) ≤ 600000) (hk2 : k2 + 228 * (f + 1) ≤ 7302250) : J E (mLaw nm) (40, 600000, 7302250) S (fun v _ _ => v = some (.int 1)) h n (k1, k2) 1102 [(3, .int (nI i)), (2, .ref (E.1 + 38)), (1, .ref (E.1 + 0)), (0, .ref b)] [] := by
  obtain ⟨fs0, hc0, hn0⟩ := Inv_0 hI
  refine J_aload_n dL_law_1102 rfl ?_
  refine J_aload_n dL_law_1103 rfl ?_
  refine J_iload_n dL_law_1104 rfl ?_
  refine J_iconst (v := nI 1) dL_law_1105 (by decide +kernel) ?_
  refine J_iaddN dL_law_1106 ?_
  refine J_sld hS (i := i + 1) (by omega) (by omega) dL_law_1107 ?_
  refine J_aload_n dL_law_1108 rfl ?_
  refine J_iload_n dL_law_1109 rfl ?_
  refine J_iconst (v := nI 2) dL_law_1110 (by decide +kernel) ?_
  refine J_iaddN dL_law_1111 ?_
  refine J_sld hS (i := i + 2) (by omega) (by omega) dL_law_1112 ?_
  refine J_callV (M' := mX7_streets) (d' := (5, 0, 0)) (rest := []) dL_law_1113 jmX7_streets jlRL_131 (sim_streets (uX (xs (i + 1))) (uX (xs (i + 2))) (uX_lt _) (uX_lt _) hI) hc0 hn0 jk7.1 rfl rfl (Nat.le_of_ble_eq_true rfl) (Nat.le_of_ble_eq_true rfl) (by constructor <;> simp only [] <;> omega) (fun v1 h1 n1 q1 => ?_)
  obtain ⟨y, fs1, rfl, hm1, hn1, C8⟩ := q1
  refine J.stk (st' := [.int y]) rfl ?_
  refine J_aload_n dL_law_1116 rfl ?_
  refine J_aload_n dL_law_1117 rfl ?_
  refine J_iload_n dL_law_1118 rfl ?_
  refine J_iconst (v := nI 1) dL_law_1119 (by decide +kernel) ?_
  refine J_iaddN dL_law_1120 ?_
  refine J_sld hS (i := i + 1) (by omega) (by omega) dL_law_1121 ?_
  refine J_aload_n dL_law_1122 rfl ?_
  refine J_iload_n dL_law_1123 rfl ?_
  refine J_iconst (v := nI 2) dL_law_1124 (by decide +kernel) ?_
  refine J_iaddN dL_law_1125 ?_
  refine J_sld hS (i := i + 2) (by omega) (by omega) dL_law_1126 ?_
  refine J_callV (M' := mX8_streets) (d' := (5, 0, 0)) (rest := [.int y]) dL_law_1127 jmX8_streets jlRL_134 C8 hm1 hn1 jk8.1 rfl rfl (Nat.le_of_ble_eq_true rfl) (Nat.le_of_ble_eq_true rfl) (by constructor <;> simp only [] <;> omega) (fun v2 h2 n2 q2 => ?_)
  obtain ⟨rfl, hI2⟩ := q2
  refine J.stk (st' := [.int y, .int y]) rfl ?_
  refine J_icmp_eq (tgt := 1265) dL_law_1130 (by decide) (fun _ => ?_) (fun z => absurd rfl z)
  exact kont _ _ _ _ hI2 (by simp only []; omega) (by simp only []; omega)
set_option maxHeartbeats 1000000 in
theorem law_c29 {E : jE} {nm : String} {S : Array Value → State → Prop} {b len i f : Nat} {xs : Nat → Int32} (hS : ∀ args s, S args s → va_X b len xs s s.heap ∧ b < s.heap.size ∧ s.heap.size = E.1) (hlen : len ≤ 3072) (hi6 : i + 6 ≤ len) (kont : ∀ (h2 : Nat → va_E) (n2 k1 k2 : Nat), Inv E h2 n2 → k1 + 11 * f ≤ 600000 → k2 + 228 * f ≤ 7302250 → J E (mLaw nm) (40, 600000, 7302250) S (fun v _ _ => v = some (.int 1)) h2 n2 (k1, k2) 1265 [(3, .int (nI i)), (2, .ref (E.1 + 38)), (1, .ref (E.1 + 0)), (0, .ref b)] []) {h : Nat → va_E} {n k1 k2 : Nat} (hI : Inv E h n) (hk1 : k1 + 11 * (f + 1) ≤ 600000) (hk2 : k2 + 228 * (f + 1) ≤ 7302250) : J E (mLaw nm) (40, 600000, 7302250) S (fun v _ _ => v = some (.int 1)) h n (k1, k2) 1135 [(3, .int (nI i)), (2, .ref (E.1 + 38)), (1, .ref (E.1 + 0)), (0, .ref b)] [] := by
  obtain ⟨fs0, hc0, hn0⟩ := Inv_0 hI
  refine J_aload_n dL_law_1135 rfl ?_
  refine J_aload_n dL_law_1136 rfl ?_
  refine J_iload_n dL_law_1137 rfl ?_
  refine J_iconst (v := nI 1) dL_law_1138 (by decide +kernel) ?_
  refine J_iaddN dL_law_1139 ?_
  refine J_sld hS (i := i + 1) (by omega) (by omega) dL_law_1140 ?_
  refine J_callV (M' := mX7_part) (d' := (2, 0, 0)) (rest := []) dL_law_1141 jmX7_part jlRL_135 (sim_part (uX (xs (i + 1))) (uX_lt _) hI) hc0 hn0 jk7.1 rfl rfl (Nat.le_of_ble_eq_true rfl) (Nat.le_of_ble_eq_true rfl) (by constructor <;> simp only [] <;> omega) (fun v1 h1 n1 q1 => ?_)
  obtain ⟨y, fs1, rfl, hm1, hn1, C8⟩ := q1
  refine J.stk (st' := [.long y]) rfl ?_
  refine J_aload_n dL_law_1144 rfl ?_
  refine J_aload_n dL_law_1145 rfl ?_
  refine J_iload_n dL_law_1146 rfl ?_
  refine J_iconst (v := nI 1) dL_law_1147 (by decide +kernel) ?_
  refine J_iaddN dL_law_1148 ?_
  refine J_sld hS (i := i + 1) (by omega) (by omega) dL_law_1149 ?_
  refine J_callV (M' := mX8_part) (d' := (2, 0, 0)) (rest := [.long y]) dL_law_1150 jmX8_part jlRL_139 C8 hm1 hn1 jk8.1 rfl rfl (Nat.le_of_ble_eq_true rfl) (Nat.le_of_ble_eq_true rfl) (by constructor <;> simp only [] <;> omega) (fun v2 h2 n2 q2 => ?_)
  obtain ⟨rfl, hI2⟩ := q2
  refine J.stk (st' := [.long y, .long y]) rfl ?_
  refine J_lcmp dL_law_1153 ?_
  refine J_if_eq (tgt := 1265) dL_law_1154 (by decide) (fun _ => ?_) (fun z => absurd ((jx_ceq y y).2 rfl) z)
  exact kont _ _ _ _ hI2 (by simp only []; omega) (by simp only []; omega)
set_option maxHeartbeats 1000000 in
theorem law_c30 {E : jE} {nm : String} {S : Array Value → State → Prop} {b len i f : Nat} {xs : Nat → Int32} (hS : ∀ args s, S args s → va_X b len xs s s.heap ∧ b < s.heap.size ∧ s.heap.size = E.1) (hlen : len ≤ 3072) (hi6 : i + 6 ≤ len) (kont : ∀ (h2 : Nat → va_E) (n2 k1 k2 : Nat), Inv E h2 n2 → k1 + 11 * f ≤ 600000 → k2 + 228 * f ≤ 7302250 → J E (mLaw nm) (40, 600000, 7302250) S (fun v _ _ => v = some (.int 1)) h2 n2 (k1, k2) 1265 [(3, .int (nI i)), (2, .ref (E.1 + 38)), (1, .ref (E.1 + 0)), (0, .ref b)] []) {h : Nat → va_E} {n k1 k2 : Nat} (hI : Inv E h n) (hk1 : k1 + 11 * (f + 1) ≤ 600000) (hk2 : k2 + 228 * (f + 1) ≤ 7302250) : J E (mLaw nm) (40, 600000, 7302250) S (fun v _ _ => v = some (.int 1)) h n (k1, k2) 1159 [(3, .int (nI i)), (2, .ref (E.1 + 38)), (1, .ref (E.1 + 0)), (0, .ref b)] [] := by
  obtain ⟨fs0, hc0, hn0⟩ := Inv_0 hI
  refine J_aload_n dL_law_1159 rfl ?_
  refine J_aload_n dL_law_1160 rfl ?_
  refine J_iload_n dL_law_1161 rfl ?_
  refine J_iconst (v := nI 1) dL_law_1162 (by decide +kernel) ?_
  refine J_iaddN dL_law_1163 ?_
  refine J_sld hS (i := i + 1) (by omega) (by omega) dL_law_1164 ?_
  rcases sim_image (uX (xs (i + 1))) (uX_lt _) hI with hC | hC
  · skip
    refine J_callV (M' := mX7_image) (d' := (3, 0, 0)) (rest := []) dL_law_1165 jmX7_image jlRL_140 hC hc0 hn0 jk7.1 rfl rfl (Nat.le_of_ble_eq_true rfl) (Nat.le_of_ble_eq_true rfl) (by constructor <;> simp only [] <;> omega) (fun v1 h1 n1 q1 => ?_)
    obtain ⟨y, fs1, rfl, hm1, hn1, C8⟩ := q1
    refine J.stk (st' := [.int y]) rfl ?_
    refine J_aload_n dL_law_1168 rfl ?_
    refine J_aload_n dL_law_1169 rfl ?_
    refine J_iload_n dL_law_1170 rfl ?_
    refine J_iconst (v := nI 1) dL_law_1171 (by decide +kernel) ?_
    refine J_iaddN dL_law_1172 ?_
    refine J_sld hS (i := i + 1) (by omega) (by omega) dL_law_1173 ?_
    refine J_callV (M' := mX8_image) (d' := (2, 0, 0)) (rest := [.int y]) dL_law_1174 jmX8_image jlRL_143 C8 hm1 hn1 jk8.1 rfl rfl (Nat.le_of_ble_eq_true rfl) (Nat.le_of_ble_eq_true rfl) (by constructor <;> simp only [] <;> omega) (fun v2 h2 n2 q2 => ?_)
    obtain ⟨rfl, hI2⟩ := q2
    refine J.stk (st' := [.int y, .int y]) rfl ?_
    refine J_icmp_eq (tgt := 1265) dL_law_1177 (by decide) (fun _ => ?_) (fun z => absurd rfl z)
    exact kont _ _ _ _ hI2 (by simp only []; omega) (by simp only []; omega)
  · skip
    refine J_callV (M' := mX7_image) (d' := (3, 11, 228)) (rest := []) dL_law_1165 jmX7_image jlRL_140 hC hc0 hn0 jk7.1 rfl rfl (Nat.le_of_ble_eq_true rfl) (Nat.le_of_ble_eq_true rfl) (by constructor <;> simp only [] <;> omega) (fun v1 h1 n1 q1 => ?_)
    obtain ⟨y, fs1, rfl, hm1, hn1, C8⟩ := q1
    refine J.stk (st' := [.int y]) rfl ?_
    refine J_aload_n dL_law_1168 rfl ?_
    refine J_aload_n dL_law_1169 rfl ?_
    refine J_iload_n dL_law_1170 rfl ?_
    refine J_iconst (v := nI 1) dL_law_1171 (by decide +kernel) ?_
    refine J_iaddN dL_law_1172 ?_
    refine J_sld hS (i := i + 1) (by omega) (by omega) dL_law_1173 ?_
    refine J_callV (M' := mX8_image) (d' := (2, 0, 0)) (rest := [.int y]) dL_law_1174 jmX8_image jlRL_143 C8 hm1 hn1 jk8.1 rfl rfl (Nat.le_of_ble_eq_true rfl) (Nat.le_of_ble_eq_true rfl) (by constructor <;> simp only [] <;> omega) (fun v2 h2 n2 q2 => ?_)
    obtain ⟨rfl, hI2⟩ := q2
    refine J.stk (st' := [.int y, .int y]) rfl ?_
    refine J_icmp_eq (tgt := 1265) dL_law_1177 (by decide) (fun _ => ?_) (fun z => absurd rfl z)
    exact kont _ _ _ _ hI2 (by simp only []; omega) (by simp only []; omega)
set_option maxHeartbeats 1000000 in
theorem law_c31 {E : jE} {nm : String} {S : Array Value → State → Prop} {b len i f : Nat} {xs : Nat → Int32} (hS : ∀ args s, S args s → va_X b len xs s s.heap ∧ b < s.heap.size ∧ s.heap.size = E.1) (hlen : len ≤ 3072) (hi6 : i + 6 ≤ len) (kont : ∀ (h2 : Nat → va_E) (n2 k1 k2 : Nat), Inv E h2 n2 → k1 + 11 * f ≤ 600000 → k2 + 228 * f ≤ 7302250 → J E (mLaw nm) (40, 600000, 7302250) S (fun v _ _ => v = some (.int 1)) h2 n2 (k1, k2) 1265 [(3, .int (nI i)), (2, .ref (E.1 + 38)), (1, .ref (E.1 + 0)), (0, .ref b)] []) {h : Nat → va_E} {n k1 k2 : Nat} (hI : Inv E h n) (hk1 : k1 + 11 * (f + 1) ≤ 600000) (hk2 : k2 + 228 * (f + 1) ≤ 7302250) : J E (mLaw nm) (40, 600000, 7302250) S (fun v _ _ => v = some (.int 1)) h n (k1, k2) 1182 [(3, .int (nI i)), (2, .ref (E.1 + 38)), (1, .ref (E.1 + 0)), (0, .ref b)] [] := by
  obtain ⟨fs0, hc0, hn0⟩ := Inv_0 hI
  refine J_aload_n dL_law_1182 rfl ?_
  refine J_aload_n dL_law_1183 rfl ?_
  refine J_iload_n dL_law_1184 rfl ?_
  refine J_iconst (v := nI 1) dL_law_1185 (by decide +kernel) ?_
  refine J_iaddN dL_law_1186 ?_
  refine J_sld hS (i := i + 1) (by omega) (by omega) dL_law_1187 ?_
  refine J_callV (M' := mX7_from) (d' := (3, 0, 0)) (rest := []) dL_law_1188 jmX7_from jlRL_144 (sim_from (uX (xs (i + 1))) (uX_lt _) hI) hc0 hn0 jk7.1 rfl rfl (Nat.le_of_ble_eq_true rfl) (Nat.le_of_ble_eq_true rfl) (by constructor <;> simp only [] <;> omega) (fun v1 h1 n1 q1 => ?_)
  obtain ⟨y, fs1, rfl, hm1, hn1, C8⟩ := q1
  refine J.stk (st' := [.int y]) rfl ?_
  refine J_aload_n dL_law_1191 rfl ?_
  refine J_aload_n dL_law_1192 rfl ?_
  refine J_iload_n dL_law_1193 rfl ?_
  refine J_iconst (v := nI 1) dL_law_1194 (by decide +kernel) ?_
  refine J_iaddN dL_law_1195 ?_
  refine J_sld hS (i := i + 1) (by omega) (by omega) dL_law_1196 ?_
  refine J_callV (M' := mX8_from) (d' := (2, 0, 0)) (rest := [.int y]) dL_law_1197 jmX8_from jlRL_147 C8 hm1 hn1 jk8.1 rfl rfl (Nat.le_of_ble_eq_true rfl) (Nat.le_of_ble_eq_true rfl) (by constructor <;> simp only [] <;> omega) (fun v2 h2 n2 q2 => ?_)
  obtain ⟨rfl, hI2⟩ := q2
  refine J.stk (st' := [.int y, .int y]) rfl ?_
  refine J_icmp_eq (tgt := 1265) dL_law_1200 (by decide) (fun _ => ?_) (fun z => absurd rfl z)
  exact kont _ _ _ _ hI2 (by simp only []; omega) (by simp only []; omega)
set_option maxHeartbeats 1000000 in
theorem law_c32 {E : jE} {nm : String} {S : Array Value → State → Prop} {b len i f : Nat} {xs : Nat → Int32} (hS : ∀ args s, S args s → va_X b len xs s s.heap ∧ b < s.heap.size ∧ s.heap.size = E.1) (hlen : len ≤ 3072) (hi6 : i + 6 ≤ len) (kont : ∀ (h2 : Nat → va_E) (n2 k1 k2 : Nat), Inv E h2 n2 → k1 + 11 * f ≤ 600000 → k2 + 228 * f ≤ 7302250 → J E (mLaw nm) (40, 600000, 7302250) S (fun v _ _ => v = some (.int 1)) h2 n2 (k1, k2) 1265 [(3, .int (nI i)), (2, .ref (E.1 + 38)), (1, .ref (E.1 + 0)), (0, .ref b)] []) {h : Nat → va_E} {n k1 k2 : Nat} (hI : Inv E h n) (hk1 : k1 + 11 * (f + 1) ≤ 600000) (hk2 : k2 + 228 * (f + 1) ≤ 7302250) : J E (mLaw nm) (40, 600000, 7302250) S (fun v _ _ => v = some (.int 1)) h n (k1, k2) 1205 [(3, .int (nI i)), (2, .ref (E.1 + 38)), (1, .ref (E.1 + 0)), (0, .ref b)] [] := by
  obtain ⟨fs0, hc0, hn0⟩ := Inv_0 hI
  refine J_aload_n dL_law_1205 rfl ?_
  refine J_aload_n dL_law_1206 rfl ?_
  refine J_iload_n dL_law_1207 rfl ?_
  refine J_iconst (v := nI 1) dL_law_1208 (by decide +kernel) ?_
  refine J_iaddN dL_law_1209 ?_
  refine J_sld hS (i := i + 1) (by omega) (by omega) dL_law_1210 ?_
  refine J_callV (M' := mX7_status) (d' := (2, 0, 0)) (rest := []) dL_law_1211 jmX7_status jlRL_148 (sim_status (uX (xs (i + 1))) (uX_lt _) hI) hc0 hn0 jk7.1 rfl rfl (Nat.le_of_ble_eq_true rfl) (Nat.le_of_ble_eq_true rfl) (by constructor <;> simp only [] <;> omega) (fun v1 h1 n1 q1 => ?_)
  obtain ⟨y, fs1, rfl, hm1, hn1, C8⟩ := q1
  refine J.stk (st' := [.int y]) rfl ?_
  refine J_aload_n dL_law_1214 rfl ?_
  refine J_aload_n dL_law_1215 rfl ?_
  refine J_iload_n dL_law_1216 rfl ?_
  refine J_iconst (v := nI 1) dL_law_1217 (by decide +kernel) ?_
  refine J_iaddN dL_law_1218 ?_
  refine J_sld hS (i := i + 1) (by omega) (by omega) dL_law_1219 ?_
  refine J_callV (M' := mX8_status) (d' := (2, 0, 0)) (rest := [.int y]) dL_law_1220 jmX8_status jlRL_151 C8 hm1 hn1 jk8.1 rfl rfl (Nat.le_of_ble_eq_true rfl) (Nat.le_of_ble_eq_true rfl) (by constructor <;> simp only [] <;> omega) (fun v2 h2 n2 q2 => ?_)
  obtain ⟨rfl, hI2⟩ := q2
  refine J.stk (st' := [.int y, .int y]) rfl ?_
  refine J_icmp_eq (tgt := 1265) dL_law_1223 (by decide) (fun _ => ?_) (fun z => absurd rfl z)
  exact kont _ _ _ _ hI2 (by simp only []; omega) (by simp only []; omega)
set_option maxHeartbeats 1000000 in
theorem law_c33 {E : jE} {nm : String} {S : Array Value → State → Prop} {b len i f : Nat} {xs : Nat → Int32} (hS : ∀ args s, S args s → va_X b len xs s s.heap ∧ b < s.heap.size ∧ s.heap.size = E.1) (hlen : len ≤ 3072) (hi6 : i + 6 ≤ len) (kont : ∀ (h2 : Nat → va_E) (n2 k1 k2 : Nat), Inv E h2 n2 → k1 + 11 * f ≤ 600000 → k2 + 228 * f ≤ 7302250 → J E (mLaw nm) (40, 600000, 7302250) S (fun v _ _ => v = some (.int 1)) h2 n2 (k1, k2) 1265 [(3, .int (nI i)), (2, .ref (E.1 + 38)), (1, .ref (E.1 + 0)), (0, .ref b)] []) {h : Nat → va_E} {n k1 k2 : Nat} (hI : Inv E h n) (hk1 : k1 + 11 * (f + 1) ≤ 600000) (hk2 : k2 + 228 * (f + 1) ≤ 7302250) : J E (mLaw nm) (40, 600000, 7302250) S (fun v _ _ => v = some (.int 1)) h n (k1, k2) 1228 [(3, .int (nI i)), (2, .ref (E.1 + 38)), (1, .ref (E.1 + 0)), (0, .ref b)] [] := by
  obtain ⟨fs0, hc0, hn0⟩ := Inv_0 hI
  refine J_aload_n dL_law_1228 rfl ?_
  refine J_aload_n dL_law_1229 rfl ?_
  refine J_iload_n dL_law_1230 rfl ?_
  refine J_iconst (v := nI 1) dL_law_1231 (by decide +kernel) ?_
  refine J_iaddN dL_law_1232 ?_
  refine J_sld hS (i := i + 1) (by omega) (by omega) dL_law_1233 ?_
  refine J_callV (M' := mX7_count) (d' := (2, 0, 0)) (rest := []) dL_law_1234 jmX7_count jlRL_152 (sim_count (uX (xs (i + 1))) (uX_lt _) hI) hc0 hn0 jk7.1 rfl rfl (Nat.le_of_ble_eq_true rfl) (Nat.le_of_ble_eq_true rfl) (by constructor <;> simp only [] <;> omega) (fun v1 h1 n1 q1 => ?_)
  obtain ⟨y, fs1, rfl, hm1, hn1, C8⟩ := q1
  refine J.stk (st' := [.int y]) rfl ?_
  refine J_aload_n dL_law_1237 rfl ?_
  refine J_aload_n dL_law_1238 rfl ?_
  refine J_iload_n dL_law_1239 rfl ?_
  refine J_iconst (v := nI 1) dL_law_1240 (by decide +kernel) ?_
  refine J_iaddN dL_law_1241 ?_
  refine J_sld hS (i := i + 1) (by omega) (by omega) dL_law_1242 ?_
  refine J_callV (M' := mX8_count) (d' := (3, 0, 0)) (rest := [.int y]) dL_law_1243 jmX8_count jlRL_155 C8 hm1 hn1 jk8.1 rfl rfl (Nat.le_of_ble_eq_true rfl) (Nat.le_of_ble_eq_true rfl) (by constructor <;> simp only [] <;> omega) (fun v2 h2 n2 q2 => ?_)
  obtain ⟨rfl, hI2⟩ := q2
  refine J.stk (st' := [.int y, .int y]) rfl ?_
  refine J_icmp_eq (tgt := 1265) dL_law_1246 (by decide) (fun _ => ?_) (fun z => absurd rfl z)
  exact kont _ _ _ _ hI2 (by simp only []; omega) (by simp only []; omega)
set_option maxHeartbeats 1000000 in
theorem law_c34 {E : jE} {nm : String} {S : Array Value → State → Prop} {b len i f : Nat} {xs : Nat → Int32} (hS : ∀ args s, S args s → va_X b len xs s s.heap ∧ b < s.heap.size ∧ s.heap.size = E.1) (hlen : len ≤ 3072) (hi6 : i + 6 ≤ len) (kont : ∀ (h2 : Nat → va_E) (n2 k1 k2 : Nat), Inv E h2 n2 → k1 + 11 * f ≤ 600000 → k2 + 228 * f ≤ 7302250 → J E (mLaw nm) (40, 600000, 7302250) S (fun v _ _ => v = some (.int 1)) h2 n2 (k1, k2) 1265 [(3, .int (nI i)), (2, .ref (E.1 + 38)), (1, .ref (E.1 + 0)), (0, .ref b)] []) {h : Nat → va_E} {n k1 k2 : Nat} (hI : Inv E h n) (hk1 : k1 + 11 * (f + 1) ≤ 600000) (hk2 : k2 + 228 * (f + 1) ≤ 7302250) : J E (mLaw nm) (40, 600000, 7302250) S (fun v _ _ => v = some (.int 1)) h n (k1, k2) 1251 [(3, .int (nI i)), (2, .ref (E.1 + 38)), (1, .ref (E.1 + 0)), (0, .ref b)] [] := by
  obtain ⟨fs0, hc0, hn0⟩ := Inv_0 hI
  refine J_aload_n dL_law_1251 rfl ?_
  refine J_callV (M' := mX7_digest) (d' := (3, 0, 0)) (rest := []) dL_law_1252 jmX7_digest jlRL_156 (sim_digest   hI) hc0 hn0 jk7.1 rfl rfl (Nat.le_of_ble_eq_true rfl) (Nat.le_of_ble_eq_true rfl) (by constructor <;> simp only [] <;> omega) (fun v1 h1 n1 q1 => ?_)
  obtain ⟨y, fs1, rfl, hm1, hn1, C8⟩ := q1
  refine J.stk (st' := [.long y]) rfl ?_
  refine J_aload_n dL_law_1255 rfl ?_
  refine J_callV (M' := mX8_digest) (d' := (3, 0, 0)) (rest := [.long y]) dL_law_1256 jmX8_digest jlRL_160 C8 hm1 hn1 jk8.1 rfl rfl (Nat.le_of_ble_eq_true rfl) (Nat.le_of_ble_eq_true rfl) (by constructor <;> simp only [] <;> omega) (fun v2 h2 n2 q2 => ?_)
  obtain ⟨rfl, hI2⟩ := q2
  refine J.stk (st' := [.long y, .long y]) rfl ?_
  refine J_lcmp dL_law_1259 ?_
  refine J_if_eq (tgt := 1265) dL_law_1260 (by decide) (fun _ => ?_) (fun z => absurd ((jx_ceq y y).2 rfl) z)
  exact kont _ _ _ _ hI2 (by simp only []; omega) (by simp only []; omega)
