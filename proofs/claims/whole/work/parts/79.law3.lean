/-! THE LAW: its cases, its loop -/
abbrev lvv (iv : Int32) : List (Nat × Value) := [(3, .int iv), (0, .ref 0), (1, .ref 1), (2, .ref 2)]
section LCASE
variable {l : Launch} {c : CS} {x : XT} {t : MT} {iv : Int32}
set_option maxHeartbeats 1000000 in
theorem lc_0 (κ : LC) (h1 : vp_in (iv + 1) (lLn κ)) (hC : CI c) (next : ∀ c9 x9 t9, CI c9 → LW l κ 880 (lvv iv) [] c9 x9 c9 t9) : LW l κ 144 (lvv iv) [] c x c t := by
  obtain ⟨v, c9, hC9, hx, hm⟩ := ag_net (v := lXs κ (iv + 1).toNatClampNeg) hC
  refine lr_aload_n κ 2 dL_law_144 rfl rfl ?_
  refine lr_aload_n κ 1 dL_law_145 rfl rfl ?_
  refine lr_iload_n κ 0 dL_law_146 rfl rfl ?_
  refine lr_iconst κ (v := 1) dL_law_147 (by decide) ?_
  refine lr_iadd κ dL_law_148 ?_
  refine lr_sld κ h1 dL_law_149 ?_
  refine lr_callX κ (st := []) [.int (lXs κ (iv + 1).toNatClampNeg)] kw_1_201 tg_X5_net (snd_X5_net (lXs κ (iv + 1).toNatClampNeg) c x (fun (r : Int32) (cc : CS) (_ : XT) => v = r ∧ c9 = cc) (hx x _ (fun _ => ⟨rfl, rfl⟩))) (fun _ => rfl) rfl (Nat.le_of_ble_eq_true rfl) (Nat.le_of_ble_eq_true rfl) rfl (Nat.le_of_ble_eq_true rfl) dL_law_150 (fun w ω9 hk => ?_)
  obtain ⟨r, cc, x9, rfl, rfl, rfl, rfl⟩ := hk
  refine ⟨_, _, _, rfl, fun _ => rfl, rfl, ?_⟩
  refine lr_aload_n κ 3 dL_law_153 rfl rfl ?_
  refine lr_aload_n κ 1 dL_law_154 rfl rfl ?_
  refine lr_iload_n κ 0 dL_law_155 rfl rfl ?_
  refine lr_iconst κ (v := 1) dL_law_156 (by decide) ?_
  refine lr_iadd κ dL_law_157 ?_
  refine lr_sld κ h1 dL_law_158 ?_
  refine lr_callM κ (st := [.int v]) [.int (lXs κ (iv + 1).toNatClampNeg)] kw_3_102 tg_X6_net (snd_X6_net (lXs κ (iv + 1).toNatClampNeg) c t (fun (r : Int32) (cc : CS) (_ : MT) => v = r ∧ c9 = cc) (hm t _ (fun _ => ⟨rfl, rfl⟩))) (fun _ => rfl) rfl (Nat.le_of_ble_eq_true rfl) (Nat.le_of_ble_eq_true rfl) rfl (Nat.le_of_ble_eq_true rfl) dL_law_159 (fun w ω9 hk => ?_)
  obtain ⟨r, cc, t9, rfl, rfl, rfl, rfl⟩ := hk
  refine ⟨_, _, _, rfl, fun _ => rfl, rfl, ?_⟩
  exact lr_icmp_eq κ (tgt := 880) dL_law_162 rfl (fun _ => next _ _ _ hC9) (fun h => absurd rfl h)
set_option maxHeartbeats 1000000 in
theorem lc_1 (κ : LC) (h1 : vp_in (iv + 1) (lLn κ)) (h2 : vp_in (iv + 2) (lLn κ)) (h3 : vp_in (iv + 3) (lLn κ)) (h4 : vp_in (iv + 4) (lLn κ)) (hC : CI c) (next : ∀ c9 x9 t9, CI c9 → LW l κ 880 (lvv iv) [] c9 x9 c9 t9) : LW l κ 167 (lvv iv) [] c x c t := by
  obtain ⟨v, c9, hC9, hx, hm⟩ := ag_wire (a := lXs κ (iv + 1).toNatClampNeg) (b := lXs κ (iv + 2).toNatClampNeg) (v := lXs κ (iv + 3).toNatClampNeg) (p := lXs κ (iv + 4).toNatClampNeg) hC
  refine lr_aload_n κ 2 dL_law_167 rfl rfl ?_
  refine lr_aload_n κ 1 dL_law_168 rfl rfl ?_
  refine lr_iload_n κ 0 dL_law_169 rfl rfl ?_
  refine lr_iconst κ (v := 1) dL_law_170 (by decide) ?_
  refine lr_iadd κ dL_law_171 ?_
  refine lr_sld κ h1 dL_law_172 ?_
  refine lr_aload_n κ 1 dL_law_173 rfl rfl ?_
  refine lr_iload_n κ 0 dL_law_174 rfl rfl ?_
  refine lr_iconst κ (v := 2) dL_law_175 (by decide) ?_
  refine lr_iadd κ dL_law_176 ?_
  refine lr_sld κ h2 dL_law_177 ?_
  refine lr_aload_n κ 1 dL_law_178 rfl rfl ?_
  refine lr_iload_n κ 0 dL_law_179 rfl rfl ?_
  refine lr_iconst κ (v := 3) dL_law_180 (by decide) ?_
  refine lr_iadd κ dL_law_181 ?_
  refine lr_sld κ h3 dL_law_182 ?_
  refine lr_aload_n κ 1 dL_law_183 rfl rfl ?_
  refine lr_iload_n κ 0 dL_law_184 rfl rfl ?_
  refine lr_iconst κ (v := 4) dL_law_185 (by decide) ?_
  refine lr_iadd κ dL_law_186 ?_
  refine lr_sld κ h4 dL_law_187 ?_
  refine lr_callX κ (st := []) [.int (lXs κ (iv + 1).toNatClampNeg), .int (lXs κ (iv + 2).toNatClampNeg), .int (lXs κ (iv + 3).toNatClampNeg), .int (lXs κ (iv + 4).toNatClampNeg)] kw_1_216 tg_X5_wire (snd_X5_wire (lXs κ (iv + 1).toNatClampNeg) (lXs κ (iv + 2).toNatClampNeg) (lXs κ (iv + 3).toNatClampNeg) (lXs κ (iv + 4).toNatClampNeg) c x (fun (r : Int32) (cc : CS) (_ : XT) => v = r ∧ c9 = cc) (hx x _ (fun _ => ⟨rfl, rfl⟩))) (fun _ => rfl) rfl (Nat.le_of_ble_eq_true rfl) (Nat.le_of_ble_eq_true rfl) rfl (Nat.le_of_ble_eq_true rfl) dL_law_188 (fun w ω9 hk => ?_)
  obtain ⟨r, cc, x9, rfl, rfl, rfl, rfl⟩ := hk
  refine ⟨_, _, _, rfl, fun _ => rfl, rfl, ?_⟩
  refine lr_aload_n κ 3 dL_law_191 rfl rfl ?_
  refine lr_aload_n κ 1 dL_law_192 rfl rfl ?_
  refine lr_iload_n κ 0 dL_law_193 rfl rfl ?_
  refine lr_iconst κ (v := 1) dL_law_194 (by decide) ?_
  refine lr_iadd κ dL_law_195 ?_
  refine lr_sld κ h1 dL_law_196 ?_
  refine lr_aload_n κ 1 dL_law_197 rfl rfl ?_
  refine lr_iload_n κ 0 dL_law_198 rfl rfl ?_
  refine lr_iconst κ (v := 2) dL_law_199 (by decide) ?_
  refine lr_iadd κ dL_law_200 ?_
  refine lr_sld κ h2 dL_law_201 ?_
  refine lr_aload_n κ 1 dL_law_202 rfl rfl ?_
  refine lr_iload_n κ 0 dL_law_203 rfl rfl ?_
  refine lr_iconst κ (v := 3) dL_law_204 (by decide) ?_
  refine lr_iadd κ dL_law_205 ?_
  refine lr_sld κ h3 dL_law_206 ?_
  refine lr_aload_n κ 1 dL_law_207 rfl rfl ?_
  refine lr_iload_n κ 0 dL_law_208 rfl rfl ?_
  refine lr_iconst κ (v := 4) dL_law_209 (by decide) ?_
  refine lr_iadd κ dL_law_210 ?_
  refine lr_sld κ h4 dL_law_211 ?_
  refine lr_callM κ (st := [.int v]) [.int (lXs κ (iv + 1).toNatClampNeg), .int (lXs κ (iv + 2).toNatClampNeg), .int (lXs κ (iv + 3).toNatClampNeg), .int (lXs κ (iv + 4).toNatClampNeg)] kw_3_109 tg_X6_wire (snd_X6_wire (lXs κ (iv + 1).toNatClampNeg) (lXs κ (iv + 2).toNatClampNeg) (lXs κ (iv + 3).toNatClampNeg) (lXs κ (iv + 4).toNatClampNeg) c t (fun (r : Int32) (cc : CS) (_ : MT) => v = r ∧ c9 = cc) (hm t _ (fun _ => ⟨rfl, rfl⟩))) (fun _ => rfl) rfl (Nat.le_of_ble_eq_true rfl) (Nat.le_of_ble_eq_true rfl) rfl (Nat.le_of_ble_eq_true rfl) dL_law_212 (fun w ω9 hk => ?_)
  obtain ⟨r, cc, t9, rfl, rfl, rfl, rfl⟩ := hk
  refine ⟨_, _, _, rfl, fun _ => rfl, rfl, ?_⟩
  exact lr_icmp_eq κ (tgt := 880) dL_law_215 rfl (fun _ => next _ _ _ hC9) (fun h => absurd rfl h)
set_option maxHeartbeats 1000000 in
theorem lc_2 (κ : LC) (h1 : vp_in (iv + 1) (lLn κ)) (h2 : vp_in (iv + 2) (lLn κ)) (hC : CI c) (next : ∀ c9 x9 t9, CI c9 → LW l κ 880 (lvv iv) [] c9 x9 c9 t9) : LW l κ 220 (lvv iv) [] c x c t := by
  obtain ⟨v, c9, hC9, hx, hm⟩ := ag_width (w := lXs κ (iv + 1).toNatClampNeg) (v := lXs κ (iv + 2).toNatClampNeg) hC
  refine lr_aload_n κ 2 dL_law_220 rfl rfl ?_
  refine lr_aload_n κ 1 dL_law_221 rfl rfl ?_
  refine lr_iload_n κ 0 dL_law_222 rfl rfl ?_
  refine lr_iconst κ (v := 1) dL_law_223 (by decide) ?_
  refine lr_iadd κ dL_law_224 ?_
  refine lr_sld κ h1 dL_law_225 ?_
  refine lr_aload_n κ 1 dL_law_226 rfl rfl ?_
  refine lr_iload_n κ 0 dL_law_227 rfl rfl ?_
  refine lr_iconst κ (v := 2) dL_law_228 (by decide) ?_
  refine lr_iadd κ dL_law_229 ?_
  refine lr_sld κ h2 dL_law_230 ?_
  refine lr_callX κ (st := []) [.int (lXs κ (iv + 1).toNatClampNeg), .int (lXs κ (iv + 2).toNatClampNeg)] kw_1_228 tg_X5_width (snd_X5_width (lXs κ (iv + 1).toNatClampNeg) (lXs κ (iv + 2).toNatClampNeg) c x (fun (r : Int32) (cc : CS) (_ : XT) => v = r ∧ c9 = cc) (hx x _ (fun _ => ⟨rfl, rfl⟩))) (fun _ => rfl) rfl (Nat.le_of_ble_eq_true rfl) (Nat.le_of_ble_eq_true rfl) rfl (Nat.le_of_ble_eq_true rfl) dL_law_231 (fun w ω9 hk => ?_)
  obtain ⟨r, cc, x9, rfl, rfl, rfl, rfl⟩ := hk
  refine ⟨_, _, _, rfl, fun _ => rfl, rfl, ?_⟩
  refine lr_aload_n κ 3 dL_law_234 rfl rfl ?_
  refine lr_aload_n κ 1 dL_law_235 rfl rfl ?_
  refine lr_iload_n κ 0 dL_law_236 rfl rfl ?_
  refine lr_iconst κ (v := 1) dL_law_237 (by decide) ?_
  refine lr_iadd κ dL_law_238 ?_
  refine lr_sld κ h1 dL_law_239 ?_
  refine lr_aload_n κ 1 dL_law_240 rfl rfl ?_
  refine lr_iload_n κ 0 dL_law_241 rfl rfl ?_
  refine lr_iconst κ (v := 2) dL_law_242 (by decide) ?_
  refine lr_iadd κ dL_law_243 ?_
  refine lr_sld κ h2 dL_law_244 ?_
  refine lr_callM κ (st := [.int v]) [.int (lXs κ (iv + 1).toNatClampNeg), .int (lXs κ (iv + 2).toNatClampNeg)] kw_3_117 tg_X6_width (snd_X6_width (lXs κ (iv + 1).toNatClampNeg) (lXs κ (iv + 2).toNatClampNeg) c t (fun (r : Int32) (cc : CS) (_ : MT) => v = r ∧ c9 = cc) (hm t _ (fun _ => ⟨rfl, rfl⟩))) (fun _ => rfl) rfl (Nat.le_of_ble_eq_true rfl) (Nat.le_of_ble_eq_true rfl) rfl (Nat.le_of_ble_eq_true rfl) dL_law_245 (fun w ω9 hk => ?_)
  obtain ⟨r, cc, t9, rfl, rfl, rfl, rfl⟩ := hk
  refine ⟨_, _, _, rfl, fun _ => rfl, rfl, ?_⟩
  exact lr_icmp_eq κ (tgt := 880) dL_law_248 rfl (fun _ => next _ _ _ hC9) (fun h => absurd rfl h)
set_option maxHeartbeats 1000000 in
theorem lc_3 (κ : LC) (h1 : vp_in (iv + 1) (lLn κ)) (h2 : vp_in (iv + 2) (lLn κ)) (hC : CI c) (next : ∀ c9 x9 t9, CI c9 → LW l κ 880 (lvv iv) [] c9 x9 c9 t9) : LW l κ 253 (lvv iv) [] c x c t := by
  by_cases hz : lXs κ (iv + 2).toNatClampNeg = 0
  · obtain ⟨v, c9, hC9, hx, hm⟩ := ag_pad (k := lXs κ (iv + 1).toNatClampNeg) (is := (0 : Int32)) hC
    refine lr_aload_n κ 2 dL_law_253 rfl rfl ?_
    refine lr_aload_n κ 1 dL_law_254 rfl rfl ?_
    refine lr_iload_n κ 0 dL_law_255 rfl rfl ?_
    refine lr_iconst κ (v := 1) dL_law_256 (by decide) ?_
    refine lr_iadd κ dL_law_257 ?_
    refine lr_sld κ h1 dL_law_258 ?_
    refine lr_aload_n κ 1 dL_law_259 rfl rfl ?_
    refine lr_iload_n κ 0 dL_law_260 rfl rfl ?_
    refine lr_iconst κ (v := 2) dL_law_261 (by decide) ?_
    refine lr_iadd κ dL_law_262 ?_
    refine lr_sld κ h2 dL_law_263 ?_
    refine lr_if_eq κ (tgt := 271) dL_law_264 rfl (fun _ => ?_) (fun h => absurd hz h)
    refine lr_iconst κ (v := 0) dL_law_271 (by decide) ?_
    refine lr_callX κ (st := []) [.int (lXs κ (iv + 1).toNatClampNeg), .int ((0 : Int32))] kw_1_236 tg_X5_pad (snd_X5_pad (lXs κ (iv + 1).toNatClampNeg) ((0 : Int32)) c x (fun (r : Int32) (cc : CS) (_ : XT) => v = r ∧ c9 = cc) (hx x _ (fun _ => ⟨rfl, rfl⟩))) (fun _ => rfl) rfl (Nat.le_of_ble_eq_true rfl) (Nat.le_of_ble_eq_true rfl) rfl (Nat.le_of_ble_eq_true rfl) dL_law_272 (fun w ω9 hk => ?_)
    obtain ⟨r, cc, x9, rfl, rfl, rfl, rfl⟩ := hk
    refine ⟨_, _, _, rfl, fun _ => rfl, rfl, ?_⟩
    refine lr_aload_n κ 3 dL_law_275 rfl rfl ?_
    refine lr_aload_n κ 1 dL_law_276 rfl rfl ?_
    refine lr_iload_n κ 0 dL_law_277 rfl rfl ?_
    refine lr_iconst κ (v := 1) dL_law_278 (by decide) ?_
    refine lr_iadd κ dL_law_279 ?_
    refine lr_sld κ h1 dL_law_280 ?_
    refine lr_aload_n κ 1 dL_law_281 rfl rfl ?_
    refine lr_iload_n κ 0 dL_law_282 rfl rfl ?_
    refine lr_iconst κ (v := 2) dL_law_283 (by decide) ?_
    refine lr_iadd κ dL_law_284 ?_
    refine lr_sld κ h2 dL_law_285 ?_
    refine lr_if_eq κ (tgt := 293) dL_law_286 rfl (fun _ => ?_) (fun h => absurd hz h)
    refine lr_iconst κ (v := 0) dL_law_293 (by decide) ?_
    refine lr_callM κ (st := [.int v]) [.int (lXs κ (iv + 1).toNatClampNeg), .int ((0 : Int32))] kw_3_121 tg_X6_pad (snd_X6_pad (lXs κ (iv + 1).toNatClampNeg) ((0 : Int32)) c t (fun (r : Int32) (cc : CS) (_ : MT) => v = r ∧ c9 = cc) (hm t _ (fun _ => ⟨rfl, rfl⟩))) (fun _ => rfl) rfl (Nat.le_of_ble_eq_true rfl) (Nat.le_of_ble_eq_true rfl) rfl (Nat.le_of_ble_eq_true rfl) dL_law_294 (fun w ω9 hk => ?_)
    obtain ⟨r, cc, t9, rfl, rfl, rfl, rfl⟩ := hk
    refine ⟨_, _, _, rfl, fun _ => rfl, rfl, ?_⟩
    exact lr_icmp_eq κ (tgt := 880) dL_law_297 rfl (fun _ => next _ _ _ hC9) (fun h => absurd rfl h)
  · obtain ⟨v, c9, hC9, hx, hm⟩ := ag_pad (k := lXs κ (iv + 1).toNatClampNeg) (is := (1 : Int32)) hC
    refine lr_aload_n κ 2 dL_law_253 rfl rfl ?_
    refine lr_aload_n κ 1 dL_law_254 rfl rfl ?_
    refine lr_iload_n κ 0 dL_law_255 rfl rfl ?_
    refine lr_iconst κ (v := 1) dL_law_256 (by decide) ?_
    refine lr_iadd κ dL_law_257 ?_
    refine lr_sld κ h1 dL_law_258 ?_
    refine lr_aload_n κ 1 dL_law_259 rfl rfl ?_
    refine lr_iload_n κ 0 dL_law_260 rfl rfl ?_
    refine lr_iconst κ (v := 2) dL_law_261 (by decide) ?_
    refine lr_iadd κ dL_law_262 ?_
    refine lr_sld κ h2 dL_law_263 ?_
    refine lr_if_eq κ (tgt := 271) dL_law_264 rfl (fun h => absurd h hz) (fun _ => ?_)
    refine lr_iconst κ (v := 1) dL_law_267 (by decide) ?_
    refine lr_goto κ (tgt := 272) dL_law_268 rfl ?_
    refine lr_callX κ (st := []) [.int (lXs κ (iv + 1).toNatClampNeg), .int ((1 : Int32))] kw_1_236 tg_X5_pad (snd_X5_pad (lXs κ (iv + 1).toNatClampNeg) ((1 : Int32)) c x (fun (r : Int32) (cc : CS) (_ : XT) => v = r ∧ c9 = cc) (hx x _ (fun _ => ⟨rfl, rfl⟩))) (fun _ => rfl) rfl (Nat.le_of_ble_eq_true rfl) (Nat.le_of_ble_eq_true rfl) rfl (Nat.le_of_ble_eq_true rfl) dL_law_272 (fun w ω9 hk => ?_)
    obtain ⟨r, cc, x9, rfl, rfl, rfl, rfl⟩ := hk
    refine ⟨_, _, _, rfl, fun _ => rfl, rfl, ?_⟩
    refine lr_aload_n κ 3 dL_law_275 rfl rfl ?_
    refine lr_aload_n κ 1 dL_law_276 rfl rfl ?_
    refine lr_iload_n κ 0 dL_law_277 rfl rfl ?_
    refine lr_iconst κ (v := 1) dL_law_278 (by decide) ?_
    refine lr_iadd κ dL_law_279 ?_
    refine lr_sld κ h1 dL_law_280 ?_
    refine lr_aload_n κ 1 dL_law_281 rfl rfl ?_
    refine lr_iload_n κ 0 dL_law_282 rfl rfl ?_
    refine lr_iconst κ (v := 2) dL_law_283 (by decide) ?_
    refine lr_iadd κ dL_law_284 ?_
    refine lr_sld κ h2 dL_law_285 ?_
    refine lr_if_eq κ (tgt := 293) dL_law_286 rfl (fun h => absurd h hz) (fun _ => ?_)
    refine lr_iconst κ (v := 1) dL_law_289 (by decide) ?_
    refine lr_goto κ (tgt := 294) dL_law_290 rfl ?_
    refine lr_callM κ (st := [.int v]) [.int (lXs κ (iv + 1).toNatClampNeg), .int ((1 : Int32))] kw_3_121 tg_X6_pad (snd_X6_pad (lXs κ (iv + 1).toNatClampNeg) ((1 : Int32)) c t (fun (r : Int32) (cc : CS) (_ : MT) => v = r ∧ c9 = cc) (hm t _ (fun _ => ⟨rfl, rfl⟩))) (fun _ => rfl) rfl (Nat.le_of_ble_eq_true rfl) (Nat.le_of_ble_eq_true rfl) rfl (Nat.le_of_ble_eq_true rfl) dL_law_294 (fun w ω9 hk => ?_)
    obtain ⟨r, cc, t9, rfl, rfl, rfl, rfl⟩ := hk
    refine ⟨_, _, _, rfl, fun _ => rfl, rfl, ?_⟩
    exact lr_icmp_eq κ (tgt := 880) dL_law_297 rfl (fun _ => next _ _ _ hC9) (fun h => absurd rfl h)
set_option maxHeartbeats 1000000 in
theorem lc_4 (κ : LC) (h1 : vp_in (iv + 1) (lLn κ)) (h2 : vp_in (iv + 2) (lLn κ)) (hC : CI c) (next : ∀ c9 x9 t9, CI c9 → LW l κ 880 (lvv iv) [] c9 x9 c9 t9) : LW l κ 302 (lvv iv) [] c x c t := by
  obtain ⟨v, c9, hC9, hx, hm⟩ := ag_pull (k := lXs κ (iv + 1).toNatClampNeg) (v := lXs κ (iv + 2).toNatClampNeg) hC
  refine lr_aload_n κ 2 dL_law_302 rfl rfl ?_
  refine lr_aload_n κ 1 dL_law_303 rfl rfl ?_
  refine lr_iload_n κ 0 dL_law_304 rfl rfl ?_
  refine lr_iconst κ (v := 1) dL_law_305 (by decide) ?_
  refine lr_iadd κ dL_law_306 ?_
  refine lr_sld κ h1 dL_law_307 ?_
  refine lr_aload_n κ 1 dL_law_308 rfl rfl ?_
  refine lr_iload_n κ 0 dL_law_309 rfl rfl ?_
  refine lr_iconst κ (v := 2) dL_law_310 (by decide) ?_
  refine lr_iadd κ dL_law_311 ?_
  refine lr_sld κ h2 dL_law_312 ?_
  refine lr_callX κ (st := []) [.int (lXs κ (iv + 1).toNatClampNeg), .int (lXs κ (iv + 2).toNatClampNeg)] kw_2_7 tg_X5_pull (snd_X5_pull (lXs κ (iv + 1).toNatClampNeg) (lXs κ (iv + 2).toNatClampNeg) c x (fun (r : Int32) (cc : CS) (_ : XT) => v = r ∧ c9 = cc) (hx x _ (fun _ => ⟨rfl, rfl⟩))) (fun _ => rfl) rfl (Nat.le_of_ble_eq_true rfl) (Nat.le_of_ble_eq_true rfl) rfl (Nat.le_of_ble_eq_true rfl) dL_law_313 (fun w ω9 hk => ?_)
  obtain ⟨r, cc, x9, rfl, rfl, rfl, rfl⟩ := hk
  refine ⟨_, _, _, rfl, fun _ => rfl, rfl, ?_⟩
  refine lr_aload_n κ 3 dL_law_316 rfl rfl ?_
  refine lr_aload_n κ 1 dL_law_317 rfl rfl ?_
  refine lr_iload_n κ 0 dL_law_318 rfl rfl ?_
  refine lr_iconst κ (v := 1) dL_law_319 (by decide) ?_
  refine lr_iadd κ dL_law_320 ?_
  refine lr_sld κ h1 dL_law_321 ?_
  refine lr_aload_n κ 1 dL_law_322 rfl rfl ?_
  refine lr_iload_n κ 0 dL_law_323 rfl rfl ?_
  refine lr_iconst κ (v := 2) dL_law_324 (by decide) ?_
  refine lr_iadd κ dL_law_325 ?_
  refine lr_sld κ h2 dL_law_326 ?_
  refine lr_callM κ (st := [.int v]) [.int (lXs κ (iv + 1).toNatClampNeg), .int (lXs κ (iv + 2).toNatClampNeg)] kw_3_125 tg_X6_pull (snd_X6_pull (lXs κ (iv + 1).toNatClampNeg) (lXs κ (iv + 2).toNatClampNeg) c t (fun (r : Int32) (cc : CS) (_ : MT) => v = r ∧ c9 = cc) (hm t _ (fun _ => ⟨rfl, rfl⟩))) (fun _ => rfl) rfl (Nat.le_of_ble_eq_true rfl) (Nat.le_of_ble_eq_true rfl) rfl (Nat.le_of_ble_eq_true rfl) dL_law_327 (fun w ω9 hk => ?_)
  obtain ⟨r, cc, t9, rfl, rfl, rfl, rfl⟩ := hk
  refine ⟨_, _, _, rfl, fun _ => rfl, rfl, ?_⟩
  exact lr_icmp_eq κ (tgt := 880) dL_law_330 rfl (fun _ => next _ _ _ hC9) (fun h => absurd rfl h)
set_option maxHeartbeats 1000000 in
theorem lc_5 (κ : LC) (h1 : vp_in (iv + 1) (lLn κ)) (h2 : vp_in (iv + 2) (lLn κ)) (hC : CI c) (next : ∀ c9 x9 t9, CI c9 → LW l κ 880 (lvv iv) [] c9 x9 c9 t9) : LW l κ 335 (lvv iv) [] c x c t := by
  obtain ⟨v, c9, hC9, hx, hm⟩ := ag_fall (k := lXs κ (iv + 1).toNatClampNeg) (what := lXs κ (iv + 2).toNatClampNeg) hC
  refine lr_aload_n κ 2 dL_law_335 rfl rfl ?_
  refine lr_aload_n κ 1 dL_law_336 rfl rfl ?_
  refine lr_iload_n κ 0 dL_law_337 rfl rfl ?_
  refine lr_iconst κ (v := 1) dL_law_338 (by decide) ?_
  refine lr_iadd κ dL_law_339 ?_
  refine lr_sld κ h1 dL_law_340 ?_
  refine lr_aload_n κ 1 dL_law_341 rfl rfl ?_
  refine lr_iload_n κ 0 dL_law_342 rfl rfl ?_
  refine lr_iconst κ (v := 2) dL_law_343 (by decide) ?_
  refine lr_iadd κ dL_law_344 ?_
  refine lr_sld κ h2 dL_law_345 ?_
  refine lr_callX κ (st := []) [.int (lXs κ (iv + 1).toNatClampNeg), .int (lXs κ (iv + 2).toNatClampNeg)] kw_2_11 tg_X5_fall (snd_X5_fall (lXs κ (iv + 1).toNatClampNeg) (lXs κ (iv + 2).toNatClampNeg) c x (fun (r : Int64) (cc : CS) (_ : XT) => v = r ∧ c9 = cc) (hx x _ (fun _ => ⟨rfl, rfl⟩))) (fun _ => rfl) rfl (Nat.le_of_ble_eq_true rfl) (Nat.le_of_ble_eq_true rfl) rfl (Nat.le_of_ble_eq_true rfl) dL_law_346 (fun w ω9 hk => ?_)
  obtain ⟨r, cc, x9, rfl, rfl, rfl, rfl⟩ := hk
  refine ⟨_, _, _, rfl, fun _ => rfl, rfl, ?_⟩
  refine lr_aload_n κ 3 dL_law_349 rfl rfl ?_
  refine lr_aload_n κ 1 dL_law_350 rfl rfl ?_
  refine lr_iload_n κ 0 dL_law_351 rfl rfl ?_
  refine lr_iconst κ (v := 1) dL_law_352 (by decide) ?_
  refine lr_iadd κ dL_law_353 ?_
  refine lr_sld κ h1 dL_law_354 ?_
  refine lr_aload_n κ 1 dL_law_355 rfl rfl ?_
  refine lr_iload_n κ 0 dL_law_356 rfl rfl ?_
  refine lr_iconst κ (v := 2) dL_law_357 (by decide) ?_
  refine lr_iadd κ dL_law_358 ?_
  refine lr_sld κ h2 dL_law_359 ?_
  refine lr_callM κ (st := [.long v]) [.int (lXs κ (iv + 1).toNatClampNeg), .int (lXs κ (iv + 2).toNatClampNeg)] kw_3_129 tg_X6_fall (snd_X6_fall (lXs κ (iv + 1).toNatClampNeg) (lXs κ (iv + 2).toNatClampNeg) c t (fun (r : Int64) (cc : CS) (_ : MT) => v = r ∧ c9 = cc) (hm t _ (fun _ => ⟨rfl, rfl⟩))) (fun _ => rfl) rfl (Nat.le_of_ble_eq_true rfl) (Nat.le_of_ble_eq_true rfl) rfl (Nat.le_of_ble_eq_true rfl) dL_law_360 (fun w ω9 hk => ?_)
  obtain ⟨r, cc, t9, rfl, rfl, rfl, rfl⟩ := hk
  refine ⟨_, _, _, rfl, fun _ => rfl, rfl, ?_⟩
  exact lr_lcmp_eq κ (tgt := 880) dL_law_363 dL_law_364 rfl (fun _ => next _ _ _ hC9) (fun h => absurd rfl h)
set_option maxHeartbeats 1000000 in
theorem lc_6 (κ : LC) (hC : CI c) (next : ∀ c9 x9 t9, CI c9 → LW l κ 880 (lvv iv) [] c9 x9 c9 t9) : LW l κ 369 (lvv iv) [] c x c t := by
  obtain ⟨v, c9, hC9, hx, hm⟩ := ag_greatest  hC
  refine lr_aload_n κ 2 dL_law_369 rfl rfl ?_
  refine lr_callX κ (st := []) [] kw_2_58 tg_X5_greatest (snd_X5_greatest  c x (fun (r : Int32) (cc : CS) (_ : XT) => v = r ∧ c9 = cc) (hx x _ (fun _ => ⟨rfl, rfl⟩))) (fun _ => rfl) rfl (Nat.le_of_ble_eq_true rfl) (Nat.le_of_ble_eq_true rfl) rfl (Nat.le_of_ble_eq_true rfl) dL_law_370 (fun w ω9 hk => ?_)
  obtain ⟨r, cc, x9, rfl, rfl, rfl, rfl⟩ := hk
  refine ⟨_, _, _, rfl, fun _ => rfl, rfl, ?_⟩
  refine lr_aload_n κ 3 dL_law_373 rfl rfl ?_
  refine lr_callM κ (st := [.int v]) [] kw_3_173 tg_X6_greatest (snd_X6_greatest  c t (fun (r : Int32) (cc : CS) (_ : MT) => v = r ∧ c9 = cc) (hm t _ (fun _ => ⟨rfl, rfl⟩))) (fun _ => rfl) rfl (Nat.le_of_ble_eq_true rfl) (Nat.le_of_ble_eq_true rfl) rfl (Nat.le_of_ble_eq_true rfl) dL_law_374 (fun w ω9 hk => ?_)
  obtain ⟨r, cc, t9, rfl, rfl, rfl, rfl⟩ := hk
  refine ⟨_, _, _, rfl, fun _ => rfl, rfl, ?_⟩
  exact lr_icmp_eq κ (tgt := 880) dL_law_377 rfl (fun _ => next _ _ _ hC9) (fun h => absurd rfl h)
set_option maxHeartbeats 1000000 in
theorem lc_7 (κ : LC) (h1 : vp_in (iv + 1) (lLn κ)) (h2 : vp_in (iv + 2) (lLn κ)) (hC : CI c) (next : ∀ c9 x9 t9, CI c9 → LW l κ 880 (lvv iv) [] c9 x9 c9 t9) : LW l κ 382 (lvv iv) [] c x c t := by
  obtain ⟨v, c9, hC9, hx, hm⟩ := ag_flow (w := lXs κ (iv + 1).toNatClampNeg) (what := lXs κ (iv + 2).toNatClampNeg) hC
  refine lr_aload_n κ 2 dL_law_382 rfl rfl ?_
  refine lr_aload_n κ 1 dL_law_383 rfl rfl ?_
  refine lr_iload_n κ 0 dL_law_384 rfl rfl ?_
  refine lr_iconst κ (v := 1) dL_law_385 (by decide) ?_
  refine lr_iadd κ dL_law_386 ?_
  refine lr_sld κ h1 dL_law_387 ?_
  refine lr_aload_n κ 1 dL_law_388 rfl rfl ?_
  refine lr_iload_n κ 0 dL_law_389 rfl rfl ?_
  refine lr_iconst κ (v := 2) dL_law_390 (by decide) ?_
  refine lr_iadd κ dL_law_391 ?_
  refine lr_sld κ h2 dL_law_392 ?_
  refine lr_callX κ (st := []) [.int (lXs κ (iv + 1).toNatClampNeg), .int (lXs κ (iv + 2).toNatClampNeg)] kw_2_66 tg_X5_flow (snd_X5_flow (lXs κ (iv + 1).toNatClampNeg) (lXs κ (iv + 2).toNatClampNeg) c x (fun (r : Int64) (cc : CS) (_ : XT) => v = r ∧ c9 = cc) (hx x _ (fun _ => ⟨rfl, rfl⟩))) (fun _ => rfl) rfl (Nat.le_of_ble_eq_true rfl) (Nat.le_of_ble_eq_true rfl) rfl (Nat.le_of_ble_eq_true rfl) dL_law_393 (fun w ω9 hk => ?_)
  obtain ⟨r, cc, x9, rfl, rfl, rfl, rfl⟩ := hk
  refine ⟨_, _, _, rfl, fun _ => rfl, rfl, ?_⟩
  refine lr_aload_n κ 3 dL_law_396 rfl rfl ?_
  refine lr_aload_n κ 1 dL_law_397 rfl rfl ?_
  refine lr_iload_n κ 0 dL_law_398 rfl rfl ?_
  refine lr_iconst κ (v := 1) dL_law_399 (by decide) ?_
  refine lr_iadd κ dL_law_400 ?_
  refine lr_sld κ h1 dL_law_401 ?_
  refine lr_aload_n κ 1 dL_law_402 rfl rfl ?_
  refine lr_iload_n κ 0 dL_law_403 rfl rfl ?_
  refine lr_iconst κ (v := 2) dL_law_404 (by decide) ?_
  refine lr_iadd κ dL_law_405 ?_
  refine lr_sld κ h2 dL_law_406 ?_
  refine lr_callM κ (st := [.long v]) [.int (lXs κ (iv + 1).toNatClampNeg), .int (lXs κ (iv + 2).toNatClampNeg)] kw_3_177 tg_X6_flow (snd_X6_flow (lXs κ (iv + 1).toNatClampNeg) (lXs κ (iv + 2).toNatClampNeg) c t (fun (r : Int64) (cc : CS) (_ : MT) => v = r ∧ c9 = cc) (hm t _ (fun _ => ⟨rfl, rfl⟩))) (fun _ => rfl) rfl (Nat.le_of_ble_eq_true rfl) (Nat.le_of_ble_eq_true rfl) rfl (Nat.le_of_ble_eq_true rfl) dL_law_407 (fun w ω9 hk => ?_)
  obtain ⟨r, cc, t9, rfl, rfl, rfl, rfl⟩ := hk
  refine ⟨_, _, _, rfl, fun _ => rfl, rfl, ?_⟩
  exact lr_lcmp_eq κ (tgt := 880) dL_law_410 dL_law_411 rfl (fun _ => next _ _ _ hC9) (fun h => absurd rfl h)
set_option maxHeartbeats 1000000 in
theorem lc_8 (κ : LC) (h1 : vp_in (iv + 1) (lLn κ)) (h2 : vp_in (iv + 2) (lLn κ)) (h3 : vp_in (iv + 3) (lLn κ)) (hC : CI c) (next : ∀ c9 x9 t9, CI c9 → LW l κ 880 (lvv iv) [] c9 x9 c9 t9) : LW l κ 416 (lvv iv) [] c x c t := by
  obtain ⟨v, c9, hC9, hx, hm⟩ := ag_resist (a := lXs κ (iv + 1).toNatClampNeg) (b := lXs κ (iv + 2).toNatClampNeg) (what := lXs κ (iv + 3).toNatClampNeg) hC
  refine lr_aload_n κ 2 dL_law_416 rfl rfl ?_
  refine lr_aload_n κ 1 dL_law_417 rfl rfl ?_
  refine lr_iload_n κ 0 dL_law_418 rfl rfl ?_
  refine lr_iconst κ (v := 1) dL_law_419 (by decide) ?_
  refine lr_iadd κ dL_law_420 ?_
  refine lr_sld κ h1 dL_law_421 ?_
  refine lr_aload_n κ 1 dL_law_422 rfl rfl ?_
  refine lr_iload_n κ 0 dL_law_423 rfl rfl ?_
  refine lr_iconst κ (v := 2) dL_law_424 (by decide) ?_
  refine lr_iadd κ dL_law_425 ?_
  refine lr_sld κ h2 dL_law_426 ?_
  refine lr_aload_n κ 1 dL_law_427 rfl rfl ?_
  refine lr_iload_n κ 0 dL_law_428 rfl rfl ?_
  refine lr_iconst κ (v := 3) dL_law_429 (by decide) ?_
  refine lr_iadd κ dL_law_430 ?_
  refine lr_sld κ h3 dL_law_431 ?_
  refine lr_callX κ (st := []) [.int (lXs κ (iv + 1).toNatClampNeg), .int (lXs κ (iv + 2).toNatClampNeg), .int (lXs κ (iv + 3).toNatClampNeg)] kw_2_72 tg_X5_resist (snd_X5_resist (lXs κ (iv + 1).toNatClampNeg) (lXs κ (iv + 2).toNatClampNeg) (lXs κ (iv + 3).toNatClampNeg) c x (fun (r : Int64) (cc : CS) (_ : XT) => v = r ∧ c9 = cc) (hx x _ (fun _ => ⟨rfl, rfl⟩))) (fun _ => rfl) rfl (Nat.le_of_ble_eq_true rfl) (Nat.le_of_ble_eq_true rfl) rfl (Nat.le_of_ble_eq_true rfl) dL_law_432 (fun w ω9 hk => ?_)
  obtain ⟨r, cc, x9, rfl, rfl, rfl, rfl⟩ := hk
  refine ⟨_, _, _, rfl, fun _ => rfl, rfl, ?_⟩
  refine lr_aload_n κ 3 dL_law_435 rfl rfl ?_
  refine lr_aload_n κ 1 dL_law_436 rfl rfl ?_
  refine lr_iload_n κ 0 dL_law_437 rfl rfl ?_
  refine lr_iconst κ (v := 1) dL_law_438 (by decide) ?_
  refine lr_iadd κ dL_law_439 ?_
  refine lr_sld κ h1 dL_law_440 ?_
  refine lr_aload_n κ 1 dL_law_441 rfl rfl ?_
  refine lr_iload_n κ 0 dL_law_442 rfl rfl ?_
  refine lr_iconst κ (v := 2) dL_law_443 (by decide) ?_
  refine lr_iadd κ dL_law_444 ?_
  refine lr_sld κ h2 dL_law_445 ?_
  refine lr_aload_n κ 1 dL_law_446 rfl rfl ?_
  refine lr_iload_n κ 0 dL_law_447 rfl rfl ?_
  refine lr_iconst κ (v := 3) dL_law_448 (by decide) ?_
  refine lr_iadd κ dL_law_449 ?_
  refine lr_sld κ h3 dL_law_450 ?_
  refine lr_callM κ (st := [.long v]) [.int (lXs κ (iv + 1).toNatClampNeg), .int (lXs κ (iv + 2).toNatClampNeg), .int (lXs κ (iv + 3).toNatClampNeg)] kw_3_183 tg_X6_resist (snd_X6_resist (lXs κ (iv + 1).toNatClampNeg) (lXs κ (iv + 2).toNatClampNeg) (lXs κ (iv + 3).toNatClampNeg) c t (fun (r : Int64) (cc : CS) (_ : MT) => v = r ∧ c9 = cc) (hm t _ (fun _ => ⟨rfl, rfl⟩))) (fun _ => rfl) rfl (Nat.le_of_ble_eq_true rfl) (Nat.le_of_ble_eq_true rfl) rfl (Nat.le_of_ble_eq_true rfl) dL_law_451 (fun w ω9 hk => ?_)
  obtain ⟨r, cc, t9, rfl, rfl, rfl, rfl⟩ := hk
  refine ⟨_, _, _, rfl, fun _ => rfl, rfl, ?_⟩
  exact lr_lcmp_eq κ (tgt := 880) dL_law_454 dL_law_455 rfl (fun _ => next _ _ _ hC9) (fun h => absurd rfl h)
set_option maxHeartbeats 1000000 in
theorem lc_9 (κ : LC) (h1 : vp_in (iv + 1) (lLn κ)) (h2 : vp_in (iv + 2) (lLn κ)) (hC : CI c) (next : ∀ c9 x9 t9, CI c9 → LW l κ 880 (lvv iv) [] c9 x9 c9 t9) : LW l κ 460 (lvv iv) [] c x c t := by
  obtain ⟨v, c9, hC9, hx, hm⟩ := ag_block (k := lXs κ (iv + 1).toNatClampNeg) (v := lXs κ (iv + 2).toNatClampNeg) hC
  refine lr_aload_n κ 2 dL_law_460 rfl rfl ?_
  refine lr_aload_n κ 1 dL_law_461 rfl rfl ?_
  refine lr_iload_n κ 0 dL_law_462 rfl rfl ?_
  refine lr_iconst κ (v := 1) dL_law_463 (by decide) ?_
  refine lr_iadd κ dL_law_464 ?_
  refine lr_sld κ h1 dL_law_465 ?_
  refine lr_aload_n κ 1 dL_law_466 rfl rfl ?_
  refine lr_iload_n κ 0 dL_law_467 rfl rfl ?_
  refine lr_iconst κ (v := 2) dL_law_468 (by decide) ?_
  refine lr_iadd κ dL_law_469 ?_
  refine lr_sld κ h2 dL_law_470 ?_
  refine lr_callX κ (st := []) [.int (lXs κ (iv + 1).toNatClampNeg), .int (lXs κ (iv + 2).toNatClampNeg)] kw_2_76 tg_X5_block (snd_X5_block (lXs κ (iv + 1).toNatClampNeg) (lXs κ (iv + 2).toNatClampNeg) c x (fun (r : Int32) (cc : CS) (_ : XT) => v = r ∧ c9 = cc) (hx x _ (fun _ => ⟨rfl, rfl⟩))) (fun _ => rfl) rfl (Nat.le_of_ble_eq_true rfl) (Nat.le_of_ble_eq_true rfl) rfl (Nat.le_of_ble_eq_true rfl) dL_law_471 (fun w ω9 hk => ?_)
  obtain ⟨r, cc, x9, rfl, rfl, rfl, rfl⟩ := hk
  refine ⟨_, _, _, rfl, fun _ => rfl, rfl, ?_⟩
  refine lr_aload_n κ 3 dL_law_474 rfl rfl ?_
  refine lr_aload_n κ 1 dL_law_475 rfl rfl ?_
  refine lr_iload_n κ 0 dL_law_476 rfl rfl ?_
  refine lr_iconst κ (v := 1) dL_law_477 (by decide) ?_
  refine lr_iadd κ dL_law_478 ?_
  refine lr_sld κ h1 dL_law_479 ?_
  refine lr_aload_n κ 1 dL_law_480 rfl rfl ?_
  refine lr_iload_n κ 0 dL_law_481 rfl rfl ?_
  refine lr_iconst κ (v := 2) dL_law_482 (by decide) ?_
  refine lr_iadd κ dL_law_483 ?_
  refine lr_sld κ h2 dL_law_484 ?_
  refine lr_callM κ (st := [.int v]) [.int (lXs κ (iv + 1).toNatClampNeg), .int (lXs κ (iv + 2).toNatClampNeg)] kw_3_187 tg_X6_block (snd_X6_block (lXs κ (iv + 1).toNatClampNeg) (lXs κ (iv + 2).toNatClampNeg) c t (fun (r : Int32) (cc : CS) (_ : MT) => v = r ∧ c9 = cc) (hm t _ (fun _ => ⟨rfl, rfl⟩))) (fun _ => rfl) rfl (Nat.le_of_ble_eq_true rfl) (Nat.le_of_ble_eq_true rfl) rfl (Nat.le_of_ble_eq_true rfl) dL_law_485 (fun w ω9 hk => ?_)
  obtain ⟨r, cc, t9, rfl, rfl, rfl, rfl⟩ := hk
  refine ⟨_, _, _, rfl, fun _ => rfl, rfl, ?_⟩
  exact lr_icmp_eq κ (tgt := 880) dL_law_488 rfl (fun _ => next _ _ _ hC9) (fun h => absurd rfl h)
set_option maxHeartbeats 1000000 in
theorem lc_10 (κ : LC) (h1 : vp_in (iv + 1) (lLn κ)) (hC : CI c) (next : ∀ c9 x9 t9, CI c9 → LW l κ 880 (lvv iv) [] c9 x9 c9 t9) : LW l κ 493 (lvv iv) [] c x c t := by
  obtain ⟨v, c9, hC9, hx, hm⟩ := ag_budget (v := lXs κ (iv + 1).toNatClampNeg) hC
  refine lr_aload_n κ 2 dL_law_493 rfl rfl ?_
  refine lr_aload_n κ 1 dL_law_494 rfl rfl ?_
  refine lr_iload_n κ 0 dL_law_495 rfl rfl ?_
  refine lr_iconst κ (v := 1) dL_law_496 (by decide) ?_
  refine lr_iadd κ dL_law_497 ?_
  refine lr_sld κ h1 dL_law_498 ?_
  refine lr_callX κ (st := []) [.int (lXs κ (iv + 1).toNatClampNeg)] kw_2_84 tg_X5_budget (snd_X5_budget (lXs κ (iv + 1).toNatClampNeg) c x (fun (r : Int32) (cc : CS) (_ : XT) => v = r ∧ c9 = cc) (hx x _ (fun _ => ⟨rfl, rfl⟩))) (fun _ => rfl) rfl (Nat.le_of_ble_eq_true rfl) (Nat.le_of_ble_eq_true rfl) rfl (Nat.le_of_ble_eq_true rfl) dL_law_499 (fun w ω9 hk => ?_)
  obtain ⟨r, cc, x9, rfl, rfl, rfl, rfl⟩ := hk
  refine ⟨_, _, _, rfl, fun _ => rfl, rfl, ?_⟩
  refine lr_aload_n κ 3 dL_law_502 rfl rfl ?_
  refine lr_aload_n κ 1 dL_law_503 rfl rfl ?_
  refine lr_iload_n κ 0 dL_law_504 rfl rfl ?_
  refine lr_iconst κ (v := 1) dL_law_505 (by decide) ?_
  refine lr_iadd κ dL_law_506 ?_
  refine lr_sld κ h1 dL_law_507 ?_
  refine lr_callM κ (st := [.int v]) [.int (lXs κ (iv + 1).toNatClampNeg)] kw_3_191 tg_X6_budget (snd_X6_budget (lXs κ (iv + 1).toNatClampNeg) c t (fun (r : Int32) (cc : CS) (_ : MT) => v = r ∧ c9 = cc) (hm t _ (fun _ => ⟨rfl, rfl⟩))) (fun _ => rfl) rfl (Nat.le_of_ble_eq_true rfl) (Nat.le_of_ble_eq_true rfl) rfl (Nat.le_of_ble_eq_true rfl) dL_law_508 (fun w ω9 hk => ?_)
  obtain ⟨r, cc, t9, rfl, rfl, rfl, rfl⟩ := hk
  refine ⟨_, _, _, rfl, fun _ => rfl, rfl, ?_⟩
  exact lr_icmp_eq κ (tgt := 880) dL_law_511 rfl (fun _ => next _ _ _ hC9) (fun h => absurd rfl h)
set_option maxHeartbeats 1000000 in
theorem lc_11 (κ : LC) (h1 : vp_in (iv + 1) (lLn κ)) (h2 : vp_in (iv + 2) (lLn κ)) (hC : CI c) (next : ∀ c9 x9 t9, CI c9 → LW l κ 880 (lvv iv) [] c9 x9 c9 t9) : LW l κ 516 (lvv iv) [] c x c t := by
  obtain ⟨v, c9, hC9, hx, hm⟩ := ag_worst (kk := lXs κ (iv + 1).toNatClampNeg) (bl := lXs κ (iv + 2).toNatClampNeg) hC
  refine lr_aload_n κ 2 dL_law_516 rfl rfl ?_
  refine lr_aload_n κ 1 dL_law_517 rfl rfl ?_
  refine lr_iload_n κ 0 dL_law_518 rfl rfl ?_
  refine lr_iconst κ (v := 1) dL_law_519 (by decide) ?_
  refine lr_iadd κ dL_law_520 ?_
  refine lr_sld κ h1 dL_law_521 ?_
  refine lr_aload_n κ 1 dL_law_522 rfl rfl ?_
  refine lr_iload_n κ 0 dL_law_523 rfl rfl ?_
  refine lr_iconst κ (v := 2) dL_law_524 (by decide) ?_
  refine lr_iadd κ dL_law_525 ?_
  refine lr_sld κ h2 dL_law_526 ?_
  refine lr_callX κ (st := []) [.int (lXs κ (iv + 1).toNatClampNeg), .int (lXs κ (iv + 2).toNatClampNeg)] kw_2_88 tg_X5_worst (snd_X5_worst (lXs κ (iv + 1).toNatClampNeg) (lXs κ (iv + 2).toNatClampNeg) c x (fun (r : Int32) (cc : CS) (_ : XT) => v = r ∧ c9 = cc) (hx x _ (fun _ => ⟨rfl, rfl⟩))) (fun _ => rfl) rfl (Nat.le_of_ble_eq_true rfl) (Nat.le_of_ble_eq_true rfl) rfl (Nat.le_of_ble_eq_true rfl) dL_law_527 (fun w ω9 hk => ?_)
  obtain ⟨r, cc, x9, rfl, rfl, rfl, rfl⟩ := hk
  refine ⟨_, _, _, rfl, fun _ => rfl, rfl, ?_⟩
  refine lr_aload_n κ 3 dL_law_530 rfl rfl ?_
  refine lr_aload_n κ 1 dL_law_531 rfl rfl ?_
  refine lr_iload_n κ 0 dL_law_532 rfl rfl ?_
  refine lr_iconst κ (v := 1) dL_law_533 (by decide) ?_
  refine lr_iadd κ dL_law_534 ?_
  refine lr_sld κ h1 dL_law_535 ?_
  refine lr_aload_n κ 1 dL_law_536 rfl rfl ?_
  refine lr_iload_n κ 0 dL_law_537 rfl rfl ?_
  refine lr_iconst κ (v := 2) dL_law_538 (by decide) ?_
  refine lr_iadd κ dL_law_539 ?_
  refine lr_sld κ h2 dL_law_540 ?_
  refine lr_callM κ (st := [.int v]) [.int (lXs κ (iv + 1).toNatClampNeg), .int (lXs κ (iv + 2).toNatClampNeg)] kw_3_195 tg_X6_worst (snd_X6_worst (lXs κ (iv + 1).toNatClampNeg) (lXs κ (iv + 2).toNatClampNeg) c t (fun (r : Int32) (cc : CS) (_ : MT) => v = r ∧ c9 = cc) (hm t _ (fun _ => ⟨rfl, rfl⟩))) (fun _ => rfl) rfl (Nat.le_of_ble_eq_true rfl) (Nat.le_of_ble_eq_true rfl) rfl (Nat.le_of_ble_eq_true rfl) dL_law_541 (fun w ω9 hk => ?_)
  obtain ⟨r, cc, t9, rfl, rfl, rfl, rfl⟩ := hk
  refine ⟨_, _, _, rfl, fun _ => rfl, rfl, ?_⟩
  exact lr_icmp_eq κ (tgt := 880) dL_law_544 rfl (fun _ => next _ _ _ hC9) (fun h => absurd rfl h)
set_option maxHeartbeats 1000000 in
theorem lc_12 (κ : LC) (h1 : vp_in (iv + 1) (lLn κ)) (h2 : vp_in (iv + 2) (lLn κ)) (hC : CI c) (next : ∀ c9 x9 t9, CI c9 → LW l κ 880 (lvv iv) [] c9 x9 c9 t9) : LW l κ 549 (lvv iv) [] c x c t := by
  obtain ⟨v, c9, hC9, hx, hm⟩ := ag_worstFall (kk := lXs κ (iv + 1).toNatClampNeg) (what := lXs κ (iv + 2).toNatClampNeg) hC
  refine lr_aload_n κ 2 dL_law_549 rfl rfl ?_
  refine lr_aload_n κ 1 dL_law_550 rfl rfl ?_
  refine lr_iload_n κ 0 dL_law_551 rfl rfl ?_
  refine lr_iconst κ (v := 1) dL_law_552 (by decide) ?_
  refine lr_iadd κ dL_law_553 ?_
  refine lr_sld κ h1 dL_law_554 ?_
  refine lr_aload_n κ 1 dL_law_555 rfl rfl ?_
  refine lr_iload_n κ 0 dL_law_556 rfl rfl ?_
  refine lr_iconst κ (v := 2) dL_law_557 (by decide) ?_
  refine lr_iadd κ dL_law_558 ?_
  refine lr_sld κ h2 dL_law_559 ?_
  refine lr_callX κ (st := []) [.int (lXs κ (iv + 1).toNatClampNeg), .int (lXs κ (iv + 2).toNatClampNeg)] kw_2_107 tg_X5_worstFall (snd_X5_worstFall (lXs κ (iv + 1).toNatClampNeg) (lXs κ (iv + 2).toNatClampNeg) c x (fun (r : Int64) (cc : CS) (_ : XT) => v = r ∧ c9 = cc) (hx x _ (fun _ => ⟨rfl, rfl⟩))) (fun _ => rfl) rfl (Nat.le_of_ble_eq_true rfl) (Nat.le_of_ble_eq_true rfl) rfl (Nat.le_of_ble_eq_true rfl) dL_law_560 (fun w ω9 hk => ?_)
  obtain ⟨r, cc, x9, rfl, rfl, rfl, rfl⟩ := hk
  refine ⟨_, _, _, rfl, fun _ => rfl, rfl, ?_⟩
  refine lr_aload_n κ 3 dL_law_563 rfl rfl ?_
  refine lr_aload_n κ 1 dL_law_564 rfl rfl ?_
  refine lr_iload_n κ 0 dL_law_565 rfl rfl ?_
  refine lr_iconst κ (v := 1) dL_law_566 (by decide) ?_
  refine lr_iadd κ dL_law_567 ?_
  refine lr_sld κ h1 dL_law_568 ?_
  refine lr_aload_n κ 1 dL_law_569 rfl rfl ?_
  refine lr_iload_n κ 0 dL_law_570 rfl rfl ?_
  refine lr_iconst κ (v := 2) dL_law_571 (by decide) ?_
  refine lr_iadd κ dL_law_572 ?_
  refine lr_sld κ h2 dL_law_573 ?_
  refine lr_callM κ (st := [.long v]) [.int (lXs κ (iv + 1).toNatClampNeg), .int (lXs κ (iv + 2).toNatClampNeg)] kw_3_203 tg_X6_worstFall (snd_X6_worstFall (lXs κ (iv + 1).toNatClampNeg) (lXs κ (iv + 2).toNatClampNeg) c t (fun (r : Int64) (cc : CS) (_ : MT) => v = r ∧ c9 = cc) (hm t _ (fun _ => ⟨rfl, rfl⟩))) (fun _ => rfl) rfl (Nat.le_of_ble_eq_true rfl) (Nat.le_of_ble_eq_true rfl) rfl (Nat.le_of_ble_eq_true rfl) dL_law_574 (fun w ω9 hk => ?_)
  obtain ⟨r, cc, t9, rfl, rfl, rfl, rfl⟩ := hk
  refine ⟨_, _, _, rfl, fun _ => rfl, rfl, ?_⟩
  exact lr_lcmp_eq κ (tgt := 880) dL_law_577 dL_law_578 rfl (fun _ => next _ _ _ hC9) (fun h => absurd rfl h)
set_option maxHeartbeats 1000000 in
theorem lc_13 (κ : LC) (hC : CI c) (next : ∀ c9 x9 t9, CI c9 → LW l κ 880 (lvv iv) [] c9 x9 c9 t9) : LW l κ 583 (lvv iv) [] c x c t := by
  obtain ⟨v, c9, hC9, hx, hm⟩ := ag_worstKnot  hC
  refine lr_aload_n κ 2 dL_law_583 rfl rfl ?_
  refine lr_callX κ (st := []) [] kw_2_116 tg_X5_worstKnot (snd_X5_worstKnot  c x (fun (r : Int32) (cc : CS) (_ : XT) => v = r ∧ c9 = cc) (hx x _ (fun _ => ⟨rfl, rfl⟩))) (fun _ => rfl) rfl (Nat.le_of_ble_eq_true rfl) (Nat.le_of_ble_eq_true rfl) rfl (Nat.le_of_ble_eq_true rfl) dL_law_584 (fun w ω9 hk => ?_)
  obtain ⟨r, cc, x9, rfl, rfl, rfl, rfl⟩ := hk
  refine ⟨_, _, _, rfl, fun _ => rfl, rfl, ?_⟩
  refine lr_aload_n κ 3 dL_law_587 rfl rfl ?_
  refine lr_callM κ (st := [.int v]) [] kw_3_207 tg_X6_worstKnot (snd_X6_worstKnot  c t (fun (r : Int32) (cc : CS) (_ : MT) => v = r ∧ c9 = cc) (hm t _ (fun _ => ⟨rfl, rfl⟩))) (fun _ => rfl) rfl (Nat.le_of_ble_eq_true rfl) (Nat.le_of_ble_eq_true rfl) rfl (Nat.le_of_ble_eq_true rfl) dL_law_588 (fun w ω9 hk => ?_)
  obtain ⟨r, cc, t9, rfl, rfl, rfl, rfl⟩ := hk
  refine ⟨_, _, _, rfl, fun _ => rfl, rfl, ?_⟩
  exact lr_icmp_eq κ (tgt := 880) dL_law_591 rfl (fun _ => next _ _ _ hC9) (fun h => absurd rfl h)
set_option maxHeartbeats 1000000 in
theorem lc_14 (κ : LC) (h1 : vp_in (iv + 1) (lLn κ)) (h2 : vp_in (iv + 2) (lLn κ)) (hC : CI c) (next : ∀ c9 x9 t9, CI c9 → LW l κ 880 (lvv iv) [] c9 x9 c9 t9) : LW l κ 596 (lvv iv) [] c x c t := by
  obtain ⟨v, c9, hC9, hx, hm⟩ := ag_open (ww := lXs κ (iv + 1).toNatClampNeg) (what := lXs κ (iv + 2).toNatClampNeg) hC
  refine lr_aload_n κ 2 dL_law_596 rfl rfl ?_
  refine lr_aload_n κ 1 dL_law_597 rfl rfl ?_
  refine lr_iload_n κ 0 dL_law_598 rfl rfl ?_
  refine lr_iconst κ (v := 1) dL_law_599 (by decide) ?_
  refine lr_iadd κ dL_law_600 ?_
  refine lr_sld κ h1 dL_law_601 ?_
  refine lr_aload_n κ 1 dL_law_602 rfl rfl ?_
  refine lr_iload_n κ 0 dL_law_603 rfl rfl ?_
  refine lr_iconst κ (v := 2) dL_law_604 (by decide) ?_
  refine lr_iadd κ dL_law_605 ?_
  refine lr_sld κ h2 dL_law_606 ?_
  refine lr_callX κ (st := []) [.int (lXs κ (iv + 1).toNatClampNeg), .int (lXs κ (iv + 2).toNatClampNeg)] kw_2_120 tg_X5_open (snd_X5_open (lXs κ (iv + 1).toNatClampNeg) (lXs κ (iv + 2).toNatClampNeg) c x (fun (r : Int64) (cc : CS) (_ : XT) => v = r ∧ c9 = cc) (hx x _ (fun _ => ⟨rfl, rfl⟩))) (fun _ => rfl) rfl (Nat.le_of_ble_eq_true rfl) (Nat.le_of_ble_eq_true rfl) rfl (Nat.le_of_ble_eq_true rfl) dL_law_607 (fun w ω9 hk => ?_)
  obtain ⟨r, cc, x9, rfl, rfl, rfl, rfl⟩ := hk
  refine ⟨_, _, _, rfl, fun _ => rfl, rfl, ?_⟩
  refine lr_aload_n κ 3 dL_law_610 rfl rfl ?_
  refine lr_aload_n κ 1 dL_law_611 rfl rfl ?_
  refine lr_iload_n κ 0 dL_law_612 rfl rfl ?_
  refine lr_iconst κ (v := 1) dL_law_613 (by decide) ?_
  refine lr_iadd κ dL_law_614 ?_
  refine lr_sld κ h1 dL_law_615 ?_
  refine lr_aload_n κ 1 dL_law_616 rfl rfl ?_
  refine lr_iload_n κ 0 dL_law_617 rfl rfl ?_
  refine lr_iconst κ (v := 2) dL_law_618 (by decide) ?_
  refine lr_iadd κ dL_law_619 ?_
  refine lr_sld κ h2 dL_law_620 ?_
  refine lr_callM κ (st := [.long v]) [.int (lXs κ (iv + 1).toNatClampNeg), .int (lXs κ (iv + 2).toNatClampNeg)] kw_3_211 tg_X6_open (snd_X6_open (lXs κ (iv + 1).toNatClampNeg) (lXs κ (iv + 2).toNatClampNeg) c t (fun (r : Int64) (cc : CS) (_ : MT) => v = r ∧ c9 = cc) (hm t _ (fun _ => ⟨rfl, rfl⟩))) (fun _ => rfl) rfl (Nat.le_of_ble_eq_true rfl) (Nat.le_of_ble_eq_true rfl) rfl (Nat.le_of_ble_eq_true rfl) dL_law_621 (fun w ω9 hk => ?_)
  obtain ⟨r, cc, t9, rfl, rfl, rfl, rfl⟩ := hk
  refine ⟨_, _, _, rfl, fun _ => rfl, rfl, ?_⟩
  exact lr_lcmp_eq κ (tgt := 880) dL_law_624 dL_law_625 rfl (fun _ => next _ _ _ hC9) (fun h => absurd rfl h)
set_option maxHeartbeats 1000000 in
theorem lc_15 (κ : LC) (hC : CI c) (next : ∀ c9 x9 t9, CI c9 → LW l κ 880 (lvv iv) [] c9 x9 c9 t9) : LW l κ 630 (lvv iv) [] c x c t := by
  obtain ⟨v, c9, hC9, hx, hm⟩ := ag_weakest  hC
  refine lr_aload_n κ 2 dL_law_630 rfl rfl ?_
  refine lr_callX κ (st := []) [] kw_2_137 tg_X5_weakest (snd_X5_weakest  c x (fun (r : Int32) (cc : CS) (_ : XT) => v = r ∧ c9 = cc) (hx x _ (fun _ => ⟨rfl, rfl⟩))) (fun _ => rfl) rfl (Nat.le_of_ble_eq_true rfl) (Nat.le_of_ble_eq_true rfl) rfl (Nat.le_of_ble_eq_true rfl) dL_law_631 (fun w ω9 hk => ?_)
  obtain ⟨r, cc, x9, rfl, rfl, rfl, rfl⟩ := hk
  refine ⟨_, _, _, rfl, fun _ => rfl, rfl, ?_⟩
  refine lr_aload_n κ 3 dL_law_634 rfl rfl ?_
  refine lr_callM κ (st := [.int v]) [] kw_3_219 tg_X6_weakest (snd_X6_weakest  c t (fun (r : Int32) (cc : CS) (_ : MT) => v = r ∧ c9 = cc) (hm t _ (fun _ => ⟨rfl, rfl⟩))) (fun _ => rfl) rfl (Nat.le_of_ble_eq_true rfl) (Nat.le_of_ble_eq_true rfl) rfl (Nat.le_of_ble_eq_true rfl) dL_law_635 (fun w ω9 hk => ?_)
  obtain ⟨r, cc, t9, rfl, rfl, rfl, rfl⟩ := hk
  refine ⟨_, _, _, rfl, fun _ => rfl, rfl, ?_⟩
  exact lr_icmp_eq κ (tgt := 880) dL_law_638 rfl (fun _ => next _ _ _ hC9) (fun h => absurd rfl h)
set_option maxHeartbeats 1000000 in
theorem lc_16 (κ : LC) (h1 : vp_in (iv + 1) (lLn κ)) (h2 : vp_in (iv + 2) (lLn κ)) (h3 : vp_in (iv + 3) (lLn κ)) (h4 : vp_in (iv + 4) (lLn κ)) (hC : CI c) (next : ∀ c9 x9 t9, CI c9 → LW l κ 880 (lvv iv) [] c9 x9 c9 t9) : LW l κ 643 (lvv iv) [] c x c t := by
  obtain ⟨v, c9, hC9, hx, hm⟩ := ag_shrunk (po := lXs κ (iv + 1).toNatClampNeg) (aa := lXs κ (iv + 2).toNatClampNeg) (bb := lXs κ (iv + 3).toNatClampNeg) (what := lXs κ (iv + 4).toNatClampNeg) hC
  refine lr_aload_n κ 2 dL_law_643 rfl rfl ?_
  refine lr_aload_n κ 1 dL_law_644 rfl rfl ?_
  refine lr_iload_n κ 0 dL_law_645 rfl rfl ?_
  refine lr_iconst κ (v := 1) dL_law_646 (by decide) ?_
  refine lr_iadd κ dL_law_647 ?_
  refine lr_sld κ h1 dL_law_648 ?_
  refine lr_aload_n κ 1 dL_law_649 rfl rfl ?_
  refine lr_iload_n κ 0 dL_law_650 rfl rfl ?_
  refine lr_iconst κ (v := 2) dL_law_651 (by decide) ?_
  refine lr_iadd κ dL_law_652 ?_
  refine lr_sld κ h2 dL_law_653 ?_
  refine lr_aload_n κ 1 dL_law_654 rfl rfl ?_
  refine lr_iload_n κ 0 dL_law_655 rfl rfl ?_
  refine lr_iconst κ (v := 3) dL_law_656 (by decide) ?_
  refine lr_iadd κ dL_law_657 ?_
  refine lr_sld κ h3 dL_law_658 ?_
  refine lr_aload_n κ 1 dL_law_659 rfl rfl ?_
  refine lr_iload_n κ 0 dL_law_660 rfl rfl ?_
  refine lr_iconst κ (v := 4) dL_law_661 (by decide) ?_
  refine lr_iadd κ dL_law_662 ?_
  refine lr_sld κ h4 dL_law_663 ?_
  refine lr_callX κ (st := []) [.int (lXs κ (iv + 1).toNatClampNeg), .int (lXs κ (iv + 2).toNatClampNeg), .int (lXs κ (iv + 3).toNatClampNeg), .int (lXs κ (iv + 4).toNatClampNeg)] kw_2_144 tg_X5_shrunk (snd_X5_shrunk (lXs κ (iv + 1).toNatClampNeg) (lXs κ (iv + 2).toNatClampNeg) (lXs κ (iv + 3).toNatClampNeg) (lXs κ (iv + 4).toNatClampNeg) c x (fun (r : Int64) (cc : CS) (_ : XT) => v = r ∧ c9 = cc) (hx x _ (fun _ => ⟨rfl, rfl⟩))) (fun _ => rfl) rfl (Nat.le_of_ble_eq_true rfl) (Nat.le_of_ble_eq_true rfl) rfl (Nat.le_of_ble_eq_true rfl) dL_law_664 (fun w ω9 hk => ?_)
  obtain ⟨r, cc, x9, rfl, rfl, rfl, rfl⟩ := hk
  refine ⟨_, _, _, rfl, fun _ => rfl, rfl, ?_⟩
  refine lr_aload_n κ 3 dL_law_667 rfl rfl ?_
  refine lr_aload_n κ 1 dL_law_668 rfl rfl ?_
  refine lr_iload_n κ 0 dL_law_669 rfl rfl ?_
  refine lr_iconst κ (v := 1) dL_law_670 (by decide) ?_
  refine lr_iadd κ dL_law_671 ?_
  refine lr_sld κ h1 dL_law_672 ?_
  refine lr_aload_n κ 1 dL_law_673 rfl rfl ?_
  refine lr_iload_n κ 0 dL_law_674 rfl rfl ?_
  refine lr_iconst κ (v := 2) dL_law_675 (by decide) ?_
  refine lr_iadd κ dL_law_676 ?_
  refine lr_sld κ h2 dL_law_677 ?_
  refine lr_aload_n κ 1 dL_law_678 rfl rfl ?_
  refine lr_iload_n κ 0 dL_law_679 rfl rfl ?_
  refine lr_iconst κ (v := 3) dL_law_680 (by decide) ?_
  refine lr_iadd κ dL_law_681 ?_
  refine lr_sld κ h3 dL_law_682 ?_
  refine lr_aload_n κ 1 dL_law_683 rfl rfl ?_
  refine lr_iload_n κ 0 dL_law_684 rfl rfl ?_
  refine lr_iconst κ (v := 4) dL_law_685 (by decide) ?_
  refine lr_iadd κ dL_law_686 ?_
  refine lr_sld κ h4 dL_law_687 ?_
  refine lr_callM κ (st := [.long v]) [.int (lXs κ (iv + 1).toNatClampNeg), .int (lXs κ (iv + 2).toNatClampNeg), .int (lXs κ (iv + 3).toNatClampNeg), .int (lXs κ (iv + 4).toNatClampNeg)] kw_3_223 tg_X6_shrunk (snd_X6_shrunk (lXs κ (iv + 1).toNatClampNeg) (lXs κ (iv + 2).toNatClampNeg) (lXs κ (iv + 3).toNatClampNeg) (lXs κ (iv + 4).toNatClampNeg) c t (fun (r : Int64) (cc : CS) (_ : MT) => v = r ∧ c9 = cc) (hm t _ (fun _ => ⟨rfl, rfl⟩))) (fun _ => rfl) rfl (Nat.le_of_ble_eq_true rfl) (Nat.le_of_ble_eq_true rfl) rfl (Nat.le_of_ble_eq_true rfl) dL_law_688 (fun w ω9 hk => ?_)
  obtain ⟨r, cc, t9, rfl, rfl, rfl, rfl⟩ := hk
  refine ⟨_, _, _, rfl, fun _ => rfl, rfl, ?_⟩
  exact lr_lcmp_eq κ (tgt := 880) dL_law_691 dL_law_692 rfl (fun _ => next _ _ _ hC9) (fun h => absurd rfl h)
set_option maxHeartbeats 1000000 in
theorem lc_17 (κ : LC) (h1 : vp_in (iv + 1) (lLn κ)) (hC : CI c) (next : ∀ c9 x9 t9, CI c9 → LW l κ 880 (lvv iv) [] c9 x9 c9 t9) : LW l κ 697 (lvv iv) [] c x c t := by
  obtain ⟨v, c9, hC9, hx, hm⟩ := ag_pads (j := lXs κ (iv + 1).toNatClampNeg) hC
  refine lr_aload_n κ 2 dL_law_697 rfl rfl ?_
  refine lr_aload_n κ 1 dL_law_698 rfl rfl ?_
  refine lr_iload_n κ 0 dL_law_699 rfl rfl ?_
  refine lr_iconst κ (v := 1) dL_law_700 (by decide) ?_
  refine lr_iadd κ dL_law_701 ?_
  refine lr_sld κ h1 dL_law_702 ?_
  refine lr_callX κ (st := []) [.int (lXs κ (iv + 1).toNatClampNeg)] kw_2_155 tg_X5_pads (snd_X5_pads (lXs κ (iv + 1).toNatClampNeg) c x (fun (r : Int32) (cc : CS) (_ : XT) => v = r ∧ c9 = cc) (hx x _ (fun _ => ⟨rfl, rfl⟩))) (fun _ => rfl) rfl (Nat.le_of_ble_eq_true rfl) (Nat.le_of_ble_eq_true rfl) rfl (Nat.le_of_ble_eq_true rfl) dL_law_703 (fun w ω9 hk => ?_)
  obtain ⟨r, cc, x9, rfl, rfl, rfl, rfl⟩ := hk
  refine ⟨_, _, _, rfl, fun _ => rfl, rfl, ?_⟩
  refine lr_aload_n κ 3 dL_law_706 rfl rfl ?_
  refine lr_aload_n κ 1 dL_law_707 rfl rfl ?_
  refine lr_iload_n κ 0 dL_law_708 rfl rfl ?_
  refine lr_iconst κ (v := 1) dL_law_709 (by decide) ?_
  refine lr_iadd κ dL_law_710 ?_
  refine lr_sld κ h1 dL_law_711 ?_
  refine lr_callM κ (st := [.int v]) [.int (lXs κ (iv + 1).toNatClampNeg)] kw_3_227 tg_X6_pads (snd_X6_pads (lXs κ (iv + 1).toNatClampNeg) c t (fun (r : Int32) (cc : CS) (_ : MT) => v = r ∧ c9 = cc) (hm t _ (fun _ => ⟨rfl, rfl⟩))) (fun _ => rfl) rfl (Nat.le_of_ble_eq_true rfl) (Nat.le_of_ble_eq_true rfl) rfl (Nat.le_of_ble_eq_true rfl) dL_law_712 (fun w ω9 hk => ?_)
  obtain ⟨r, cc, t9, rfl, rfl, rfl, rfl⟩ := hk
  refine ⟨_, _, _, rfl, fun _ => rfl, rfl, ?_⟩
  exact lr_icmp_eq κ (tgt := 880) dL_law_715 rfl (fun _ => next _ _ _ hC9) (fun h => absurd rfl h)
set_option maxHeartbeats 1000000 in
theorem lc_18 (κ : LC) (h1 : vp_in (iv + 1) (lLn κ)) (h2 : vp_in (iv + 2) (lLn κ)) (hC : CI c) (next : ∀ c9 x9 t9, CI c9 → LW l κ 880 (lvv iv) [] c9 x9 c9 t9) : LW l κ 720 (lvv iv) [] c x c t := by
  obtain ⟨v, c9, hC9, hx, hm⟩ := ag_widen (lim := lXs κ (iv + 1).toNatClampNeg) (uu := lXs κ (iv + 2).toNatClampNeg) hC
  refine lr_aload_n κ 2 dL_law_720 rfl rfl ?_
  refine lr_aload_n κ 1 dL_law_721 rfl rfl ?_
  refine lr_iload_n κ 0 dL_law_722 rfl rfl ?_
  refine lr_iconst κ (v := 1) dL_law_723 (by decide) ?_
  refine lr_iadd κ dL_law_724 ?_
  refine lr_sld κ h1 dL_law_725 ?_
  refine lr_aload_n κ 1 dL_law_726 rfl rfl ?_
  refine lr_iload_n κ 0 dL_law_727 rfl rfl ?_
  refine lr_iconst κ (v := 2) dL_law_728 (by decide) ?_
  refine lr_iadd κ dL_law_729 ?_
  refine lr_sld κ h2 dL_law_730 ?_
  refine lr_callX κ (st := []) [.int (lXs κ (iv + 1).toNatClampNeg), .int (lXs κ (iv + 2).toNatClampNeg)] kw_2_165 tg_X5_widen (snd_X5_widen (lXs κ (iv + 1).toNatClampNeg) (lXs κ (iv + 2).toNatClampNeg) c x (fun (r : Int32) (cc : CS) (_ : XT) => v = r ∧ c9 = cc) (hx x _ (fun _ => ⟨rfl, rfl⟩))) (fun _ => rfl) rfl (Nat.le_of_ble_eq_true rfl) (Nat.le_of_ble_eq_true rfl) rfl (Nat.le_of_ble_eq_true rfl) dL_law_731 (fun w ω9 hk => ?_)
  obtain ⟨r, cc, x9, rfl, rfl, rfl, rfl⟩ := hk
  refine ⟨_, _, _, rfl, fun _ => rfl, rfl, ?_⟩
  refine lr_aload_n κ 3 dL_law_734 rfl rfl ?_
  refine lr_aload_n κ 1 dL_law_735 rfl rfl ?_
  refine lr_iload_n κ 0 dL_law_736 rfl rfl ?_
  refine lr_iconst κ (v := 1) dL_law_737 (by decide) ?_
  refine lr_iadd κ dL_law_738 ?_
  refine lr_sld κ h1 dL_law_739 ?_
  refine lr_aload_n κ 1 dL_law_740 rfl rfl ?_
  refine lr_iload_n κ 0 dL_law_741 rfl rfl ?_
  refine lr_iconst κ (v := 2) dL_law_742 (by decide) ?_
  refine lr_iadd κ dL_law_743 ?_
  refine lr_sld κ h2 dL_law_744 ?_
  refine lr_callM κ (st := [.int v]) [.int (lXs κ (iv + 1).toNatClampNeg), .int (lXs κ (iv + 2).toNatClampNeg)] kw_3_234 tg_X6_widen (snd_X6_widen (lXs κ (iv + 1).toNatClampNeg) (lXs κ (iv + 2).toNatClampNeg) c t (fun (r : Int32) (cc : CS) (_ : MT) => v = r ∧ c9 = cc) (hm t _ (fun _ => ⟨rfl, rfl⟩))) (fun _ => rfl) rfl (Nat.le_of_ble_eq_true rfl) (Nat.le_of_ble_eq_true rfl) rfl (Nat.le_of_ble_eq_true rfl) dL_law_745 (fun w ω9 hk => ?_)
  obtain ⟨r, cc, t9, rfl, rfl, rfl, rfl⟩ := hk
  refine ⟨_, _, _, rfl, fun _ => rfl, rfl, ?_⟩
  exact lr_icmp_eq κ (tgt := 880) dL_law_748 rfl (fun _ => next _ _ _ hC9) (fun h => absurd rfl h)
set_option maxHeartbeats 1000000 in
theorem lc_19 (κ : LC) (h1 : vp_in (iv + 1) (lLn κ)) (h2 : vp_in (iv + 2) (lLn κ)) (h3 : vp_in (iv + 3) (lLn κ)) (hC : CI c) (next : ∀ c9 x9 t9, CI c9 → LW l κ 880 (lvv iv) [] c9 x9 c9 t9) : LW l κ 753 (lvv iv) [] c x c t := by
  obtain ⟨v, c9, hC9, hx, hm⟩ := ag_widened (lim := lXs κ (iv + 1).toNatClampNeg) (uu := lXs κ (iv + 2).toNatClampNeg) (w := lXs κ (iv + 3).toNatClampNeg) hC
  refine lr_aload_n κ 2 dL_law_753 rfl rfl ?_
  refine lr_aload_n κ 1 dL_law_754 rfl rfl ?_
  refine lr_iload_n κ 0 dL_law_755 rfl rfl ?_
  refine lr_iconst κ (v := 1) dL_law_756 (by decide) ?_
  refine lr_iadd κ dL_law_757 ?_
  refine lr_sld κ h1 dL_law_758 ?_
  refine lr_aload_n κ 1 dL_law_759 rfl rfl ?_
  refine lr_iload_n κ 0 dL_law_760 rfl rfl ?_
  refine lr_iconst κ (v := 2) dL_law_761 (by decide) ?_
  refine lr_iadd κ dL_law_762 ?_
  refine lr_sld κ h2 dL_law_763 ?_
  refine lr_aload_n κ 1 dL_law_764 rfl rfl ?_
  refine lr_iload_n κ 0 dL_law_765 rfl rfl ?_
  refine lr_iconst κ (v := 3) dL_law_766 (by decide) ?_
  refine lr_iadd κ dL_law_767 ?_
  refine lr_sld κ h3 dL_law_768 ?_
  refine lr_callX κ (st := []) [.int (lXs κ (iv + 1).toNatClampNeg), .int (lXs κ (iv + 2).toNatClampNeg), .int (lXs κ (iv + 3).toNatClampNeg)] kw_2_202 tg_X5_widened (snd_X5_widened (lXs κ (iv + 1).toNatClampNeg) (lXs κ (iv + 2).toNatClampNeg) (lXs κ (iv + 3).toNatClampNeg) c x (fun (r : Int32) (cc : CS) (_ : XT) => v = r ∧ c9 = cc) (hx x _ (fun _ => ⟨rfl, rfl⟩))) (fun _ => rfl) rfl (Nat.le_of_ble_eq_true rfl) (Nat.le_of_ble_eq_true rfl) rfl (Nat.le_of_ble_eq_true rfl) dL_law_769 (fun w ω9 hk => ?_)
  obtain ⟨r, cc, x9, rfl, rfl, rfl, rfl⟩ := hk
  refine ⟨_, _, _, rfl, fun _ => rfl, rfl, ?_⟩
  refine lr_aload_n κ 3 dL_law_772 rfl rfl ?_
  refine lr_aload_n κ 1 dL_law_773 rfl rfl ?_
  refine lr_iload_n κ 0 dL_law_774 rfl rfl ?_
  refine lr_iconst κ (v := 1) dL_law_775 (by decide) ?_
  refine lr_iadd κ dL_law_776 ?_
  refine lr_sld κ h1 dL_law_777 ?_
  refine lr_aload_n κ 1 dL_law_778 rfl rfl ?_
  refine lr_iload_n κ 0 dL_law_779 rfl rfl ?_
  refine lr_iconst κ (v := 2) dL_law_780 (by decide) ?_
  refine lr_iadd κ dL_law_781 ?_
  refine lr_sld κ h2 dL_law_782 ?_
  refine lr_aload_n κ 1 dL_law_783 rfl rfl ?_
  refine lr_iload_n κ 0 dL_law_784 rfl rfl ?_
  refine lr_iconst κ (v := 3) dL_law_785 (by decide) ?_
  refine lr_iadd κ dL_law_786 ?_
  refine lr_sld κ h3 dL_law_787 ?_
  refine lr_callM κ (st := [.int v]) [.int (lXs κ (iv + 1).toNatClampNeg), .int (lXs κ (iv + 2).toNatClampNeg), .int (lXs κ (iv + 3).toNatClampNeg)] kw_4_10 tg_X6_widened (snd_X6_widened (lXs κ (iv + 1).toNatClampNeg) (lXs κ (iv + 2).toNatClampNeg) (lXs κ (iv + 3).toNatClampNeg) c t (fun (r : Int32) (cc : CS) (_ : MT) => v = r ∧ c9 = cc) (hm t _ (fun _ => ⟨rfl, rfl⟩))) (fun _ => rfl) rfl (Nat.le_of_ble_eq_true rfl) (Nat.le_of_ble_eq_true rfl) rfl (Nat.le_of_ble_eq_true rfl) dL_law_788 (fun w ω9 hk => ?_)
  obtain ⟨r, cc, t9, rfl, rfl, rfl, rfl⟩ := hk
  refine ⟨_, _, _, rfl, fun _ => rfl, rfl, ?_⟩
  exact lr_icmp_eq κ (tgt := 880) dL_law_791 rfl (fun _ => next _ _ _ hC9) (fun h => absurd rfl h)
set_option maxHeartbeats 1000000 in
theorem lc_20 (κ : LC) (h1 : vp_in (iv + 1) (lLn κ)) (hC : CI c) (next : ∀ c9 x9 t9, CI c9 → LW l κ 880 (lvv iv) [] c9 x9 c9 t9) : LW l κ 796 (lvv iv) [] c x c t := by
  obtain ⟨v, c9, hC9, hx, hm⟩ := ag_woken (ii := lXs κ (iv + 1).toNatClampNeg) hC
  refine lr_aload_n κ 2 dL_law_796 rfl rfl ?_
  refine lr_aload_n κ 1 dL_law_797 rfl rfl ?_
  refine lr_iload_n κ 0 dL_law_798 rfl rfl ?_
  refine lr_iconst κ (v := 1) dL_law_799 (by decide) ?_
  refine lr_iadd κ dL_law_800 ?_
  refine lr_sld κ h1 dL_law_801 ?_
  refine lr_callX κ (st := []) [.int (lXs κ (iv + 1).toNatClampNeg)] kw_2_206 tg_X5_woken (snd_X5_woken (lXs κ (iv + 1).toNatClampNeg) c x (fun (r : Int32) (cc : CS) (_ : XT) => v = r ∧ c9 = cc) (hx x _ (fun _ => ⟨rfl, rfl⟩))) (fun _ => rfl) rfl (Nat.le_of_ble_eq_true rfl) (Nat.le_of_ble_eq_true rfl) rfl (Nat.le_of_ble_eq_true rfl) dL_law_802 (fun w ω9 hk => ?_)
  obtain ⟨r, cc, x9, rfl, rfl, rfl, rfl⟩ := hk
  refine ⟨_, _, _, rfl, fun _ => rfl, rfl, ?_⟩
  refine lr_aload_n κ 3 dL_law_805 rfl rfl ?_
  refine lr_aload_n κ 1 dL_law_806 rfl rfl ?_
  refine lr_iload_n κ 0 dL_law_807 rfl rfl ?_
  refine lr_iconst κ (v := 1) dL_law_808 (by decide) ?_
  refine lr_iadd κ dL_law_809 ?_
  refine lr_sld κ h1 dL_law_810 ?_
  refine lr_callM κ (st := [.int v]) [.int (lXs κ (iv + 1).toNatClampNeg)] kw_4_14 tg_X6_woken (snd_X6_woken (lXs κ (iv + 1).toNatClampNeg) c t (fun (r : Int32) (cc : CS) (_ : MT) => v = r ∧ c9 = cc) (hm t _ (fun _ => ⟨rfl, rfl⟩))) (fun _ => rfl) rfl (Nat.le_of_ble_eq_true rfl) (Nat.le_of_ble_eq_true rfl) rfl (Nat.le_of_ble_eq_true rfl) dL_law_811 (fun w ω9 hk => ?_)
  obtain ⟨r, cc, t9, rfl, rfl, rfl, rfl⟩ := hk
  refine ⟨_, _, _, rfl, fun _ => rfl, rfl, ?_⟩
  exact lr_icmp_eq κ (tgt := 880) dL_law_814 rfl (fun _ => next _ _ _ hC9) (fun h => absurd rfl h)
set_option maxHeartbeats 1000000 in
theorem lc_21 (κ : LC) (h1 : vp_in (iv + 1) (lLn κ)) (hC : CI c) (next : ∀ c9 x9 t9, CI c9 → LW l κ 880 (lvv iv) [] c9 x9 c9 t9) : LW l κ 819 (lvv iv) [] c x c t := by
  obtain ⟨v, c9, hC9, hx, hm⟩ := ag_wokenFall (what := lXs κ (iv + 1).toNatClampNeg) hC
  refine lr_aload_n κ 2 dL_law_819 rfl rfl ?_
  refine lr_aload_n κ 1 dL_law_820 rfl rfl ?_
  refine lr_iload_n κ 0 dL_law_821 rfl rfl ?_
  refine lr_iconst κ (v := 1) dL_law_822 (by decide) ?_
  refine lr_iadd κ dL_law_823 ?_
  refine lr_sld κ h1 dL_law_824 ?_
  refine lr_callX κ (st := []) [.int (lXs κ (iv + 1).toNatClampNeg)] kw_2_238 tg_X5_wokenFall (snd_X5_wokenFall (lXs κ (iv + 1).toNatClampNeg) c x (fun (r : Int64) (cc : CS) (_ : XT) => v = r ∧ c9 = cc) (hx x _ (fun _ => ⟨rfl, rfl⟩))) (fun _ => rfl) rfl (Nat.le_of_ble_eq_true rfl) (Nat.le_of_ble_eq_true rfl) rfl (Nat.le_of_ble_eq_true rfl) dL_law_825 (fun w ω9 hk => ?_)
  obtain ⟨r, cc, x9, rfl, rfl, rfl, rfl⟩ := hk
  refine ⟨_, _, _, rfl, fun _ => rfl, rfl, ?_⟩
  refine lr_aload_n κ 3 dL_law_828 rfl rfl ?_
  refine lr_aload_n κ 1 dL_law_829 rfl rfl ?_
  refine lr_iload_n κ 0 dL_law_830 rfl rfl ?_
  refine lr_iconst κ (v := 1) dL_law_831 (by decide) ?_
  refine lr_iadd κ dL_law_832 ?_
  refine lr_sld κ h1 dL_law_833 ?_
  refine lr_callM κ (st := [.long v]) [.int (lXs κ (iv + 1).toNatClampNeg)] kw_4_35 tg_X6_wokenFall (snd_X6_wokenFall (lXs κ (iv + 1).toNatClampNeg) c t (fun (r : Int64) (cc : CS) (_ : MT) => v = r ∧ c9 = cc) (hm t _ (fun _ => ⟨rfl, rfl⟩))) (fun _ => rfl) rfl (Nat.le_of_ble_eq_true rfl) (Nat.le_of_ble_eq_true rfl) rfl (Nat.le_of_ble_eq_true rfl) dL_law_834 (fun w ω9 hk => ?_)
  obtain ⟨r, cc, t9, rfl, rfl, rfl, rfl⟩ := hk
  refine ⟨_, _, _, rfl, fun _ => rfl, rfl, ?_⟩
  exact lr_lcmp_eq κ (tgt := 880) dL_law_837 dL_law_838 rfl (fun _ => next _ _ _ hC9) (fun h => absurd rfl h)
set_option maxHeartbeats 1000000 in
theorem lc_22 (κ : LC) (h1 : vp_in (iv + 1) (lLn κ)) (hC : CI c) (next : ∀ c9 x9 t9, CI c9 → LW l κ 880 (lvv iv) [] c9 x9 c9 t9) : LW l κ 843 (lvv iv) [] c x c t := by
  obtain ⟨v, c9, hC9, hx, hm⟩ := ag_count (what := lXs κ (iv + 1).toNatClampNeg) hC
  refine lr_aload_n κ 2 dL_law_843 rfl rfl ?_
  refine lr_aload_n κ 1 dL_law_844 rfl rfl ?_
  refine lr_iload_n κ 0 dL_law_845 rfl rfl ?_
  refine lr_iconst κ (v := 1) dL_law_846 (by decide) ?_
  refine lr_iadd κ dL_law_847 ?_
  refine lr_sld κ h1 dL_law_848 ?_
  refine lr_callX κ (st := []) [.int (lXs κ (iv + 1).toNatClampNeg)] kw_3_2 tg_X5_count (snd_X5_count (lXs κ (iv + 1).toNatClampNeg) c x (fun (r : Int32) (cc : CS) (_ : XT) => v = r ∧ c9 = cc) (hx x _ (fun _ => ⟨rfl, rfl⟩))) (fun _ => rfl) rfl (Nat.le_of_ble_eq_true rfl) (Nat.le_of_ble_eq_true rfl) rfl (Nat.le_of_ble_eq_true rfl) dL_law_849 (fun w ω9 hk => ?_)
  obtain ⟨r, cc, x9, rfl, rfl, rfl, rfl⟩ := hk
  refine ⟨_, _, _, rfl, fun _ => rfl, rfl, ?_⟩
  refine lr_aload_n κ 3 dL_law_852 rfl rfl ?_
  refine lr_aload_n κ 1 dL_law_853 rfl rfl ?_
  refine lr_iload_n κ 0 dL_law_854 rfl rfl ?_
  refine lr_iconst κ (v := 1) dL_law_855 (by decide) ?_
  refine lr_iadd κ dL_law_856 ?_
  refine lr_sld κ h1 dL_law_857 ?_
  refine lr_callM κ (st := [.int v]) [.int (lXs κ (iv + 1).toNatClampNeg)] kw_4_39 tg_X6_count (snd_X6_count (lXs κ (iv + 1).toNatClampNeg) c t (fun (r : Int32) (cc : CS) (_ : MT) => v = r ∧ c9 = cc) (hm t _ (fun _ => ⟨rfl, rfl⟩))) (fun _ => rfl) rfl (Nat.le_of_ble_eq_true rfl) (Nat.le_of_ble_eq_true rfl) rfl (Nat.le_of_ble_eq_true rfl) dL_law_858 (fun w ω9 hk => ?_)
  obtain ⟨r, cc, t9, rfl, rfl, rfl, rfl⟩ := hk
  refine ⟨_, _, _, rfl, fun _ => rfl, rfl, ?_⟩
  exact lr_icmp_eq κ (tgt := 880) dL_law_861 rfl (fun _ => next _ _ _ hC9) (fun h => absurd rfl h)
set_option maxHeartbeats 1000000 in
theorem lc_23 (κ : LC) (hC : CI c) (next : ∀ c9 x9 t9, CI c9 → LW l κ 880 (lvv iv) [] c9 x9 c9 t9) : LW l κ 866 (lvv iv) [] c x c t := by
  obtain ⟨v, c9, hC9, hx, hm⟩ := ag_digest  hC
  refine lr_aload_n κ 2 dL_law_866 rfl rfl ?_
  refine lr_callX κ (st := []) [] kw_3_6 tg_X5_digest (snd_X5_digest  c x (fun (r : Int64) (cc : CS) (_ : XT) => v = r ∧ c9 = cc) (hx x _ (fun _ => ⟨rfl, rfl⟩))) (fun _ => rfl) rfl (Nat.le_of_ble_eq_true rfl) (Nat.le_of_ble_eq_true rfl) rfl (Nat.le_of_ble_eq_true rfl) dL_law_867 (fun w ω9 hk => ?_)
  obtain ⟨r, cc, x9, rfl, rfl, rfl, rfl⟩ := hk
  refine ⟨_, _, _, rfl, fun _ => rfl, rfl, ?_⟩
  refine lr_aload_n κ 3 dL_law_870 rfl rfl ?_
  refine lr_callM κ (st := [.long v]) [] kw_4_43 tg_X6_digest (snd_X6_digest  c t (fun (r : Int64) (cc : CS) (_ : MT) => v = r ∧ c9 = cc) (hm t _ (fun _ => ⟨rfl, rfl⟩))) (fun _ => rfl) rfl (Nat.le_of_ble_eq_true rfl) (Nat.le_of_ble_eq_true rfl) rfl (Nat.le_of_ble_eq_true rfl) dL_law_871 (fun w ω9 hk => ?_)
  obtain ⟨r, cc, t9, rfl, rfl, rfl, rfl⟩ := hk
  refine ⟨_, _, _, rfl, fun _ => rfl, rfl, ?_⟩
  exact lr_lcmp_eq κ (tgt := 880) dL_law_874 dL_law_875 rfl (fun _ => next _ _ _ hC9) (fun h => absurd rfl h)
set_option maxHeartbeats 2000000 in
theorem l_loop (κ : LC) (hL : lLn κ ≤ 2560) : ∀ (n i : Nat) (c : CS) (x : XT) (t : MT), CI c → lLn κ < i + 5 * n → i ≤ 3000 → LW l κ 18 (lvv (nI i)) [] c x c t := by
  intro n
  have e5 : ∀ i, i ≤ 3000 → (nI (lLn κ) - (5 : Int32)).toInt = (lLn κ : Int) - 5 := fun i _ => i_sub (nI_toInt (by omega)) (show (5 : Int32).toInt = 5 by decide) (by omega) (by omega)
  have fin : ∀ (i : Nat) (c : CS) (x : XT) (t : MT), LW l κ 886 (lvv (nI i)) [] c x c t := fun i c x t => lr_iconst κ (v := 1) dL_law_886 (by decide) (lr_end κ dL_law_887)
  have head : ∀ (i : Nat) (c : CS) (x : XT) (t : MT), i ≤ 3000 → (i + 5 ≤ lLn κ → LW l κ 26 (lvv (nI i)) [] c x c t) → LW l κ 18 (lvv (nI i)) [] c x c t := fun i c x t hi k => by
    refine lr_iload_n κ 0 dL_law_18 rfl rfl ?_
    refine lr_aload_n κ 1 dL_law_19 rfl rfl ?_
    refine lr_slen κ dL_law_20 ?_
    refine lr_iconst κ (v := 5) dL_law_21 (by decide) ?_
    refine lr_isub κ dL_law_22 ?_
    refine lr_icmp_gt κ (tgt := 886) dL_law_23 rfl (fun _ => fin i c x t) (fun h => k ?_)
    refine Nat.le_of_not_lt (fun q => h ?_)
    show nI (lLn κ) - (5 : Int32) < nI i
    rw [Int32.lt_iff_toInt_lt, e5 i hi, nI_toInt (by omega)]
    omega
  induction n with
  | zero =>
    intro i c x t hC hn hi
    exact head i c x t hi (fun h => by omega)
  | succ n ih =>
    intro i c x t hC hn hi
    refine head i c x t hi (fun h => ?_)
    have hk : ∀ k : Nat, k < 5 → vp_in (nI i + nI k) (lLn κ) := fun k hk => by
      rw [nI_add]; exact vi (by omega) (by omega)
    have h0 : vp_in (nI i) (lLn κ) := vi (by omega) (by omega)
    have h1 : vp_in (nI i + 1) (lLn κ) := hk 1 (by omega)
    have h2 : vp_in (nI i + 2) (lLn κ) := hk 2 (by omega)
    have h3 : vp_in (nI i + 3) (lLn κ) := hk 3 (by omega)
    have h4 : vp_in (nI i + 4) (lLn κ) := hk 4 (by omega)
    have next : ∀ c9 x9 t9, CI c9 → LW l κ 880 (lvv (nI i)) [] c9 x9 c9 t9 := fun c9 x9 t9 hC9 => by
      refine lr_iinc κ 0 [0, 1, 2, 3] (v := nI (i + 5)) (lv' := lvv (nI (i + 5))) dL_law_880 rfl ?_ (by decide) rfl ?_
      · exact nI_add i 5
      · exact lr_goto κ (tgt := 18) dL_law_883 rfl (ih (i + 5) c9 x9 t9 hC9 (by omega) (by omega))
    refine lr_aload_n κ 1 dL_law_26 rfl rfl ?_
    refine lr_iload_n κ 0 dL_law_27 rfl rfl ?_
    refine lr_sld κ h0 dL_law_28 ?_
    refine lr_bipush κ (v := 31) dL_law_29 (by decide) ?_
    refine lr_iand κ dL_law_31 ?_
    refine lr_tsw (pc := 32) κ 24 (fun j => [144, 167, 220, 253, 302, 335, 369, 382, 416, 460, 493, 516, 549, 583, 596, 630, 643, 697, 720, 753, 796, 819, 843, 866].getD j 0) 880 dL_law_32 (by decide +kernel) (by decide +kernel) (by decide +kernel) (by decide +kernel) (fun j hj => ?_) (next c x t hC)
    rcases (show j = 0 ∨ j = 1 ∨ j = 2 ∨ j = 3 ∨ j = 4 ∨ j = 5 ∨ j = 6 ∨ j = 7 ∨ j = 8 ∨ j = 9 ∨ j = 10 ∨ j = 11 ∨ j = 12 ∨ j = 13 ∨ j = 14 ∨ j = 15 ∨ j = 16 ∨ j = 17 ∨ j = 18 ∨ j = 19 ∨ j = 20 ∨ j = 21 ∨ j = 22 ∨ j = 23 by omega) with rfl | rfl | rfl | rfl | rfl | rfl | rfl | rfl | rfl | rfl | rfl | rfl | rfl | rfl | rfl | rfl | rfl | rfl | rfl | rfl | rfl | rfl | rfl | rfl
    · exact lc_0 κ h1 hC next
    · exact lc_1 κ h1 h2 h3 h4 hC next
    · exact lc_2 κ h1 h2 hC next
    · exact lc_3 κ h1 h2 hC next
    · exact lc_4 κ h1 h2 hC next
    · exact lc_5 κ h1 h2 hC next
    · exact lc_6 κ hC next
    · exact lc_7 κ h1 h2 hC next
    · exact lc_8 κ h1 h2 h3 hC next
    · exact lc_9 κ h1 h2 hC next
    · exact lc_10 κ h1 hC next
    · exact lc_11 κ h1 h2 hC next
    · exact lc_12 κ h1 h2 hC next
    · exact lc_13 κ hC next
    · exact lc_14 κ h1 h2 hC next
    · exact lc_15 κ hC next
    · exact lc_16 κ h1 h2 h3 h4 hC next
    · exact lc_17 κ h1 hC next
    · exact lc_18 κ h1 h2 hC next
    · exact lc_19 κ h1 h2 h3 hC next
    · exact lc_20 κ h1 hC next
    · exact lc_21 κ h1 hC next
    · exact lc_22 κ h1 hC next
    · exact lc_23 κ hC next
end LCASE
