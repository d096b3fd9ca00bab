/-! the law: a case each -/
def i_law (nm : String) : er_I := (⟨"EscapeRouterLaw", nm, "([I)Z"⟩, code, 4, ret, room_1)
theorem er_int (v : Int32) : er_in v.toInt := ⟨by have := Int32.le_toInt v; omega, by have := Int32.toInt_lt v; omega⟩
section ERLAW
variable {K : er_K} {nm : String} {m : er_M} {pc : Nat} {ls : List (Option er_V)} {st : List er_V} {Z : List Frame → Array Value → State → State → Prop}
theorem er_icmpS {i : er_I} {uc us : Nat} {sh : er_Sh} {x off : Int} {tgt : Nat} (ht : (pc : Int) + off = (tgt : Int)) (hd : decode i.2.1 pc = .ok (.if_icmp .eq off, 3)) (kt : er_WP K i uc us sh m tgt ls st Z) : er_WP K i uc us sh m pc ls (.inl x :: .inl x :: st) Z := by
  intro p e s mm args below meth c H locs la C hz hW hS hl
  exact lv_icmp_eq C.1 C.2.1 hd ht (fun _ => kt p e s mm args below meth c H locs la C hz hW hS hl) (fun h => absurd rfl h)
theorem er_lc {j : er_I} {idx n b ci N uc us : Nat} {As : List er_V} {rs : List (Option Nat)} {stk : List er_V} (hM : Cond.methodLink (i_law nm).1.cls idx j.1 ∈ er_tb ∧ Cond.instanceMethod j.1 ∈ er_tb ∧ Cond.selects j.1.cls j.1 j.1 ∈ er_tb) (hw : er_MW j) (hm : er_MD j n) (hz : er_z j) (hn : As.length = n) (h8 : st.length ≤ 8) (hb : er_at er_SH b = some (ci + 5, N, rs)) (hcl : (er_cl[ci]?).map (fun q => q.1) = some j.1.cls) (hR : er_fits (i_law nm) j) (hst : stk = As.reverse ++ .inr b :: st) (hu : uc ≤ (i_law nm).2.2.2.2.cells ∧ us ≤ (i_law nm).2.2.2.2.slots) (hd : decode code pc = .ok (.invokevirtual idx, 3)) (hS : er_SI K j (.inr b :: As) m (fun x m1 => er_WP K (i_law nm) uc us er_SH m1 (pc + 3) ls (.inl x :: st) Z)) : er_WP K (i_law nm) uc us er_SH m pc ls stk Z := by
  refine er_callV (i := (i_law nm)) hM hw hm hst hn h8 hb hcl hR (by rw [hz.1, hz.2]; exact hu) hd hS (fun v sh1 m1 hq => ?_)
  obtain ⟨rfl, x, rfl, hq⟩ := hq
  rw [hz.1, hz.2]
  exact hq
theorem er_MI.kc {b : er_Bo} {H : List er_Bo} {n : Nat} {f : Int → Int} {m' : er_M} (h : er_MI m b H n f) (hk : er_kp er_cf m m') : er_MI m' b H n f := h.kp hk (fun c k a z => by unfold er_cf; omega) (by unfold er_cf; omega) (by unfold er_cf; omega)
theorem er_CI.km {b : er_Bo} {H : List er_Bo} {n : Nat} {f : Int → Int} {c : Int} {m' : er_M} (h : er_CI m b H n f c) (hk : er_kp er_mf m m') : er_CI m' b H n f c := h.kq hk (fun q k z => by unfold er_mf; omega) (h.1.2.2.2.kp hk (by unfold er_mf; omega) (fun k => by unfold er_mf; omega))
/-- the law's frame at the turn that begins at i -/
abbrev er_LW (nm : String) (K : er_K) (Z : List Frame → Array Value → State → State → Prop) (i : Nat) (pc : Nat) (m : er_M) : Prop := er_WP K (i_law nm) 99 14464 er_SH m pc [some (.inr 0), some (.inr 1), some (.inr 83), some (.inl (i : Int))] [] Z
/-- a turn that began so ends so -/
def er_TN (nm : String) (K : er_K) (Z : List Frame → Array Value → State → State → Prop) (i : Nat) (c : Int) : Prop := ∀ m' b' H' n' f', er_CI m' b' H' n' f' (c + 30000) → er_MI m' b' H' n' f' → er_LW nm K Z i 770 m'

theorem er_case_0 {i n : Nat} {b : er_Bo} {H : List er_Bo} {f : Int → Int} {c : Int} (hc : er_CI m b H n f c) (hm : er_MI m b H n f) (hc0 : c < 1998900000) (hi : i + 5 ≤ K.2.2.2.2.2.1) (hL : K.2.2.2.2.2.1 ≤ 2147483648) (hn : er_TN nm K Z i c) : er_LW nm K Z i 152 m := by
  refine er_aload_n rfl rfl d_L_law_152 ?_
  refine er_aload_n rfl rfl d_L_law_153 ?_
  refine er_iload_n rfl rfl d_L_law_154 ?_
  refine er_iconst d_L_law_155 ?_
  refine er_iadd d_L_law_156 ?_
  refine er_sld (by omega) (by omega) hL d_L_law_157 ?_
  refine er_lc (b := 1) (As := [.inl (K.2.2.2.2.2.2 ((i : Int) + 1).toNat).toInt]) (st := []) ml_L_13 mw_R_appendCharacter md_R_appendCharacter ⟨rfl, rfl⟩ rfl (Nat.le_of_ble_eq_true rfl) sh_1 rfl ⟨Nat.le_of_ble_eq_true rfl, Nat.le_of_ble_eq_true rfl⟩ rfl ⟨Nat.le_of_ble_eq_true rfl, Nat.le_of_ble_eq_true rfl⟩ d_L_law_158 (sp_R_append hc (er_int _) (fun m1 a ha q1 k1 => ?_))
  refine er_aload_n rfl rfl d_L_law_161 ?_
  refine er_aload_n rfl rfl d_L_law_162 ?_
  refine er_iload_n rfl rfl d_L_law_163 ?_
  refine er_iconst d_L_law_164 ?_
  refine er_iadd d_L_law_165 ?_
  refine er_sld (by omega) (by omega) hL d_L_law_166 ?_
  refine er_lc (b := 83) (As := [.inl (K.2.2.2.2.2.2 ((i : Int) + 1).toNat).toInt]) (st := [.inl a.1]) ml_L_17 mw_M_appendCharacter md_M_appendCharacter ⟨rfl, rfl⟩ rfl (Nat.le_of_ble_eq_true rfl) sh_83 rfl ⟨Nat.le_of_ble_eq_true rfl, Nat.le_of_ble_eq_true rfl⟩ rfl ⟨Nat.le_of_ble_eq_true rfl, Nat.le_of_ble_eq_true rfl⟩ d_L_law_167 (sp_M_append (hm.kc k1) (er_int _) (fun m2 a2 ha2 q2 k2 => ?_))
  have e2 : a2 = a := ha2.trans ha.symm
  subst e2
  refine er_icmpS (tgt := 770) (by decide) d_L_law_170 ?_
  exact hn m2 _ _ _ _ ((q1.km k2).up (by omega)) q2
theorem er_case_1 {i n : Nat} {b : er_Bo} {H : List er_Bo} {f : Int → Int} {c : Int} (hc : er_CI m b H n f c) (hm : er_MI m b H n f) (hc0 : c < 1998900000) (hi : i + 5 ≤ K.2.2.2.2.2.1) (hL : K.2.2.2.2.2.1 ≤ 2147483648) (hn : er_TN nm K Z i c) : er_LW nm K Z i 175 m := by
  refine er_aload_n rfl rfl d_L_law_175 ?_
  refine er_lc (b := 1) (As := []) (st := []) ml_L_18 mw_R_clearText md_R_clearText ⟨rfl, rfl⟩ rfl (Nat.le_of_ble_eq_true rfl) sh_1 rfl ⟨Nat.le_of_ble_eq_true rfl, Nat.le_of_ble_eq_true rfl⟩ rfl ⟨Nat.le_of_ble_eq_true rfl, Nat.le_of_ble_eq_true rfl⟩ d_L_law_176 (sp_R_clearText hc (fun m1 q1 k1 => ?_))
  refine er_aload_n rfl rfl d_L_law_179 ?_
  refine er_lc (b := 83) (As := []) (st := [.inl (n : Int)]) ml_L_22 mw_M_clearText md_M_clearText ⟨rfl, rfl⟩ rfl (Nat.le_of_ble_eq_true rfl) sh_83 rfl ⟨Nat.le_of_ble_eq_true rfl, Nat.le_of_ble_eq_true rfl⟩ rfl ⟨Nat.le_of_ble_eq_true rfl, Nat.le_of_ble_eq_true rfl⟩ d_L_law_180 (sp_M_clearText (hm.kc k1) (fun m2 q2 k2 => ?_))
  refine er_icmpS (tgt := 770) (by decide) d_L_law_183 ?_
  exact hn m2 _ _ _ _ ((q1.km k2).up (by omega)) q2
theorem er_case_2 {i n : Nat} {b : er_Bo} {H : List er_Bo} {f : Int → Int} {c : Int} (hc : er_CI m b H n f c) (hm : er_MI m b H n f) (hc0 : c < 1998900000) (hi : i + 5 ≤ K.2.2.2.2.2.1) (hL : K.2.2.2.2.2.1 ≤ 2147483648) (hn : er_TN nm K Z i c) : er_LW nm K Z i 188 m := by
  refine er_aload_n rfl rfl d_L_law_188 ?_
  refine er_lc (b := 1) (As := []) (st := []) ml_L_23 mw_R_loadGrid md_R_loadGrid ⟨rfl, rfl⟩ rfl (Nat.le_of_ble_eq_true rfl) sh_1 rfl ⟨Nat.le_of_ble_eq_true rfl, Nat.le_of_ble_eq_true rfl⟩ rfl ⟨Nat.le_of_ble_eq_true rfl, Nat.le_of_ble_eq_true rfl⟩ d_L_law_189 (sp_R_loadGrid hc (fun m1 a ha q1 k1 => ?_))
  refine er_aload_n rfl rfl d_L_law_192 ?_
  refine er_lc (b := 83) (As := []) (st := [.inl a.1]) ml_L_26 mw_M_loadGrid md_M_loadGrid ⟨rfl, rfl⟩ rfl (Nat.le_of_ble_eq_true rfl) sh_83 rfl ⟨Nat.le_of_ble_eq_true rfl, Nat.le_of_ble_eq_true rfl⟩ rfl ⟨Nat.le_of_ble_eq_true rfl, Nat.le_of_ble_eq_true rfl⟩ d_L_law_193 (sp_M_loadGrid (hm.kc k1)  (fun m2 a2 ha2 q2 k2 => ?_))
  have e2 : a2 = a := ha2.trans ha.symm
  subst e2
  refine er_icmpS (tgt := 770) (by decide) d_L_law_196 ?_
  exact hn m2 _ _ _ _ ((q1.km k2).up (by omega)) q2
theorem er_case_3 {i n : Nat} {b : er_Bo} {H : List er_Bo} {f : Int → Int} {c : Int} (hc : er_CI m b H n f c) (hm : er_MI m b H n f) (hc0 : c < 1998900000) (hi : i + 5 ≤ K.2.2.2.2.2.1) (hL : K.2.2.2.2.2.1 ≤ 2147483648) (hn : er_TN nm K Z i c) : er_LW nm K Z i 201 m := by
  refine er_aload_n rfl rfl d_L_law_201 ?_
  refine er_aload_n rfl rfl d_L_law_202 ?_
  refine er_iload_n rfl rfl d_L_law_203 ?_
  refine er_iconst d_L_law_204 ?_
  refine er_iadd d_L_law_205 ?_
  refine er_sld (by omega) (by omega) hL d_L_law_206 ?_
  refine er_aload_n rfl rfl d_L_law_207 ?_
  refine er_iload_n rfl rfl d_L_law_208 ?_
  refine er_iconst d_L_law_209 ?_
  refine er_iadd d_L_law_210 ?_
  refine er_sld (by omega) (by omega) hL d_L_law_211 ?_
  refine er_aload_n rfl rfl d_L_law_212 ?_
  refine er_iload_n rfl rfl d_L_law_213 ?_
  refine er_iconst d_L_law_214 ?_
  refine er_iadd d_L_law_215 ?_
  refine er_sld (by omega) (by omega) hL d_L_law_216 ?_
  refine er_lc (b := 1) (As := [.inl (K.2.2.2.2.2.2 ((i : Int) + 1).toNat).toInt, .inl (K.2.2.2.2.2.2 ((i : Int) + 2).toNat).toInt, .inl (K.2.2.2.2.2.2 ((i : Int) + 3).toNat).toInt]) (st := []) ml_L_27 mw_R_setKind md_R_setKind ⟨rfl, rfl⟩ rfl (Nat.le_of_ble_eq_true rfl) sh_1 rfl ⟨Nat.le_of_ble_eq_true rfl, Nat.le_of_ble_eq_true rfl⟩ rfl ⟨Nat.le_of_ble_eq_true rfl, Nat.le_of_ble_eq_true rfl⟩ d_L_law_217 (sp_R_setKind hc (er_int _) (er_int _) (er_int _) (fun m1 a ha q1 k1 => ?_))
  refine er_aload_n rfl rfl d_L_law_220 ?_
  refine er_aload_n rfl rfl d_L_law_221 ?_
  refine er_iload_n rfl rfl d_L_law_222 ?_
  refine er_iconst d_L_law_223 ?_
  refine er_iadd d_L_law_224 ?_
  refine er_sld (by omega) (by omega) hL d_L_law_225 ?_
  refine er_aload_n rfl rfl d_L_law_226 ?_
  refine er_iload_n rfl rfl d_L_law_227 ?_
  refine er_iconst d_L_law_228 ?_
  refine er_iadd d_L_law_229 ?_
  refine er_sld (by omega) (by omega) hL d_L_law_230 ?_
  refine er_aload_n rfl rfl d_L_law_231 ?_
  refine er_iload_n rfl rfl d_L_law_232 ?_
  refine er_iconst d_L_law_233 ?_
  refine er_iadd d_L_law_234 ?_
  refine er_sld (by omega) (by omega) hL d_L_law_235 ?_
  refine er_lc (b := 83) (As := [.inl (K.2.2.2.2.2.2 ((i : Int) + 1).toNat).toInt, .inl (K.2.2.2.2.2.2 ((i : Int) + 2).toNat).toInt, .inl (K.2.2.2.2.2.2 ((i : Int) + 3).toNat).toInt]) (st := [.inl a.1]) ml_L_31 mw_M_setKind md_M_setKind ⟨rfl, rfl⟩ rfl (Nat.le_of_ble_eq_true rfl) sh_83 rfl ⟨Nat.le_of_ble_eq_true rfl, Nat.le_of_ble_eq_true rfl⟩ rfl ⟨Nat.le_of_ble_eq_true rfl, Nat.le_of_ble_eq_true rfl⟩ d_L_law_236 (sp_M_setKind (hm.kc k1) (er_int _) (er_int _) (er_int _) (fun m2 a2 ha2 q2 k2 => ?_))
  have e2 : a2 = a := ha2.trans ha.symm
  subst e2
  refine er_icmpS (tgt := 770) (by decide) d_L_law_239 ?_
  exact hn m2 _ _ _ _ ((q1.km k2).up (by omega)) q2
theorem er_case_4 {i n : Nat} {b : er_Bo} {H : List er_Bo} {f : Int → Int} {c : Int} (hc : er_CI m b H n f c) (hm : er_MI m b H n f) (hc0 : c < 1998900000) (hi : i + 5 ≤ K.2.2.2.2.2.1) (hL : K.2.2.2.2.2.1 ≤ 2147483648) (hn : er_TN nm K Z i c) : er_LW nm K Z i 244 m := by
  refine er_aload_n rfl rfl d_L_law_244 ?_
  refine er_aload_n rfl rfl d_L_law_245 ?_
  refine er_iload_n rfl rfl d_L_law_246 ?_
  refine er_iconst d_L_law_247 ?_
  refine er_iadd d_L_law_248 ?_
  refine er_sld (by omega) (by omega) hL d_L_law_249 ?_
  refine er_lc (b := 1) (As := [.inl (K.2.2.2.2.2.2 ((i : Int) + 1).toNat).toInt]) (st := []) ml_L_32 mw_R_setChannelCapacity md_R_setChannelCapacity ⟨rfl, rfl⟩ rfl (Nat.le_of_ble_eq_true rfl) sh_1 rfl ⟨Nat.le_of_ble_eq_true rfl, Nat.le_of_ble_eq_true rfl⟩ rfl ⟨Nat.le_of_ble_eq_true rfl, Nat.le_of_ble_eq_true rfl⟩ d_L_law_250 (sp_R_setChan hc (er_int _) (fun m1 a ha q1 k1 => ?_))
  refine er_aload_n rfl rfl d_L_law_253 ?_
  refine er_aload_n rfl rfl d_L_law_254 ?_
  refine er_iload_n rfl rfl d_L_law_255 ?_
  refine er_iconst d_L_law_256 ?_
  refine er_iadd d_L_law_257 ?_
  refine er_sld (by omega) (by omega) hL d_L_law_258 ?_
  refine er_lc (b := 83) (As := [.inl (K.2.2.2.2.2.2 ((i : Int) + 1).toNat).toInt]) (st := [.inl a.1]) ml_L_35 mw_M_setChannelCapacity md_M_setChannelCapacity ⟨rfl, rfl⟩ rfl (Nat.le_of_ble_eq_true rfl) sh_83 rfl ⟨Nat.le_of_ble_eq_true rfl, Nat.le_of_ble_eq_true rfl⟩ rfl ⟨Nat.le_of_ble_eq_true rfl, Nat.le_of_ble_eq_true rfl⟩ d_L_law_259 (sp_M_setChan (hm.kc k1) (er_int _) (fun m2 a2 ha2 q2 k2 => ?_))
  have e2 : a2 = a := ha2.trans ha.symm
  subst e2
  refine er_icmpS (tgt := 770) (by decide) d_L_law_262 ?_
  exact hn m2 _ _ _ _ ((q1.km k2).up (by omega)) q2
theorem er_case_5 {i n : Nat} {b : er_Bo} {H : List er_Bo} {f : Int → Int} {c : Int} (hc : er_CI m b H n f c) (hm : er_MI m b H n f) (hc0 : c < 1998900000) (hi : i + 5 ≤ K.2.2.2.2.2.1) (hL : K.2.2.2.2.2.1 ≤ 2147483648) (hn : er_TN nm K Z i c) : er_LW nm K Z i 267 m := by
  refine er_aload_n rfl rfl d_L_law_267 ?_
  refine er_aload_n rfl rfl d_L_law_268 ?_
  refine er_iload_n rfl rfl d_L_law_269 ?_
  refine er_iconst d_L_law_270 ?_
  refine er_iadd d_L_law_271 ?_
  refine er_sld (by omega) (by omega) hL d_L_law_272 ?_
  refine er_lc (b := 1) (As := [.inl (K.2.2.2.2.2.2 ((i : Int) + 1).toNat).toInt]) (st := []) ml_L_36 mw_R_setTileCapacity md_R_setTileCapacity ⟨rfl, rfl⟩ rfl (Nat.le_of_ble_eq_true rfl) sh_1 rfl ⟨Nat.le_of_ble_eq_true rfl, Nat.le_of_ble_eq_true rfl⟩ rfl ⟨Nat.le_of_ble_eq_true rfl, Nat.le_of_ble_eq_true rfl⟩ d_L_law_273 (sp_R_setTile hc (er_int _) (fun m1 a ha q1 k1 => ?_))
  refine er_aload_n rfl rfl d_L_law_276 ?_
  refine er_aload_n rfl rfl d_L_law_277 ?_
  refine er_iload_n rfl rfl d_L_law_278 ?_
  refine er_iconst d_L_law_279 ?_
  refine er_iadd d_L_law_280 ?_
  refine er_sld (by omega) (by omega) hL d_L_law_281 ?_
  refine er_lc (b := 83) (As := [.inl (K.2.2.2.2.2.2 ((i : Int) + 1).toNat).toInt]) (st := [.inl a.1]) ml_L_39 mw_M_setTileCapacity md_M_setTileCapacity ⟨rfl, rfl⟩ rfl (Nat.le_of_ble_eq_true rfl) sh_83 rfl ⟨Nat.le_of_ble_eq_true rfl, Nat.le_of_ble_eq_true rfl⟩ rfl ⟨Nat.le_of_ble_eq_true rfl, Nat.le_of_ble_eq_true rfl⟩ d_L_law_282 (sp_M_setTile (hm.kc k1) (er_int _) (fun m2 a2 ha2 q2 k2 => ?_))
  have e2 : a2 = a := ha2.trans ha.symm
  subst e2
  refine er_icmpS (tgt := 770) (by decide) d_L_law_285 ?_
  exact hn m2 _ _ _ _ ((q1.km k2).up (by omega)) q2
theorem er_case_6 {i n : Nat} {b : er_Bo} {H : List er_Bo} {f : Int → Int} {c : Int} (hc : er_CI m b H n f c) (hm : er_MI m b H n f) (hc0 : c < 1998900000) (hi : i + 5 ≤ K.2.2.2.2.2.1) (hL : K.2.2.2.2.2.1 ≤ 2147483648) (hn : er_TN nm K Z i c) : er_LW nm K Z i 290 m := by
  refine er_aload_n rfl rfl d_L_law_290 ?_
  refine er_lc (b := 1) (As := []) (st := []) ml_L_40 mw_R_rows md_R_rows ⟨rfl, rfl⟩ rfl (Nat.le_of_ble_eq_true rfl) sh_1 rfl ⟨Nat.le_of_ble_eq_true rfl, Nat.le_of_ble_eq_true rfl⟩ rfl ⟨Nat.le_of_ble_eq_true rfl, Nat.le_of_ble_eq_true rfl⟩ d_L_law_291 (sp_R_rows hc  ?_)
  refine er_aload_n rfl rfl d_L_law_294 ?_
  refine er_lc (b := 83) (As := []) (st := [.inl (er_bR b : Int)]) ml_L_43 mw_M_rows md_M_rows ⟨rfl, rfl⟩ rfl (Nat.le_of_ble_eq_true rfl) sh_83 rfl ⟨Nat.le_of_ble_eq_true rfl, Nat.le_of_ble_eq_true rfl⟩ rfl ⟨Nat.le_of_ble_eq_true rfl, Nat.le_of_ble_eq_true rfl⟩ d_L_law_295 (sp_M_rows hm  ?_)
  refine er_icmpS (tgt := 770) (by decide) d_L_law_298 ?_
  exact hn m _ _ _ _ (hc.up (by omega)) hm
theorem er_case_7 {i n : Nat} {b : er_Bo} {H : List er_Bo} {f : Int → Int} {c : Int} (hc : er_CI m b H n f c) (hm : er_MI m b H n f) (hc0 : c < 1998900000) (hi : i + 5 ≤ K.2.2.2.2.2.1) (hL : K.2.2.2.2.2.1 ≤ 2147483648) (hn : er_TN nm K Z i c) : er_LW nm K Z i 303 m := by
  refine er_aload_n rfl rfl d_L_law_303 ?_
  refine er_lc (b := 1) (As := []) (st := []) ml_L_44 mw_R_columns md_R_columns ⟨rfl, rfl⟩ rfl (Nat.le_of_ble_eq_true rfl) sh_1 rfl ⟨Nat.le_of_ble_eq_true rfl, Nat.le_of_ble_eq_true rfl⟩ rfl ⟨Nat.le_of_ble_eq_true rfl, Nat.le_of_ble_eq_true rfl⟩ d_L_law_304 (sp_R_columns hc  ?_)
  refine er_aload_n rfl rfl d_L_law_307 ?_
  refine er_lc (b := 83) (As := []) (st := [.inl (er_bC b : Int)]) ml_L_47 mw_M_columns md_M_columns ⟨rfl, rfl⟩ rfl (Nat.le_of_ble_eq_true rfl) sh_83 rfl ⟨Nat.le_of_ble_eq_true rfl, Nat.le_of_ble_eq_true rfl⟩ rfl ⟨Nat.le_of_ble_eq_true rfl, Nat.le_of_ble_eq_true rfl⟩ d_L_law_308 (sp_M_columns hm  ?_)
  refine er_icmpS (tgt := 770) (by decide) d_L_law_311 ?_
  exact hn m _ _ _ _ (hc.up (by omega)) hm
theorem er_case_8 {i n : Nat} {b : er_Bo} {H : List er_Bo} {f : Int → Int} {c : Int} (hc : er_CI m b H n f c) (hm : er_MI m b H n f) (hc0 : c < 1998900000) (hi : i + 5 ≤ K.2.2.2.2.2.1) (hL : K.2.2.2.2.2.1 ≤ 2147483648) (hn : er_TN nm K Z i c) : er_LW nm K Z i 316 m := by
  refine er_aload_n rfl rfl d_L_law_316 ?_
  refine er_aload_n rfl rfl d_L_law_317 ?_
  refine er_iload_n rfl rfl d_L_law_318 ?_
  refine er_iconst d_L_law_319 ?_
  refine er_iadd d_L_law_320 ?_
  refine er_sld (by omega) (by omega) hL d_L_law_321 ?_
  refine er_aload_n rfl rfl d_L_law_322 ?_
  refine er_iload_n rfl rfl d_L_law_323 ?_
  refine er_iconst d_L_law_324 ?_
  refine er_iadd d_L_law_325 ?_
  refine er_sld (by omega) (by omega) hL d_L_law_326 ?_
  refine er_lc (b := 1) (As := [.inl (K.2.2.2.2.2.2 ((i : Int) + 1).toNat).toInt, .inl (K.2.2.2.2.2.2 ((i : Int) + 2).toNat).toInt]) (st := []) ml_L_48 mw_R_kindAt md_R_kindAt ⟨rfl, rfl⟩ rfl (Nat.le_of_ble_eq_true rfl) sh_1 rfl ⟨Nat.le_of_ble_eq_true rfl, Nat.le_of_ble_eq_true rfl⟩ rfl ⟨Nat.le_of_ble_eq_true rfl, Nat.le_of_ble_eq_true rfl⟩ d_L_law_327 (sp_R_kindAt hc (er_int _) (er_int _) ?_)
  refine er_aload_n rfl rfl d_L_law_330 ?_
  refine er_aload_n rfl rfl d_L_law_331 ?_
  refine er_iload_n rfl rfl d_L_law_332 ?_
  refine er_iconst d_L_law_333 ?_
  refine er_iadd d_L_law_334 ?_
  refine er_sld (by omega) (by omega) hL d_L_law_335 ?_
  refine er_aload_n rfl rfl d_L_law_336 ?_
  refine er_iload_n rfl rfl d_L_law_337 ?_
  refine er_iconst d_L_law_338 ?_
  refine er_iadd d_L_law_339 ?_
  refine er_sld (by omega) (by omega) hL d_L_law_340 ?_
  refine er_lc (b := 83) (As := [.inl (K.2.2.2.2.2.2 ((i : Int) + 1).toNat).toInt, .inl (K.2.2.2.2.2.2 ((i : Int) + 2).toNat).toInt]) (st := [.inl (er_qKind b ((K.2.2.2.2.2.2 ((i : Int) + 1).toNat).toInt) ((K.2.2.2.2.2.2 ((i : Int) + 2).toNat).toInt))]) ml_L_52 mw_M_kindAt md_M_kindAt ⟨rfl, rfl⟩ rfl (Nat.le_of_ble_eq_true rfl) sh_83 rfl ⟨Nat.le_of_ble_eq_true rfl, Nat.le_of_ble_eq_true rfl⟩ rfl ⟨Nat.le_of_ble_eq_true rfl, Nat.le_of_ble_eq_true rfl⟩ d_L_law_341 (sp_M_kindAt hm (er_int _) (er_int _) ?_)
  refine er_icmpS (tgt := 770) (by decide) d_L_law_344 ?_
  exact hn m _ _ _ _ (hc.up (by omega)) hm
theorem er_case_9 {i n : Nat} {b : er_Bo} {H : List er_Bo} {f : Int → Int} {c : Int} (hc : er_CI m b H n f c) (hm : er_MI m b H n f) (hc0 : c < 1998900000) (hi : i + 5 ≤ K.2.2.2.2.2.1) (hL : K.2.2.2.2.2.1 ≤ 2147483648) (hn : er_TN nm K Z i c) : er_LW nm K Z i 349 m := by
  refine er_aload_n rfl rfl d_L_law_349 ?_
  refine er_lc (b := 1) (As := []) (st := []) ml_L_53 mw_R_signalCount md_R_signalCount ⟨rfl, rfl⟩ rfl (Nat.le_of_ble_eq_true rfl) sh_1 rfl ⟨Nat.le_of_ble_eq_true rfl, Nat.le_of_ble_eq_true rfl⟩ rfl ⟨Nat.le_of_ble_eq_true rfl, Nat.le_of_ble_eq_true rfl⟩ d_L_law_350 (sp_R_signalCount hc  ?_)
  refine er_aload_n rfl rfl d_L_law_353 ?_
  refine er_lc (b := 83) (As := []) (st := [.inl (er_sig b)]) ml_L_56 mw_M_signalCount md_M_signalCount ⟨rfl, rfl⟩ rfl (Nat.le_of_ble_eq_true rfl) sh_83 rfl ⟨Nat.le_of_ble_eq_true rfl, Nat.le_of_ble_eq_true rfl⟩ rfl ⟨Nat.le_of_ble_eq_true rfl, Nat.le_of_ble_eq_true rfl⟩ d_L_law_354 (sp_M_signalCount hm  ?_)
  refine er_icmpS (tgt := 770) (by decide) d_L_law_357 ?_
  exact hn m _ _ _ _ (hc.up (by omega)) hm
theorem er_case_10 {i n : Nat} {b : er_Bo} {H : List er_Bo} {f : Int → Int} {c : Int} (hc : er_CI m b H n f c) (hm : er_MI m b H n f) (hc0 : c < 1998900000) (hi : i + 5 ≤ K.2.2.2.2.2.1) (hL : K.2.2.2.2.2.1 ≤ 2147483648) (hn : er_TN nm K Z i c) : er_LW nm K Z i 362 m := by
  refine er_aload_n rfl rfl d_L_law_362 ?_
  refine er_aload_n rfl rfl d_L_law_363 ?_
  refine er_iload_n rfl rfl d_L_law_364 ?_
  refine er_iconst d_L_law_365 ?_
  refine er_iadd d_L_law_366 ?_
  refine er_sld (by omega) (by omega) hL d_L_law_367 ?_
  refine er_aload_n rfl rfl d_L_law_368 ?_
  refine er_iload_n rfl rfl d_L_law_369 ?_
  refine er_iconst d_L_law_370 ?_
  refine er_iadd d_L_law_371 ?_
  refine er_sld (by omega) (by omega) hL d_L_law_372 ?_
  refine er_aload_n rfl rfl d_L_law_373 ?_
  refine er_iload_n rfl rfl d_L_law_374 ?_
  refine er_iconst d_L_law_375 ?_
  refine er_iadd d_L_law_376 ?_
  refine er_sld (by omega) (by omega) hL d_L_law_377 ?_
  refine er_aload_n rfl rfl d_L_law_378 ?_
  refine er_iload_n rfl rfl d_L_law_379 ?_
  refine er_iconst d_L_law_380 ?_
  refine er_iadd d_L_law_381 ?_
  refine er_sld (by omega) (by omega) hL d_L_law_382 ?_
  refine er_lc (b := 1) (As := [.inl (K.2.2.2.2.2.2 ((i : Int) + 1).toNat).toInt, .inl (K.2.2.2.2.2.2 ((i : Int) + 2).toNat).toInt, .inl (K.2.2.2.2.2.2 ((i : Int) + 3).toNat).toInt, .inl (K.2.2.2.2.2.2 ((i : Int) + 4).toNat).toInt]) (st := []) ml_L_57 mw_R_makePair md_R_makePair ⟨rfl, rfl⟩ rfl (Nat.le_of_ble_eq_true rfl) sh_1 rfl ⟨Nat.le_of_ble_eq_true rfl, Nat.le_of_ble_eq_true rfl⟩ rfl ⟨Nat.le_of_ble_eq_true rfl, Nat.le_of_ble_eq_true rfl⟩ d_L_law_383 (sp_R_makePair hc (er_int _) (er_int _) (er_int _) (er_int _) (fun m1 a ha q1 k1 => ?_))
  refine er_aload_n rfl rfl d_L_law_386 ?_
  refine er_aload_n rfl rfl d_L_law_387 ?_
  refine er_iload_n rfl rfl d_L_law_388 ?_
  refine er_iconst d_L_law_389 ?_
  refine er_iadd d_L_law_390 ?_
  refine er_sld (by omega) (by omega) hL d_L_law_391 ?_
  refine er_aload_n rfl rfl d_L_law_392 ?_
  refine er_iload_n rfl rfl d_L_law_393 ?_
  refine er_iconst d_L_law_394 ?_
  refine er_iadd d_L_law_395 ?_
  refine er_sld (by omega) (by omega) hL d_L_law_396 ?_
  refine er_aload_n rfl rfl d_L_law_397 ?_
  refine er_iload_n rfl rfl d_L_law_398 ?_
  refine er_iconst d_L_law_399 ?_
  refine er_iadd d_L_law_400 ?_
  refine er_sld (by omega) (by omega) hL d_L_law_401 ?_
  refine er_aload_n rfl rfl d_L_law_402 ?_
  refine er_iload_n rfl rfl d_L_law_403 ?_
  refine er_iconst d_L_law_404 ?_
  refine er_iadd d_L_law_405 ?_
  refine er_sld (by omega) (by omega) hL d_L_law_406 ?_
  refine er_lc (b := 83) (As := [.inl (K.2.2.2.2.2.2 ((i : Int) + 1).toNat).toInt, .inl (K.2.2.2.2.2.2 ((i : Int) + 2).toNat).toInt, .inl (K.2.2.2.2.2.2 ((i : Int) + 3).toNat).toInt, .inl (K.2.2.2.2.2.2 ((i : Int) + 4).toNat).toInt]) (st := [.inl a.1]) ml_L_61 mw_M_makePair md_M_makePair ⟨rfl, rfl⟩ rfl (Nat.le_of_ble_eq_true rfl) sh_83 rfl ⟨Nat.le_of_ble_eq_true rfl, Nat.le_of_ble_eq_true rfl⟩ rfl ⟨Nat.le_of_ble_eq_true rfl, Nat.le_of_ble_eq_true rfl⟩ d_L_law_407 (sp_M_makePair (hm.kc k1) (er_int _) (er_int _) (er_int _) (er_int _) (fun m2 a2 ha2 q2 k2 => ?_))
  have e2 : a2 = a := ha2.trans ha.symm
  subst e2
  refine er_icmpS (tgt := 770) (by decide) d_L_law_410 ?_
  exact hn m2 _ _ _ _ ((q1.km k2).up (by omega)) q2
theorem er_case_11 {i n : Nat} {b : er_Bo} {H : List er_Bo} {f : Int → Int} {c : Int} (hc : er_CI m b H n f c) (hm : er_MI m b H n f) (hc0 : c < 1998900000) (hi : i + 5 ≤ K.2.2.2.2.2.1) (hL : K.2.2.2.2.2.1 ≤ 2147483648) (hn : er_TN nm K Z i c) : er_LW nm K Z i 415 m := by
  refine er_aload_n rfl rfl d_L_law_415 ?_
  refine er_aload_n rfl rfl d_L_law_416 ?_
  refine er_iload_n rfl rfl d_L_law_417 ?_
  refine er_iconst d_L_law_418 ?_
  refine er_iadd d_L_law_419 ?_
  refine er_sld (by omega) (by omega) hL d_L_law_420 ?_
  refine er_aload_n rfl rfl d_L_law_421 ?_
  refine er_iload_n rfl rfl d_L_law_422 ?_
  refine er_iconst d_L_law_423 ?_
  refine er_iadd d_L_law_424 ?_
  refine er_sld (by omega) (by omega) hL d_L_law_425 ?_
  refine er_lc (b := 1) (As := [.inl (K.2.2.2.2.2.2 ((i : Int) + 1).toNat).toInt, .inl (K.2.2.2.2.2.2 ((i : Int) + 2).toNat).toInt]) (st := []) ml_L_62 mw_R_breakPair md_R_breakPair ⟨rfl, rfl⟩ rfl (Nat.le_of_ble_eq_true rfl) sh_1 rfl ⟨Nat.le_of_ble_eq_true rfl, Nat.le_of_ble_eq_true rfl⟩ rfl ⟨Nat.le_of_ble_eq_true rfl, Nat.le_of_ble_eq_true rfl⟩ d_L_law_426 (sp_R_breakPair hc (er_int _) (er_int _) (fun m1 a ha q1 k1 => ?_))
  refine er_aload_n rfl rfl d_L_law_429 ?_
  refine er_aload_n rfl rfl d_L_law_430 ?_
  refine er_iload_n rfl rfl d_L_law_431 ?_
  refine er_iconst d_L_law_432 ?_
  refine er_iadd d_L_law_433 ?_
  refine er_sld (by omega) (by omega) hL d_L_law_434 ?_
  refine er_aload_n rfl rfl d_L_law_435 ?_
  refine er_iload_n rfl rfl d_L_law_436 ?_
  refine er_iconst d_L_law_437 ?_
  refine er_iadd d_L_law_438 ?_
  refine er_sld (by omega) (by omega) hL d_L_law_439 ?_
  refine er_lc (b := 83) (As := [.inl (K.2.2.2.2.2.2 ((i : Int) + 1).toNat).toInt, .inl (K.2.2.2.2.2.2 ((i : Int) + 2).toNat).toInt]) (st := [.inl a.1]) ml_L_65 mw_M_breakPair md_M_breakPair ⟨rfl, rfl⟩ rfl (Nat.le_of_ble_eq_true rfl) sh_83 rfl ⟨Nat.le_of_ble_eq_true rfl, Nat.le_of_ble_eq_true rfl⟩ rfl ⟨Nat.le_of_ble_eq_true rfl, Nat.le_of_ble_eq_true rfl⟩ d_L_law_440 (sp_M_breakPair (hm.kc k1) (er_int _) (er_int _) (fun m2 a2 ha2 q2 k2 => ?_))
  have e2 : a2 = a := ha2.trans ha.symm
  subst e2
  refine er_icmpS (tgt := 770) (by decide) d_L_law_443 ?_
  exact hn m2 _ _ _ _ ((q1.km k2).up (by omega)) q2
theorem er_case_12 {i n : Nat} {b : er_Bo} {H : List er_Bo} {f : Int → Int} {c : Int} (hc : er_CI m b H n f c) (hm : er_MI m b H n f) (hc0 : c < 1998900000) (hi : i + 5 ≤ K.2.2.2.2.2.1) (hL : K.2.2.2.2.2.1 ≤ 2147483648) (hn : er_TN nm K Z i c) : er_LW nm K Z i 448 m := by
  refine er_aload_n rfl rfl d_L_law_448 ?_
  refine er_aload_n rfl rfl d_L_law_449 ?_
  refine er_iload_n rfl rfl d_L_law_450 ?_
  refine er_iconst d_L_law_451 ?_
  refine er_iadd d_L_law_452 ?_
  refine er_sld (by omega) (by omega) hL d_L_law_453 ?_
  refine er_aload_n rfl rfl d_L_law_454 ?_
  refine er_iload_n rfl rfl d_L_law_455 ?_
  refine er_iconst d_L_law_456 ?_
  refine er_iadd d_L_law_457 ?_
  refine er_sld (by omega) (by omega) hL d_L_law_458 ?_
  refine er_lc (b := 1) (As := [.inl (K.2.2.2.2.2.2 ((i : Int) + 1).toNat).toInt, .inl (K.2.2.2.2.2.2 ((i : Int) + 2).toNat).toInt]) (st := []) ml_L_66 mw_R_partnerOf md_R_partnerOf ⟨rfl, rfl⟩ rfl (Nat.le_of_ble_eq_true rfl) sh_1 rfl ⟨Nat.le_of_ble_eq_true rfl, Nat.le_of_ble_eq_true rfl⟩ rfl ⟨Nat.le_of_ble_eq_true rfl, Nat.le_of_ble_eq_true rfl⟩ d_L_law_459 (sp_R_partnerOf hc (er_int _) (er_int _) ?_)
  refine er_aload_n rfl rfl d_L_law_462 ?_
  refine er_aload_n rfl rfl d_L_law_463 ?_
  refine er_iload_n rfl rfl d_L_law_464 ?_
  refine er_iconst d_L_law_465 ?_
  refine er_iadd d_L_law_466 ?_
  refine er_sld (by omega) (by omega) hL d_L_law_467 ?_
  refine er_aload_n rfl rfl d_L_law_468 ?_
  refine er_iload_n rfl rfl d_L_law_469 ?_
  refine er_iconst d_L_law_470 ?_
  refine er_iadd d_L_law_471 ?_
  refine er_sld (by omega) (by omega) hL d_L_law_472 ?_
  refine er_lc (b := 83) (As := [.inl (K.2.2.2.2.2.2 ((i : Int) + 1).toNat).toInt, .inl (K.2.2.2.2.2.2 ((i : Int) + 2).toNat).toInt]) (st := [.inl (er_qPart b ((K.2.2.2.2.2.2 ((i : Int) + 1).toNat).toInt) ((K.2.2.2.2.2.2 ((i : Int) + 2).toNat).toInt))]) ml_L_69 mw_M_partnerOf md_M_partnerOf ⟨rfl, rfl⟩ rfl (Nat.le_of_ble_eq_true rfl) sh_83 rfl ⟨Nat.le_of_ble_eq_true rfl, Nat.le_of_ble_eq_true rfl⟩ rfl ⟨Nat.le_of_ble_eq_true rfl, Nat.le_of_ble_eq_true rfl⟩ d_L_law_473 (sp_M_partnerOf hm (er_int _) (er_int _) ?_)
  refine er_icmpS (tgt := 770) (by decide) d_L_law_476 ?_
  exact hn m _ _ _ _ (hc.up (by omega)) hm
theorem er_case_13 {i n : Nat} {b : er_Bo} {H : List er_Bo} {f : Int → Int} {c : Int} (hc : er_CI m b H n f c) (hm : er_MI m b H n f) (hc0 : c < 1998900000) (hi : i + 5 ≤ K.2.2.2.2.2.1) (hL : K.2.2.2.2.2.1 ≤ 2147483648) (hn : er_TN nm K Z i c) : er_LW nm K Z i 481 m := by
  refine er_aload_n rfl rfl d_L_law_481 ?_
  refine er_aload_n rfl rfl d_L_law_482 ?_
  refine er_iload_n rfl rfl d_L_law_483 ?_
  refine er_iconst d_L_law_484 ?_
  refine er_iadd d_L_law_485 ?_
  refine er_sld (by omega) (by omega) hL d_L_law_486 ?_
  refine er_aload_n rfl rfl d_L_law_487 ?_
  refine er_iload_n rfl rfl d_L_law_488 ?_
  refine er_iconst d_L_law_489 ?_
  refine er_iadd d_L_law_490 ?_
  refine er_sld (by omega) (by omega) hL d_L_law_491 ?_
  refine er_lc (b := 1) (As := [.inl (K.2.2.2.2.2.2 ((i : Int) + 1).toNat).toInt, .inl (K.2.2.2.2.2.2 ((i : Int) + 2).toNat).toInt]) (st := []) ml_L_70 mw_R_select md_R_select ⟨rfl, rfl⟩ rfl (Nat.le_of_ble_eq_true rfl) sh_1 rfl ⟨Nat.le_of_ble_eq_true rfl, Nat.le_of_ble_eq_true rfl⟩ rfl ⟨Nat.le_of_ble_eq_true rfl, Nat.le_of_ble_eq_true rfl⟩ d_L_law_492 (sp_R_select hc (er_int _) (er_int _) (fun m1 a ha q1 k1 => ?_))
  refine er_aload_n rfl rfl d_L_law_495 ?_
  refine er_aload_n rfl rfl d_L_law_496 ?_
  refine er_iload_n rfl rfl d_L_law_497 ?_
  refine er_iconst d_L_law_498 ?_
  refine er_iadd d_L_law_499 ?_
  refine er_sld (by omega) (by omega) hL d_L_law_500 ?_
  refine er_aload_n rfl rfl d_L_law_501 ?_
  refine er_iload_n rfl rfl d_L_law_502 ?_
  refine er_iconst d_L_law_503 ?_
  refine er_iadd d_L_law_504 ?_
  refine er_sld (by omega) (by omega) hL d_L_law_505 ?_
  refine er_lc (b := 83) (As := [.inl (K.2.2.2.2.2.2 ((i : Int) + 1).toNat).toInt, .inl (K.2.2.2.2.2.2 ((i : Int) + 2).toNat).toInt]) (st := [.inl a.1]) ml_L_73 mw_M_select md_M_select ⟨rfl, rfl⟩ rfl (Nat.le_of_ble_eq_true rfl) sh_83 rfl ⟨Nat.le_of_ble_eq_true rfl, Nat.le_of_ble_eq_true rfl⟩ rfl ⟨Nat.le_of_ble_eq_true rfl, Nat.le_of_ble_eq_true rfl⟩ d_L_law_506 (sp_M_select (hm.kc k1) (er_int _) (er_int _) (fun m2 a2 ha2 q2 k2 => ?_))
  have e2 : a2 = a := ha2.trans ha.symm
  subst e2
  refine er_icmpS (tgt := 770) (by decide) d_L_law_509 ?_
  exact hn m2 _ _ _ _ ((q1.km k2).up (by omega)) q2
theorem er_case_14 {i n : Nat} {b : er_Bo} {H : List er_Bo} {f : Int → Int} {c : Int} (hc : er_CI m b H n f c) (hm : er_MI m b H n f) (hc0 : c < 1998900000) (hi : i + 5 ≤ K.2.2.2.2.2.1) (hL : K.2.2.2.2.2.1 ≤ 2147483648) (hn : er_TN nm K Z i c) : er_LW nm K Z i 514 m := by
  refine er_aload_n rfl rfl d_L_law_514 ?_
  refine er_aload_n rfl rfl d_L_law_515 ?_
  refine er_iload_n rfl rfl d_L_law_516 ?_
  refine er_iconst d_L_law_517 ?_
  refine er_iadd d_L_law_518 ?_
  refine er_sld (by omega) (by omega) hL d_L_law_519 ?_
  refine er_aload_n rfl rfl d_L_law_520 ?_
  refine er_iload_n rfl rfl d_L_law_521 ?_
  refine er_iconst d_L_law_522 ?_
  refine er_iadd d_L_law_523 ?_
  refine er_sld (by omega) (by omega) hL d_L_law_524 ?_
  refine er_lc (b := 1) (As := [.inl (K.2.2.2.2.2.2 ((i : Int) + 1).toNat).toInt, .inl (K.2.2.2.2.2.2 ((i : Int) + 2).toNat).toInt]) (st := []) ml_L_74 mw_R_deselect md_R_deselect ⟨rfl, rfl⟩ rfl (Nat.le_of_ble_eq_true rfl) sh_1 rfl ⟨Nat.le_of_ble_eq_true rfl, Nat.le_of_ble_eq_true rfl⟩ rfl ⟨Nat.le_of_ble_eq_true rfl, Nat.le_of_ble_eq_true rfl⟩ d_L_law_525 (sp_R_deselect hc (er_int _) (er_int _) (fun m1 a ha q1 k1 => ?_))
  refine er_aload_n rfl rfl d_L_law_528 ?_
  refine er_aload_n rfl rfl d_L_law_529 ?_
  refine er_iload_n rfl rfl d_L_law_530 ?_
  refine er_iconst d_L_law_531 ?_
  refine er_iadd d_L_law_532 ?_
  refine er_sld (by omega) (by omega) hL d_L_law_533 ?_
  refine er_aload_n rfl rfl d_L_law_534 ?_
  refine er_iload_n rfl rfl d_L_law_535 ?_
  refine er_iconst d_L_law_536 ?_
  refine er_iadd d_L_law_537 ?_
  refine er_sld (by omega) (by omega) hL d_L_law_538 ?_
  refine er_lc (b := 83) (As := [.inl (K.2.2.2.2.2.2 ((i : Int) + 1).toNat).toInt, .inl (K.2.2.2.2.2.2 ((i : Int) + 2).toNat).toInt]) (st := [.inl a.1]) ml_L_77 mw_M_deselect md_M_deselect ⟨rfl, rfl⟩ rfl (Nat.le_of_ble_eq_true rfl) sh_83 rfl ⟨Nat.le_of_ble_eq_true rfl, Nat.le_of_ble_eq_true rfl⟩ rfl ⟨Nat.le_of_ble_eq_true rfl, Nat.le_of_ble_eq_true rfl⟩ d_L_law_539 (sp_M_deselect (hm.kc k1) (er_int _) (er_int _) (fun m2 a2 ha2 q2 k2 => ?_))
  have e2 : a2 = a := ha2.trans ha.symm
  subst e2
  refine er_icmpS (tgt := 770) (by decide) d_L_law_542 ?_
  exact hn m2 _ _ _ _ ((q1.km k2).up (by omega)) q2
theorem er_case_15 {i n : Nat} {b : er_Bo} {H : List er_Bo} {f : Int → Int} {c : Int} (hc : er_CI m b H n f c) (hm : er_MI m b H n f) (hc0 : c < 1998900000) (hi : i + 5 ≤ K.2.2.2.2.2.1) (hL : K.2.2.2.2.2.1 ≤ 2147483648) (hn : er_TN nm K Z i c) : er_LW nm K Z i 547 m := by
  refine er_aload_n rfl rfl d_L_law_547 ?_
  refine er_lc (b := 1) (As := []) (st := []) ml_L_78 mw_R_clearSelection md_R_clearSelection ⟨rfl, rfl⟩ rfl (Nat.le_of_ble_eq_true rfl) sh_1 rfl ⟨Nat.le_of_ble_eq_true rfl, Nat.le_of_ble_eq_true rfl⟩ rfl ⟨Nat.le_of_ble_eq_true rfl, Nat.le_of_ble_eq_true rfl⟩ d_L_law_548 (sp_R_clearSelection hc  (fun m1 a ha q1 k1 => ?_))
  refine er_aload_n rfl rfl d_L_law_551 ?_
  refine er_lc (b := 83) (As := []) (st := [.inl a.1]) ml_L_81 mw_M_clearSelection md_M_clearSelection ⟨rfl, rfl⟩ rfl (Nat.le_of_ble_eq_true rfl) sh_83 rfl ⟨Nat.le_of_ble_eq_true rfl, Nat.le_of_ble_eq_true rfl⟩ rfl ⟨Nat.le_of_ble_eq_true rfl, Nat.le_of_ble_eq_true rfl⟩ d_L_law_552 (sp_M_clearSelection (hm.kc k1)  (fun m2 a2 ha2 q2 k2 => ?_))
  have e2 : a2 = a := ha2.trans ha.symm
  subst e2
  refine er_icmpS (tgt := 770) (by decide) d_L_law_555 ?_
  exact hn m2 _ _ _ _ ((q1.km k2).up (by omega)) q2
theorem er_case_16 {i n : Nat} {b : er_Bo} {H : List er_Bo} {f : Int → Int} {c : Int} (hc : er_CI m b H n f c) (hm : er_MI m b H n f) (hc0 : c < 1998900000) (hi : i + 5 ≤ K.2.2.2.2.2.1) (hL : K.2.2.2.2.2.1 ≤ 2147483648) (hn : er_TN nm K Z i c) : er_LW nm K Z i 560 m := by
  refine er_aload_n rfl rfl d_L_law_560 ?_
  refine er_lc (b := 1) (As := []) (st := []) ml_L_82 mw_R_escapeCount md_R_escapeCount ⟨rfl, rfl⟩ rfl (Nat.le_of_ble_eq_true rfl) sh_1 rfl ⟨Nat.le_of_ble_eq_true rfl, Nat.le_of_ble_eq_true rfl⟩ rfl ⟨Nat.le_of_ble_eq_true rfl, Nat.le_of_ble_eq_true rfl⟩ d_L_law_561 (sp_R_escapeCount hc (by omega) (fun m1 x rm hx q1 k1 => ?_))
  refine er_aload_n rfl rfl d_L_law_564 ?_
  refine er_lc (b := 83) (As := []) (st := [.inl x]) ml_L_85 mw_M_escapeCount md_M_escapeCount ⟨rfl, rfl⟩ rfl (Nat.le_of_ble_eq_true rfl) sh_83 rfl ⟨Nat.le_of_ble_eq_true rfl, Nat.le_of_ble_eq_true rfl⟩ rfl ⟨Nat.le_of_ble_eq_true rfl, Nat.le_of_ble_eq_true rfl⟩ d_L_law_565 (sp_M_escapeCount (hm.kc k1) (fun m2 y rm2 hy q2 k2 => ?_))
  have e2 : y = x := (er_sel_same hc.1.2.1 hx hy).1.symm
  subst e2
  refine er_icmpS (tgt := 770) (by decide) d_L_law_568 ?_
  exact hn m2 _ _ _ _ (q1.km k2) q2
theorem er_side_same {b : er_Bo} {p q v w : Int} (hv : er_BV b) (h1 : (¬ (0 ≤ p ∧ p ≤ er_bR b ∧ 0 ≤ q ∧ q ≤ er_bC b) ∧ v = -1) ∨ ((0 ≤ p ∧ p ≤ er_bR b ∧ 0 ≤ q ∧ q ≤ er_bC b) ∧ ∃ x rm, er_max (er_Lsel b) rm x ∧ er_sd (er_near (er_Lsel b) rm) (7 * p + q) v)) (h2 : (¬ (0 ≤ p ∧ p ≤ er_bR b ∧ 0 ≤ q ∧ q ≤ er_bC b) ∧ w = -1) ∨ ((0 ≤ p ∧ p ≤ er_bR b ∧ 0 ≤ q ∧ q ≤ er_bC b) ∧ ∃ x rm, er_max (er_Msel b) rm x ∧ er_sd (er_near (er_Msel b) rm) (7 * p + q) w)) : w = v := by
  rcases h1 with ⟨z1, z2⟩ | ⟨z1, x, rm, z2, z3⟩
  · rcases h2 with ⟨y1, y2⟩ | ⟨y1, y2⟩
    · rw [z2, y2]
    · exact absurd y1 z1
  · rcases h2 with ⟨y1, y2⟩ | ⟨y1, x2, rm2, y2, y3⟩
    · exact absurd z1 y1
    · have hs := (er_sel_same hv z2 y2).2
      unfold er_sd at z3 y3
      rw [hs, hs] at z3
      rcases z3 with ⟨a1, a2⟩ | ⟨a1, a2, a3⟩ | ⟨a1, a2, a3⟩ <;> rcases y3 with ⟨c1, c2⟩ | ⟨c1, c2, c3⟩ | ⟨c1, c2, c3⟩ <;> first | omega | exact absurd c1 a1 | exact absurd a1 c1 | exact absurd c2 a2 | exact absurd a2 c2

theorem er_case_17 {i n : Nat} {b : er_Bo} {H : List er_Bo} {f : Int → Int} {c : Int} (hc : er_CI m b H n f c) (hm : er_MI m b H n f) (hc0 : c < 1998900000) (hi : i + 5 ≤ K.2.2.2.2.2.1) (hL : K.2.2.2.2.2.1 ≤ 2147483648) (hn : er_TN nm K Z i c) : er_LW nm K Z i 573 m := by
  refine er_aload_n rfl rfl d_L_law_573 ?_
  refine er_aload_n rfl rfl d_L_law_574 ?_
  refine er_iload_n rfl rfl d_L_law_575 ?_
  refine er_iconst d_L_law_576 ?_
  refine er_iadd d_L_law_577 ?_
  refine er_sld (by omega) (by omega) hL d_L_law_578 ?_
  refine er_aload_n rfl rfl d_L_law_579 ?_
  refine er_iload_n rfl rfl d_L_law_580 ?_
  refine er_iconst d_L_law_581 ?_
  refine er_iadd d_L_law_582 ?_
  refine er_sld (by omega) (by omega) hL d_L_law_583 ?_
  refine er_lc (b := 1) (As := [.inl (K.2.2.2.2.2.2 ((i : Int) + 1).toNat).toInt, .inl (K.2.2.2.2.2.2 ((i : Int) + 2).toNat).toInt]) (st := []) ml_L_86 mw_R_tileSide md_R_tileSide ⟨rfl, rfl⟩ rfl (Nat.le_of_ble_eq_true rfl) sh_1 rfl ⟨Nat.le_of_ble_eq_true rfl, Nat.le_of_ble_eq_true rfl⟩ rfl ⟨Nat.le_of_ble_eq_true rfl, Nat.le_of_ble_eq_true rfl⟩ d_L_law_584 (sp_R_tileSide hc (by omega) (er_int _) (er_int _) (fun m1 x hx q1 k1 => ?_))
  refine er_aload_n rfl rfl d_L_law_587 ?_
  refine er_aload_n rfl rfl d_L_law_588 ?_
  refine er_iload_n rfl rfl d_L_law_589 ?_
  refine er_iconst d_L_law_590 ?_
  refine er_iadd d_L_law_591 ?_
  refine er_sld (by omega) (by omega) hL d_L_law_592 ?_
  refine er_aload_n rfl rfl d_L_law_593 ?_
  refine er_iload_n rfl rfl d_L_law_594 ?_
  refine er_iconst d_L_law_595 ?_
  refine er_iadd d_L_law_596 ?_
  refine er_sld (by omega) (by omega) hL d_L_law_597 ?_
  refine er_lc (b := 83) (As := [.inl (K.2.2.2.2.2.2 ((i : Int) + 1).toNat).toInt, .inl (K.2.2.2.2.2.2 ((i : Int) + 2).toNat).toInt]) (st := [.inl x]) ml_L_89 mw_M_tileSide md_M_tileSide ⟨rfl, rfl⟩ rfl (Nat.le_of_ble_eq_true rfl) sh_83 rfl ⟨Nat.le_of_ble_eq_true rfl, Nat.le_of_ble_eq_true rfl⟩ rfl ⟨Nat.le_of_ble_eq_true rfl, Nat.le_of_ble_eq_true rfl⟩ d_L_law_598 (sp_M_tileSide (hm.kc k1) (er_int _) (er_int _) (fun m2 y hy q2 k2 => ?_))
  have e2 : y = x := er_side_same hc.1.2.1 hx hy
  subst e2
  refine er_icmpS (tgt := 770) (by decide) d_L_law_601 ?_
  exact hn m2 _ _ _ _ (q1.km k2) q2
theorem er_case_18 {i n : Nat} {b : er_Bo} {H : List er_Bo} {f : Int → Int} {c : Int} (hc : er_CI m b H n f c) (hm : er_MI m b H n f) (hc0 : c < 1998900000) (hi : i + 5 ≤ K.2.2.2.2.2.1) (hL : K.2.2.2.2.2.1 ≤ 2147483648) (hn : er_TN nm K Z i c) : er_LW nm K Z i 606 m := by
  refine er_aload_n rfl rfl d_L_law_606 ?_
  refine er_lc (b := 1) (As := []) (st := []) ml_L_90 mw_R_cutChannels md_R_cutChannels ⟨rfl, rfl⟩ rfl (Nat.le_of_ble_eq_true rfl) sh_1 rfl ⟨Nat.le_of_ble_eq_true rfl, Nat.le_of_ble_eq_true rfl⟩ rfl ⟨Nat.le_of_ble_eq_true rfl, Nat.le_of_ble_eq_true rfl⟩ d_L_law_607 (sp_R_cutChannels hc (by omega) (fun m1 x rm hx q1 k1 => ?_))
  refine er_aload_n rfl rfl d_L_law_610 ?_
  refine er_lc (b := 83) (As := []) (st := [.inl (er_ccs (er_near (er_Lsel b) rm) (er_bR b) (er_bC b))]) ml_L_93 mw_M_cutChannels md_M_cutChannels ⟨rfl, rfl⟩ rfl (Nat.le_of_ble_eq_true rfl) sh_83 rfl ⟨Nat.le_of_ble_eq_true rfl, Nat.le_of_ble_eq_true rfl⟩ rfl ⟨Nat.le_of_ble_eq_true rfl, Nat.le_of_ble_eq_true rfl⟩ d_L_law_611 (sp_M_cutChannels (hm.kc k1) (fun m2 y rm2 hy q2 k2 => ?_))
  rw [er_ccs_congr hc.1.2.1.2.1 hc.1.2.1.2.2.2.1 (fun v _ _ => (er_sel_same hc.1.2.1 hx hy).2 v)]
  refine er_icmpS (tgt := 770) (by decide) d_L_law_614 ?_
  exact hn m2 _ _ _ _ (q1.km k2) q2
theorem er_case_19 {i n : Nat} {b : er_Bo} {H : List er_Bo} {f : Int → Int} {c : Int} (hc : er_CI m b H n f c) (hm : er_MI m b H n f) (hc0 : c < 1998900000) (hi : i + 5 ≤ K.2.2.2.2.2.1) (hL : K.2.2.2.2.2.1 ≤ 2147483648) (hn : er_TN nm K Z i c) : er_LW nm K Z i 619 m := by
  refine er_aload_n rfl rfl d_L_law_619 ?_
  refine er_aload_n rfl rfl d_L_law_620 ?_
  refine er_iload_n rfl rfl d_L_law_621 ?_
  refine er_iconst d_L_law_622 ?_
  refine er_iadd d_L_law_623 ?_
  refine er_sld (by omega) (by omega) hL d_L_law_624 ?_
  refine er_lc (b := 1) (As := [.inl (K.2.2.2.2.2.2 ((i : Int) + 1).toNat).toInt]) (st := []) ml_L_94 mw_R_layerCount md_R_layerCount ⟨rfl, rfl⟩ rfl (Nat.le_of_ble_eq_true rfl) sh_1 rfl ⟨Nat.le_of_ble_eq_true rfl, Nat.le_of_ble_eq_true rfl⟩ rfl ⟨Nat.le_of_ble_eq_true rfl, Nat.le_of_ble_eq_true rfl⟩ d_L_law_625 (sp_R_layerCount hc (by omega) (er_int _) (fun m1 q1 k1 => ?_))
  refine er_aload_n rfl rfl d_L_law_628 ?_
  refine er_aload_n rfl rfl d_L_law_629 ?_
  refine er_iload_n rfl rfl d_L_law_630 ?_
  refine er_iconst d_L_law_631 ?_
  refine er_iadd d_L_law_632 ?_
  refine er_sld (by omega) (by omega) hL d_L_law_633 ?_
  refine er_lc (b := 83) (As := [.inl (K.2.2.2.2.2.2 ((i : Int) + 1).toNat).toInt]) (st := [.inl (er_qCount b ((K.2.2.2.2.2.2 ((i : Int) + 1).toNat).toInt))]) ml_L_97 mw_M_layerCount md_M_layerCount ⟨rfl, rfl⟩ rfl (Nat.le_of_ble_eq_true rfl) sh_83 rfl ⟨Nat.le_of_ble_eq_true rfl, Nat.le_of_ble_eq_true rfl⟩ rfl ⟨Nat.le_of_ble_eq_true rfl, Nat.le_of_ble_eq_true rfl⟩ d_L_law_634 (sp_M_layerCount (hm.kc k1) (er_int _) (fun m2 q2 k2 => ?_))
  refine er_icmpS (tgt := 770) (by decide) d_L_law_637 ?_
  exact hn m2 _ _ _ _ (q1.km k2) q2
theorem er_case_20 {i n : Nat} {b : er_Bo} {H : List er_Bo} {f : Int → Int} {c : Int} (hc : er_CI m b H n f c) (hm : er_MI m b H n f) (hc0 : c < 1998900000) (hi : i + 5 ≤ K.2.2.2.2.2.1) (hL : K.2.2.2.2.2.1 ≤ 2147483648) (hn : er_TN nm K Z i c) : er_LW nm K Z i 642 m := by
  refine er_aload_n rfl rfl d_L_law_642 ?_
  refine er_aload_n rfl rfl d_L_law_643 ?_
  refine er_iload_n rfl rfl d_L_law_644 ?_
  refine er_iconst d_L_law_645 ?_
  refine er_iadd d_L_law_646 ?_
  refine er_sld (by omega) (by omega) hL d_L_law_647 ?_
  refine er_aload_n rfl rfl d_L_law_648 ?_
  refine er_iload_n rfl rfl d_L_law_649 ?_
  refine er_iconst d_L_law_650 ?_
  refine er_iadd d_L_law_651 ?_
  refine er_sld (by omega) (by omega) hL d_L_law_652 ?_
  refine er_aload_n rfl rfl d_L_law_653 ?_
  refine er_iload_n rfl rfl d_L_law_654 ?_
  refine er_iconst d_L_law_655 ?_
  refine er_iadd d_L_law_656 ?_
  refine er_sld (by omega) (by omega) hL d_L_law_657 ?_
  refine er_lc (b := 1) (As := [.inl (K.2.2.2.2.2.2 ((i : Int) + 1).toNat).toInt, .inl (K.2.2.2.2.2.2 ((i : Int) + 2).toNat).toInt, .inl (K.2.2.2.2.2.2 ((i : Int) + 3).toNat).toInt]) (st := []) ml_L_98 mw_R_layerOf md_R_layerOf ⟨rfl, rfl⟩ rfl (Nat.le_of_ble_eq_true rfl) sh_1 rfl ⟨Nat.le_of_ble_eq_true rfl, Nat.le_of_ble_eq_true rfl⟩ rfl ⟨Nat.le_of_ble_eq_true rfl, Nat.le_of_ble_eq_true rfl⟩ d_L_law_658 (sp_R_layerOf hc (by omega) (er_int _) (er_int _) (er_int _) (fun m1 q1 k1 => ?_))
  refine er_aload_n rfl rfl d_L_law_661 ?_
  refine er_aload_n rfl rfl d_L_law_662 ?_
  refine er_iload_n rfl rfl d_L_law_663 ?_
  refine er_iconst d_L_law_664 ?_
  refine er_iadd d_L_law_665 ?_
  refine er_sld (by omega) (by omega) hL d_L_law_666 ?_
  refine er_aload_n rfl rfl d_L_law_667 ?_
  refine er_iload_n rfl rfl d_L_law_668 ?_
  refine er_iconst d_L_law_669 ?_
  refine er_iadd d_L_law_670 ?_
  refine er_sld (by omega) (by omega) hL d_L_law_671 ?_
  refine er_aload_n rfl rfl d_L_law_672 ?_
  refine er_iload_n rfl rfl d_L_law_673 ?_
  refine er_iconst d_L_law_674 ?_
  refine er_iadd d_L_law_675 ?_
  refine er_sld (by omega) (by omega) hL d_L_law_676 ?_
  refine er_lc (b := 83) (As := [.inl (K.2.2.2.2.2.2 ((i : Int) + 1).toNat).toInt, .inl (K.2.2.2.2.2.2 ((i : Int) + 2).toNat).toInt, .inl (K.2.2.2.2.2.2 ((i : Int) + 3).toNat).toInt]) (st := [.inl (er_qOf b ((K.2.2.2.2.2.2 ((i : Int) + 1).toNat).toInt) ((K.2.2.2.2.2.2 ((i : Int) + 2).toNat).toInt) ((K.2.2.2.2.2.2 ((i : Int) + 3).toNat).toInt))]) ml_L_101 mw_M_layerOf md_M_layerOf ⟨rfl, rfl⟩ rfl (Nat.le_of_ble_eq_true rfl) sh_83 rfl ⟨Nat.le_of_ble_eq_true rfl, Nat.le_of_ble_eq_true rfl⟩ rfl ⟨Nat.le_of_ble_eq_true rfl, Nat.le_of_ble_eq_true rfl⟩ d_L_law_677 (sp_M_layerOf (hm.kc k1) (er_int _) (er_int _) (er_int _) (fun m2 q2 k2 => ?_))
  refine er_icmpS (tgt := 770) (by decide) d_L_law_680 ?_
  exact hn m2 _ _ _ _ (q1.km k2) q2
theorem er_case_21 {i n : Nat} {b : er_Bo} {H : List er_Bo} {f : Int → Int} {c : Int} (hc : er_CI m b H n f c) (hm : er_MI m b H n f) (hc0 : c < 1998900000) (hi : i + 5 ≤ K.2.2.2.2.2.1) (hL : K.2.2.2.2.2.1 ≤ 2147483648) (hn : er_TN nm K Z i c) : er_LW nm K Z i 685 m := by
  refine er_aload_n rfl rfl d_L_law_685 ?_
  refine er_aload_n rfl rfl d_L_law_686 ?_
  refine er_iload_n rfl rfl d_L_law_687 ?_
  refine er_iconst d_L_law_688 ?_
  refine er_iadd d_L_law_689 ?_
  refine er_sld (by omega) (by omega) hL d_L_law_690 ?_
  refine er_aload_n rfl rfl d_L_law_691 ?_
  refine er_iload_n rfl rfl d_L_law_692 ?_
  refine er_iconst d_L_law_693 ?_
  refine er_iadd d_L_law_694 ?_
  refine er_sld (by omega) (by omega) hL d_L_law_695 ?_
  refine er_lc (b := 1) (As := [.inl (K.2.2.2.2.2.2 ((i : Int) + 1).toNat).toInt, .inl (K.2.2.2.2.2.2 ((i : Int) + 2).toNat).toInt]) (st := []) ml_L_102 mw_R_layerLoad md_R_layerLoad ⟨rfl, rfl⟩ rfl (Nat.le_of_ble_eq_true rfl) sh_1 rfl ⟨Nat.le_of_ble_eq_true rfl, Nat.le_of_ble_eq_true rfl⟩ rfl ⟨Nat.le_of_ble_eq_true rfl, Nat.le_of_ble_eq_true rfl⟩ d_L_law_696 (sp_R_layerLoad hc (by omega) (er_int _) (er_int _) (fun m1 q1 k1 => ?_))
  refine er_aload_n rfl rfl d_L_law_699 ?_
  refine er_aload_n rfl rfl d_L_law_700 ?_
  refine er_iload_n rfl rfl d_L_law_701 ?_
  refine er_iconst d_L_law_702 ?_
  refine er_iadd d_L_law_703 ?_
  refine er_sld (by omega) (by omega) hL d_L_law_704 ?_
  refine er_aload_n rfl rfl d_L_law_705 ?_
  refine er_iload_n rfl rfl d_L_law_706 ?_
  refine er_iconst d_L_law_707 ?_
  refine er_iadd d_L_law_708 ?_
  refine er_sld (by omega) (by omega) hL d_L_law_709 ?_
  refine er_lc (b := 83) (As := [.inl (K.2.2.2.2.2.2 ((i : Int) + 1).toNat).toInt, .inl (K.2.2.2.2.2.2 ((i : Int) + 2).toNat).toInt]) (st := [.inl (er_qLoad b ((K.2.2.2.2.2.2 ((i : Int) + 1).toNat).toInt) ((K.2.2.2.2.2.2 ((i : Int) + 2).toNat).toInt))]) ml_L_105 mw_M_layerLoad md_M_layerLoad ⟨rfl, rfl⟩ rfl (Nat.le_of_ble_eq_true rfl) sh_83 rfl ⟨Nat.le_of_ble_eq_true rfl, Nat.le_of_ble_eq_true rfl⟩ rfl ⟨Nat.le_of_ble_eq_true rfl, Nat.le_of_ble_eq_true rfl⟩ d_L_law_710 (sp_M_layerLoad (hm.kc k1) (er_int _) (er_int _) (fun m2 q2 k2 => ?_))
  refine er_icmpS (tgt := 770) (by decide) d_L_law_713 ?_
  exact hn m2 _ _ _ _ (q1.km k2) q2
theorem er_case_22 {i n : Nat} {b : er_Bo} {H : List er_Bo} {f : Int → Int} {c : Int} (hc : er_CI m b H n f c) (hm : er_MI m b H n f) (hc0 : c < 1998900000) (hi : i + 5 ≤ K.2.2.2.2.2.1) (hL : K.2.2.2.2.2.1 ≤ 2147483648) (hn : er_TN nm K Z i c) : er_LW nm K Z i 718 m := by
  refine er_aload_n rfl rfl d_L_law_718 ?_
  refine er_lc (b := 1) (As := []) (st := []) ml_L_106 mw_R_bestStrategy md_R_bestStrategy ⟨rfl, rfl⟩ rfl (Nat.le_of_ble_eq_true rfl) sh_1 rfl ⟨Nat.le_of_ble_eq_true rfl, Nat.le_of_ble_eq_true rfl⟩ rfl ⟨Nat.le_of_ble_eq_true rfl, Nat.le_of_ble_eq_true rfl⟩ d_L_law_719 (sp_R_bestStrategy hc hc0 (fun m1 q1 k1 => ?_))
  refine er_aload_n rfl rfl d_L_law_722 ?_
  refine er_lc (b := 83) (As := []) (st := [.inl (er_best b 4 0 (-9) 37)]) ml_L_109 mw_M_bestStrategy md_M_bestStrategy ⟨rfl, rfl⟩ rfl (Nat.le_of_ble_eq_true rfl) sh_83 rfl ⟨Nat.le_of_ble_eq_true rfl, Nat.le_of_ble_eq_true rfl⟩ rfl ⟨Nat.le_of_ble_eq_true rfl, Nat.le_of_ble_eq_true rfl⟩ d_L_law_723 (sp_M_bestStrategy (hm.kc k1)  (fun m2 q2 k2 => ?_))
  refine er_icmpS (tgt := 770) (by decide) d_L_law_726 ?_
  exact hn m2 _ _ _ _ (q1.km k2) q2
theorem er_case_23 {i n : Nat} {b : er_Bo} {H : List er_Bo} {f : Int → Int} {c : Int} (hc : er_CI m b H n f c) (hm : er_MI m b H n f) (hc0 : c < 1998900000) (hi : i + 5 ≤ K.2.2.2.2.2.1) (hL : K.2.2.2.2.2.1 ≤ 2147483648) (hn : er_TN nm K Z i c) : er_LW nm K Z i 731 m := by
  refine er_aload_n rfl rfl d_L_law_731 ?_
  refine er_lc (b := 1) (As := []) (st := []) ml_L_110 mw_R_throughput md_R_throughput ⟨rfl, rfl⟩ rfl (Nat.le_of_ble_eq_true rfl) sh_1 rfl ⟨Nat.le_of_ble_eq_true rfl, Nat.le_of_ble_eq_true rfl⟩ rfl ⟨Nat.le_of_ble_eq_true rfl, Nat.le_of_ble_eq_true rfl⟩ d_L_law_732 (sp_R_throughput hc (by omega) (fun m1 x rm hx hx0 hx1 q1 k1 => ?_))
  refine er_aload_n rfl rfl d_L_law_735 ?_
  refine er_lc (b := 83) (As := []) (st := [.inl x]) ml_L_113 mw_M_throughput md_M_throughput ⟨rfl, rfl⟩ rfl (Nat.le_of_ble_eq_true rfl) sh_83 rfl ⟨Nat.le_of_ble_eq_true rfl, Nat.le_of_ble_eq_true rfl⟩ rfl ⟨Nat.le_of_ble_eq_true rfl, Nat.le_of_ble_eq_true rfl⟩ d_L_law_736 (sp_M_throughput (hm.kc k1) (fun m2 y rm2 hy hy0 hy1 q2 k2 => ?_))
  have e2 : y = x := (er_thr_same hc.1.2.1 hx hy).symm
  subst e2
  refine er_icmpS (tgt := 770) (by decide) d_L_law_739 ?_
  exact hn m2 _ _ _ _ (q1.km k2) q2
theorem er_low_same {b : er_Bo} {v w : Int} (hv : er_BV b) (h1 : (er_sig b = 0 ∧ v = 0) ∨ (er_sig b ≠ 0 ∧ ∃ x rm, er_max (er_Lthr b) rm x ∧ ((0 < x ∧ v = (er_sig b + x - 1) / x) ∨ (x = 0 ∧ v = -9)))) (h2 : (er_sig b = 0 ∧ w = 0) ∨ (er_sig b ≠ 0 ∧ ∃ x rm, er_max (er_Mthr b) rm x ∧ ((0 < x ∧ w = (er_sig b + x - 1) / x) ∨ (x = 0 ∧ w = -9)))) : w = v := by
  rcases h1 with ⟨z1, z2⟩ | ⟨z1, x, rm, z2, z3⟩
  · rcases h2 with ⟨y1, y2⟩ | ⟨y1, y2⟩
    · rw [z2, y2]
    · exact absurd z1 y1
  · rcases h2 with ⟨y1, y2⟩ | ⟨y1, x2, rm2, y2, y3⟩
    · exact absurd y1 z1
    · have hs := er_thr_same hv z2 y2
      subst hs
      rcases z3 with ⟨a1, a2⟩ | ⟨a1, a2⟩ <;> rcases y3 with ⟨c1, c2⟩ | ⟨c1, c2⟩
      · rw [a2, c2]
      · omega
      · omega
      · rw [a2, c2]

theorem er_case_24 {i n : Nat} {b : er_Bo} {H : List er_Bo} {f : Int → Int} {c : Int} (hc : er_CI m b H n f c) (hm : er_MI m b H n f) (hc0 : c < 1998900000) (hi : i + 5 ≤ K.2.2.2.2.2.1) (hL : K.2.2.2.2.2.1 ≤ 2147483648) (hn : er_TN nm K Z i c) : er_LW nm K Z i 744 m := by
  refine er_aload_n rfl rfl d_L_law_744 ?_
  refine er_lc (b := 1) (As := []) (st := []) ml_L_114 mw_R_lowerBound md_R_lowerBound ⟨rfl, rfl⟩ rfl (Nat.le_of_ble_eq_true rfl) sh_1 rfl ⟨Nat.le_of_ble_eq_true rfl, Nat.le_of_ble_eq_true rfl⟩ rfl ⟨Nat.le_of_ble_eq_true rfl, Nat.le_of_ble_eq_true rfl⟩ d_L_law_745 (sp_R_lowerBound hc (by omega) (fun m1 x hx q1 k1 => ?_))
  refine er_aload_n rfl rfl d_L_law_748 ?_
  refine er_lc (b := 83) (As := []) (st := [.inl x]) ml_L_117 mw_M_lowerBound md_M_lowerBound ⟨rfl, rfl⟩ rfl (Nat.le_of_ble_eq_true rfl) sh_83 rfl ⟨Nat.le_of_ble_eq_true rfl, Nat.le_of_ble_eq_true rfl⟩ rfl ⟨Nat.le_of_ble_eq_true rfl, Nat.le_of_ble_eq_true rfl⟩ d_L_law_749 (sp_M_lowerBound (hm.kc k1) (fun m2 y hy q2 k2 => ?_))
  have e2 : y = x := er_low_same hc.1.2.1 hx hy
  subst e2
  refine er_icmpS (tgt := 770) (by decide) d_L_law_752 ?_
  exact hn m2 _ _ _ _ (q1.km k2) q2
theorem er_case_25 {i n : Nat} {b : er_Bo} {H : List er_Bo} {f : Int → Int} {c : Int} (hc : er_CI m b H n f c) (hm : er_MI m b H n f) (hc0 : c < 1998900000) (hi : i + 5 ≤ K.2.2.2.2.2.1) (hL : K.2.2.2.2.2.1 ≤ 2147483648) (hn : er_TN nm K Z i c) : er_LW nm K Z i 757 m := by
  refine er_aload_n rfl rfl d_L_law_757 ?_
  refine er_lc (b := 1) (As := []) (st := []) ml_L_118 mw_R_undo md_R_undo ⟨rfl, rfl⟩ rfl (Nat.le_of_ble_eq_true rfl) sh_1 rfl ⟨Nat.le_of_ble_eq_true rfl, Nat.le_of_ble_eq_true rfl⟩ rfl ⟨Nat.le_of_ble_eq_true rfl, Nat.le_of_ble_eq_true rfl⟩ d_L_law_758 (sp_R_undo hc  (fun m1 a ha q1 k1 => ?_))
  refine er_aload_n rfl rfl d_L_law_761 ?_
  refine er_lc (b := 83) (As := []) (st := [.inl a.1]) ml_L_121 mw_M_undo md_M_undo ⟨rfl, rfl⟩ rfl (Nat.le_of_ble_eq_true rfl) sh_83 rfl ⟨Nat.le_of_ble_eq_true rfl, Nat.le_of_ble_eq_true rfl⟩ rfl ⟨Nat.le_of_ble_eq_true rfl, Nat.le_of_ble_eq_true rfl⟩ d_L_law_762 (sp_M_undo (hm.kc k1)  (fun m2 a2 ha2 q2 k2 => ?_))
  have e2 : a2 = a := ha2.trans ha.symm
  subst e2
  refine er_icmpS (tgt := 770) (by decide) d_L_law_765 ?_
  exact hn m2 _ _ _ _ ((q1.km k2).up (by omega)) q2
end ERLAW
