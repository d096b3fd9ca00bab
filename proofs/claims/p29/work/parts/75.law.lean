/-! the law: printed in part by wip/p29/gen75.py -/
def i_law (nm : String) : er_I := (⟨"EscapeRouterLaw", nm, "([I)Z"⟩, code, 11, ret, room_1)
section ER75
variable {K : er_K} {nm : String} {m : er_M} {Z : List Frame → Array Value → State → State → Prop} {b : er_Bo} {H : List er_Bo} {n : Nat} {f : Int → Int} {c0 : Int}
abbrev er_LX (nm : String) (K : er_K) (Z : List Frame → Array Value → State → State → Prop) (m : er_M) (pc : Nat) (ls : List (Option er_V)) (st : List er_V) (lx : List (Nat × Value)) (sx : List Value) : Prop := er_WX K (i_law nm) 83 8950 er_SH m pc ls st lx sx Z
theorem er_sums {m' m1 : er_M} {R C : Nat} (k1 : er_kp er_cf m' m1) : er_sum R (fun r => er_sum C (fun c => er_ic (m1 83 (6 * (r : Int) + c) = 1))) = er_sum R (fun r => er_sum C (fun c => er_ic (m' 83 (6 * (r : Int) + c) = 1))) :=
  er_sum_congr (fun r _ => er_sum_congr (fun c _ => by show er_ic (m1 83 _ = 1) = er_ic (m' 83 _ = 1); rw [k1 83 _ (by unfold er_cf; omega)]))
theorem er_sums_bd {m' : er_M} {R C : Nat} (hR : R ≤ 6) (hC : C ≤ 6) : 0 ≤ er_sum R (fun r => er_sum C (fun c => er_ic (m' 83 (6 * (r : Int) + c) = 1))) ∧ er_sum R (fun r => er_sum C (fun c => er_ic (m' 83 (6 * (r : Int) + c) = 1))) ≤ 36 := by
  refine ⟨er_sum_nonneg (fun r _ => er_sum_nonneg (fun c _ => er_ic_nn _)), ?_⟩
  have h1 : ∀ r, r < R → er_sum C (fun c => er_ic (m' 83 (6 * (r : Int) + c) = 1)) ≤ 6 := by
    intro r _
    refine Int.le_trans (er_sum_le (g := fun _ => 1) (fun c _ => by rcases er_ic_01 (m' 83 (6 * (r : Int) + c) = 1) with z | z <;> rw [z] <;> decide)) ?_
    rw [er_sum_ones]
    omega
  refine Int.le_trans (er_sum_le h1) ?_
  rw [show (fun _ : Nat => (6 : Int)) = (fun _ => 6 * 1) from rfl, er_sum_mul, er_sum_ones]
  omega
theorem er_push_len (H : List er_Bo) (b : er_Bo) (h8 : H.length ≤ 8) : ((er_push H b).length : Int) = if (H.length : Int) < 8 then (H.length : Int) + 1 else 8 := by
  unfold er_push
  rw [List.length_append, List.length_singleton]
  by_cases h : H.length = 8
  · rw [if_pos h, if_neg (by omega), List.length_tail]; omega
  · rw [if_neg h, if_pos (by omega)]; omega
theorem er_push_undo (b1 b : er_Bo) (H : List er_Bo) : er_aUndo b1 (er_push H b) = (((er_push H b).length : Int) - 1, b, (er_push H b).dropLast) := by
  unfold er_aUndo
  have hne : er_push H b ≠ [] := by unfold er_push; simp
  rw [er_if_f hne]
  have : (er_push H b).getLastD b1 = b := by unfold er_push; simp
  rw [this]
theorem er_nsel_0 : er_nsel er_b0 = 0 := er_sum_zero (fun _ _ => rfl)
/-- a turn that is over -/
def er_T0 (nm : String) (K : er_K) (Z : List Frame → Array Value → State → State → Prop) (n : Nat) (f : Int → Int) (e : Nat) (c : Int) : Prop := ∀ (m : er_M) (b : er_Bo) (H : List er_Bo), er_CI m b H n f c → er_LX nm K Z m 102 [some (.inr 0), some (.inr 1), some (.inr 83), none, none, some (.inl (H.length : Int)), some (.inl (e : Int)), none, none, none, none] [] [] []
theorem er_p232 {e : Nat} {v g : Int} {T : Int64} {c1 : Int} (h : er_CI m b H n f c1) (hc : c1 ≤ c0) (hn : er_T0 nm K Z n f (e + 1) c0) : er_LX nm K Z m 232 [some (.inr 0), some (.inr 1), some (.inr 83), none, none, some (.inl (H.length : Int)), some (.inl (e : Int)), some (.inl v), none, none, some (.inl g)] [] [(8, Value.long (T))] [] := by
  refine ex_iinc [some (.inr 0), some (.inr 1), some (.inr 83), none, none, some (.inl (H.length : Int)), some (.inl ((e : Int) + 1)), some (.inl v), none, none, some (.inl g)] rfl (Nat.le_of_ble_eq_true rfl) rfl rfl d_L_law_232 ?_
  refine ex_goto (tgt := 102) (by decide) d_L_law_235 ?_
  refine ex_forget [some (.inr 0), some (.inr 1), some (.inr 83), none, none, some (.inl (H.length : Int)), some (.inl ((e : Int) + 1)), none, none, none, none] ⟨rfl, rfl, rfl, rfl, rfl, trivial⟩ [] (fun _ z => absurd z List.not_mem_nil) ?_
  exact hn m b H (h.up hc)
theorem er_p189R {e : Nat} {v g : Int} {T : Int64} {c1 : Int} {s0 : Int} (ig : er_in g) (hg : g < 0) (h : er_CI m b H n f c1) (hc : c1 ≤ c0) (hn : er_T0 nm K Z n f (e + 1) c0) : er_LX nm K Z m 189 [some (.inr 0), some (.inr 1), some (.inr 83), none, none, some (.inl s0), some (.inl (e : Int)), some (.inl v), none, none, some (.inl g)] [.inl (H.length : Int)] [(8, Value.long (T))] [] := by
  refine ex_istore [some (.inr 0), some (.inr 1), some (.inr 83), none, none, some (.inl (H.length : Int)), some (.inl (e : Int)), some (.inl v), none, none, some (.inl g)] (Nat.le_of_ble_eq_true rfl) rfl rfl d_L_law_189 ?_
  refine ex_iload rfl d_L_law_191 ?_
  exact ex_if_lt (tgt := 232) (by decide) ig d_L_law_193 (fun _ => er_p232 h hc hn) (fun z => absurd hg (by omega))
theorem er_p189D {e : Nat} {v g : Int} {c1 : Int} {s0 : Int} {b1 : er_Bo} (ig : er_in g) (hg : 0 ≤ g) (h : er_CI m b1 (er_push H b) n f c1) (hc : c1 + 240000 ≤ c0) (hc1 : c1 < 1998400000) (h8 : (er_push H b).length ≤ 8) (hn : er_T0 nm K Z n f (e + 1) c0) : er_LX nm K Z m 189 [some (.inr 0), some (.inr 1), some (.inr 83), none, none, some (.inl s0), some (.inl (e : Int)), some (.inl v), none, none, some (.inl g)] [.inl ((er_push H b).length : Int)] [(8, Value.long (er_tale b))] [] := by
  refine ex_istore [some (.inr 0), some (.inr 1), some (.inr 83), none, none, some (.inl ((er_push H b).length : Int)), some (.inl (e : Int)), some (.inl v), none, none, some (.inl g)] (Nat.le_of_ble_eq_true rfl) rfl rfl d_L_law_189 ?_
  refine ex_iload rfl d_L_law_191 ?_
  refine ex_if_lt (tgt := 232) (by decide) ig d_L_law_193 (fun z => absurd hg (by omega)) (fun _ => ?_)
  refine ex_iload rfl d_L_law_196 ?_
  refine ex_bipush (by decide) d_L_law_198 ?_
  refine ex_ishrN d_L_law_200 (fun y1 _ => ?_)
  refine ex_iconst d_L_law_201 ?_
  refine ex_iandN 2 (by decide +kernel) (by decide +kernel) d_L_law_202 (fun y2 y20 y21 => ?_)
  refine ex_if_ne (tgt := 232) (by decide) ⟨by omega, by omega⟩ d_L_law_203 (fun _ => er_p232 h (by omega) hn) (fun _ => ?_)
  refine ex_aload_n rfl rfl d_L_law_206 ?_
  refine ex_lc (b := 1) (As := []) (st := []) ml_L_104 mw_R_undo md_R_undo ⟨rfl, rfl⟩ rfl (Nat.le_of_ble_eq_true rfl) sh_1 rfl ⟨(Nat.le_of_ble_eq_true rfl), (Nat.le_of_ble_eq_true rfl)⟩ rfl ⟨(Nat.le_of_ble_eq_true rfl), (Nat.le_of_ble_eq_true rfl)⟩ d_L_law_207 (sp_R_undo h (fun m2 a ha q1 k1 => ?_))
  rw [er_push_undo] at ha
  subst ha
  refine ex_iload rfl d_L_law_210 ?_
  refine ex_iconst d_L_law_212 ?_
  refine ex_isub d_L_law_213 ?_
  refine ex_icmp_ne (tgt := 227) (by decide) ⟨by show _ ≤ ((er_push H b).length : Int) - 1; omega, by show ((er_push H b).length : Int) - 1 < _; omega⟩ ⟨by omega, by omega⟩ d_L_law_214 (fun z => absurd rfl z) (fun _ => ?_)
  refine ex_aload_n rfl rfl d_L_law_217 ?_
  refine ex_ll (As := [.inr 1]) ml_L_107 rfl mw_L_tale md_L_tale ⟨rfl, rfl⟩ rfl (Nat.le_of_ble_eq_true rfl) ⟨(Nat.le_of_ble_eq_true rfl), (Nat.le_of_ble_eq_true rfl)⟩ rfl ⟨(Nat.le_of_ble_eq_true rfl), (Nat.le_of_ble_eq_true rfl)⟩ d_L_law_218 (sp_L_tale q1 (by omega) (fun m3 q2 k2 => ?_))
  refine ex_lload List.mem_cons_self d_L_law_221 ?_
  refine ex_lcmp d_L_law_223 ?_
  refine ex_if_eq (tgt := 229) (by decide) (by decide) d_L_law_224 (fun _ => ?_) (fun z => absurd rfl z)
  refine ex_iinc [some (.inr 0), some (.inr 1), some (.inr 83), none, none, some (.inl (((er_push H b).length : Int) + (-1))), some (.inl (e : Int)), some (.inl v), none, none, some (.inl g)] rfl (Nat.le_of_ble_eq_true rfl) rfl rfl d_L_law_229 ?_
  have hd : ((er_push H b).length : Int) + (-1) = ((er_push H b).dropLast.length : Int) := by
    have : 0 < (er_push H b).length := by unfold er_push; simp
    rw [List.length_dropLast]
    omega
  rw [hd]
  exact er_p232 q2 (by omega) hn
theorem er_p163 {e : Nat} {v g : Int} {c1 : Int} {b1 : er_Bo} {H1 : List er_Bo} (ig : er_in g) (ha : (g < 0 ∧ b1 = b ∧ H1 = H) ∨ (0 ≤ g ∧ H1 = er_push H b)) (h8 : H.length ≤ 8) (hp8 : (er_push H b).length ≤ 8) (h : er_CI m b1 H1 n f c1) (hc : c1 + 240000 ≤ c0) (hc1 : c1 < 1998400000) (hn : er_T0 nm K Z n f (e + 1) c0) : er_LX nm K Z m 163 [some (.inr 0), some (.inr 1), some (.inr 83), none, none, some (.inl (H.length : Int)), some (.inl (e : Int)), some (.inl v), none, none, some (.inl g)] [] [(8, Value.long (er_tale b))] [] := by
  refine ex_iload rfl d_L_law_163 ?_
  refine ex_if_ge (tgt := 173) (by decide) ig d_L_law_165 (fun hg => ?_) (fun hg => ?_)
  · obtain hH : H1 = er_push H b := by rcases ha with z | z; exact absurd z.1 (by omega); exact z.2
    subst hH
    have hl := er_push_len H b h8
    refine ex_iload rfl d_L_law_173 ?_
    refine ex_bipush (by decide) d_L_law_175 ?_
    refine ex_icmp_ge (tgt := 187) (by decide) ⟨by omega, by omega⟩ (by decide) d_L_law_177 (fun hge => ?_) (fun hlt => ?_)
    · rw [if_neg (by omega)] at hl
      refine ex_bipush (by decide) d_L_law_187 ?_
      rw [← hl]
      exact er_p189D ig hg h hc hc1 hp8 hn
    · rw [if_pos hlt] at hl
      refine ex_iload rfl d_L_law_180 ?_
      refine ex_iconst d_L_law_182 ?_
      refine ex_iadd d_L_law_183 ?_
      refine ex_goto (tgt := 189) (by decide) d_L_law_184 ?_
      rw [← hl]
      exact er_p189D ig hg h hc hc1 hp8 hn
  · obtain ⟨hb, hH⟩ : b1 = b ∧ H1 = H := by rcases ha with z | z; exact z.2; exact absurd z.1 (by omega)
    subst hb
    subst hH
    refine ex_iload rfl d_L_law_168 ?_
    refine ex_goto (tgt := 189) (by decide) d_L_law_170 ?_
    exact er_p189R ig hg h (by omega) hn
theorem er_p146 {e : Nat} {v g : Int} {c1 : Int} {b1 : er_Bo} {H1 : List er_Bo} (ig : er_in g) (ha : (g < 0 ∧ b1 = b ∧ H1 = H) ∨ (0 ≤ g ∧ H1 = er_push H b)) (h8 : H.length ≤ 8) (hp8 : (er_push H b).length ≤ 8) (h : er_CI m b1 H1 n f c1) (hc : c1 + 360000 ≤ c0) (hc1 : c1 < 1998200000) (he : e < 30) (hn : er_T0 nm K Z n f (e + 1) c0) : er_LX nm K Z m 146 [some (.inr 0), some (.inr 1), some (.inr 83), none, none, some (.inl (H.length : Int)), some (.inl (e : Int)), some (.inl v), none, none, some (.inl g)] [] [(8, Value.long (er_tale b))] [] := by
  refine ex_iload rfl d_L_law_146 ?_
  refine ex_bipush (by decide) d_L_law_148 ?_
  refine ex_irem (by omega) (by omega) (by decide) (by decide) d_L_law_150 ?_
  refine ex_if_ne (tgt := 163) (by decide) ⟨by omega, by omega⟩ d_L_law_151 (fun _ => er_p163 ig ha h8 hp8 h (by omega) (by omega) hn) (fun _ => ?_)
  refine ex_aload_n rfl rfl d_L_law_154 ?_
  refine ex_ls (As := [.inr 1]) (st := []) ml_L_126 rfl mw_L_holds md_L_holds ⟨rfl, rfl⟩ rfl (Nat.le_of_ble_eq_true rfl) ⟨(Nat.le_of_ble_eq_true rfl), (Nat.le_of_ble_eq_true rfl)⟩ rfl ⟨(Nat.le_of_ble_eq_true rfl), (Nat.le_of_ble_eq_true rfl)⟩ d_L_law_155 (sp_L_holds h (by omega) (fun m2 h2 k2 => ?_))
  exact ex_if_ne (tgt := 163) (by decide) (by decide) d_L_law_158 (fun _ => er_p163 ig ha h8 hp8 h2 (by omega) (by omega) hn) (fun z => absurd z (by decide))
theorem er_turn (hL : K.2.2.2.2.2.1 ≤ 260) {e : Nat} (he : e < 30) (h : er_CI m b H n f c0) (hc0 : c0 < 1997000000) (hn : er_T0 nm K Z n f (e + 1) (c0 + 1000000)) : er_LX nm K Z m 109 [some (.inr 0), some (.inr 1), some (.inr 83), none, none, some (.inl (H.length : Int)), some (.inl (e : Int)), none, none, none, none] [] [] [] := by
  have h8 := h.1.2.2.1.2.1
  refine ex_aload_n rfl rfl d_L_law_109 ?_
  refine ex_iload rfl d_L_law_110 ?_
  refine ex_ls (As := [.inr 0, .inl (e : Int)]) (st := []) ml_L_8 rfl mw_L_cell md_L_cell ⟨rfl, rfl⟩ rfl (Nat.le_of_ble_eq_true rfl) ⟨(Nat.le_of_ble_eq_true rfl), (Nat.le_of_ble_eq_true rfl)⟩ rfl ⟨(Nat.le_of_ble_eq_true rfl), (Nat.le_of_ble_eq_true rfl)⟩ d_L_law_112 (sp_L_cell hL (by omega) (by omega) (fun v => ?_))
  refine ex_istore [some (.inr 0), some (.inr 1), some (.inr 83), none, none, some (.inl (H.length : Int)), some (.inl (e : Int)), some (.inl v), none, none, none] (Nat.le_of_ble_eq_true rfl) rfl rfl d_L_law_115 ?_
  refine ex_aload_n rfl rfl d_L_law_117 ?_
  refine ex_ll (As := [.inr 1]) ml_L_107 rfl mw_L_tale md_L_tale ⟨rfl, rfl⟩ rfl (Nat.le_of_ble_eq_true rfl) ⟨(Nat.le_of_ble_eq_true rfl), (Nat.le_of_ble_eq_true rfl)⟩ rfl ⟨(Nat.le_of_ble_eq_true rfl), (Nat.le_of_ble_eq_true rfl)⟩ d_L_law_118 (sp_L_tale h (by omega) (fun m1 h1 k1 => ?_))
  refine ex_lstore (Nat.le_of_ble_eq_true rfl) rfl rfl d_L_law_121 ?_
  refine ex_aload_n rfl rfl d_L_law_123 ?_
  refine ex_iload rfl d_L_law_124 ?_
  refine ex_ls (As := [.inr 1, .inl v]) (st := []) ml_L_122 rfl mw_L_does md_L_does ⟨rfl, rfl⟩ rfl (Nat.le_of_ble_eq_true rfl) ⟨(Nat.le_of_ble_eq_true rfl), (Nat.le_of_ble_eq_true rfl)⟩ rfl ⟨(Nat.le_of_ble_eq_true rfl), (Nat.le_of_ble_eq_true rfl)⟩ d_L_law_126 (sp_L_does h1 (fun m2 a ha h2 k2 => ?_))
  have hp8 : (er_push H b).length ≤ 8 := by have := er_push_len H b h8; split at this <;> omega
  obtain ⟨ig, ha⟩ := ha
  refine ex_istore [some (.inr 0), some (.inr 1), some (.inr 83), none, none, some (.inl (H.length : Int)), some (.inl (e : Int)), some (.inl v), none, none, some (.inl a.1)] (Nat.le_of_ble_eq_true rfl) rfl rfl d_L_law_129 ?_
  refine ex_iload rfl d_L_law_131 ?_
  refine ex_if_ge (tgt := 146) (by decide) ig d_L_law_133 (fun hg => er_p146 ig ha h8 hp8 h2 (by omega) (by omega) he hn) (fun hg => ?_)
  have hb : a.2.1 = b := by rcases ha with z | z; exact z.2.1; exact absurd z.1 (by omega)
  refine ex_aload_n rfl rfl d_L_law_136 ?_
  refine ex_ll (As := [.inr 1]) ml_L_107 rfl mw_L_tale md_L_tale ⟨rfl, rfl⟩ rfl (Nat.le_of_ble_eq_true rfl) ⟨(Nat.le_of_ble_eq_true rfl), (Nat.le_of_ble_eq_true rfl)⟩ rfl ⟨(Nat.le_of_ble_eq_true rfl), (Nat.le_of_ble_eq_true rfl)⟩ d_L_law_137 (sp_L_tale h2 (by omega) (fun m3 h3 k3 => ?_))
  rw [hb]
  refine ex_lload List.mem_cons_self d_L_law_140 ?_
  refine ex_lcmp d_L_law_142 ?_
  exact ex_if_ne (tgt := 161) (by decide) (by decide) d_L_law_143 (fun z => absurd rfl z) (fun _ => er_p146 ig ha h8 hp8 h3 (by omega) (by omega) he hn)
theorem er_last29 (h : er_CI m b H n f c0) (hc0 : c0 < 1997000000) (hend : ∀ (m : er_M) (ls : List (Option er_V)) (lx : List (Nat × Value)), er_LX nm K Z m 326 ls [.inl 1] lx []) : er_LX nm K Z m 238 [some (.inr 0), some (.inr 1), some (.inr 83), none, none, none, none, none, none, none, none] [] [] [] := by
  refine ex_aload_n rfl rfl d_L_law_238 ?_
  refine ex_ls (As := [.inr 1]) (st := []) ml_L_126 rfl mw_L_holds md_L_holds ⟨rfl, rfl⟩ rfl (Nat.le_of_ble_eq_true rfl) ⟨(Nat.le_of_ble_eq_true rfl), (Nat.le_of_ble_eq_true rfl)⟩ rfl ⟨(Nat.le_of_ble_eq_true rfl), (Nat.le_of_ble_eq_true rfl)⟩ d_L_law_239 (sp_L_holds h (by omega) (fun m1 h1 k1 => ?_))
  refine ex_if_ne (tgt := 247) (by decide) (by decide) d_L_law_242 (fun _ => ?_) (fun z => absurd z (by decide))
  refine ex_aload_n rfl rfl d_L_law_247 ?_
  refine ex_ll (As := [.inr 1]) ml_L_107 rfl mw_L_tale md_L_tale ⟨rfl, rfl⟩ rfl (Nat.le_of_ble_eq_true rfl) ⟨(Nat.le_of_ble_eq_true rfl), (Nat.le_of_ble_eq_true rfl)⟩ rfl ⟨(Nat.le_of_ble_eq_true rfl), (Nat.le_of_ble_eq_true rfl)⟩ d_L_law_248 (sp_L_tale h1 (by omega) (fun m2 h2 k2 => ?_))
  refine ex_lstore (Nat.le_of_ble_eq_true rfl) rfl rfl d_L_law_251 ?_
  refine ex_aload_n rfl rfl d_L_law_253 ?_
  refine ex_lc (b := 1) (As := []) (st := []) ml_L_18 mw_R_clearText md_R_clearText ⟨rfl, rfl⟩ rfl (Nat.le_of_ble_eq_true rfl) sh_1 rfl ⟨(Nat.le_of_ble_eq_true rfl), (Nat.le_of_ble_eq_true rfl)⟩ rfl ⟨(Nat.le_of_ble_eq_true rfl), (Nat.le_of_ble_eq_true rfl)⟩ d_L_law_254 (sp_R_clearText h2 (fun m3 h3 k3 => ?_))
  refine ex_pop d_L_law_257 ?_
  refine ex_aload_n rfl rfl d_L_law_258 ?_
  refine ex_bipush (by decide) d_L_law_259 ?_
  refine ex_lc (b := 1) (As := [.inl 115]) (st := []) ml_L_24 mw_R_appendCharacter md_R_appendCharacter ⟨rfl, rfl⟩ rfl (Nat.le_of_ble_eq_true rfl) sh_1 rfl ⟨(Nat.le_of_ble_eq_true rfl), (Nat.le_of_ble_eq_true rfl)⟩ rfl ⟨(Nat.le_of_ble_eq_true rfl), (Nat.le_of_ble_eq_true rfl)⟩ d_L_law_261 (sp_R_append h3 (by decide) (fun m4 a ha h4 k4 => ?_))
  rw [er_aApp_ok (by decide) (by decide) (by decide)] at ha
  subst ha
  refine ex_pop d_L_law_264 ?_
  refine ex_aload_n rfl rfl d_L_law_265 ?_
  refine ex_lc (b := 1) (As := []) (st := []) ml_L_115 mw_R_loadGrid md_R_loadGrid ⟨rfl, rfl⟩ rfl (Nat.le_of_ble_eq_true rfl) sh_1 rfl ⟨(Nat.le_of_ble_eq_true rfl), (Nat.le_of_ble_eq_true rfl)⟩ rfl ⟨(Nat.le_of_ble_eq_true rfl), (Nat.le_of_ble_eq_true rfl)⟩ d_L_law_266 (sp_R_loadGrid h4 (fun m5 a ha h5 k5 => ?_))
  have el : er_aLoad b H (0 + 1) (er_u f ((0 : Nat) : Int) 115) = (-11, b, H, 0 + 1) := by
    have e1 : er_rd (er_u f ((0 : Nat) : Int) 115) (0 + 1) 0 er_st0 = (1, (0, 6, 1, er_u (fun _ => 0) (6 * ((0 : Nat) : Int) + ((0 : Nat) : Int)) 1)) := by
      simp only [er_rd]
      rw [er_u_s, show er_st0 = (0, 6, 0, fun _ => 0) from rfl, er_stp_pin (Or.inr (Or.inr ⟨rfl, rfl⟩)) (by decide) (by decide)]
      simp
    unfold er_aLoad
    rw [e1, er_if_f (by decide)]
    rfl
  rw [el] at ha
  subst ha
  refine ex_bipush (by decide) d_L_law_269 ?_
  refine ex_icmp_ne (tgt := 325) (by decide) (show er_in (-11) by decide) (by decide) d_L_law_271 (fun z => absurd rfl z) (fun _ => ?_)
  refine ex_aload_n rfl rfl d_L_law_274 ?_
  refine ex_ll (As := [.inr 1]) ml_L_107 rfl mw_L_tale md_L_tale ⟨rfl, rfl⟩ rfl (Nat.le_of_ble_eq_true rfl) ⟨(Nat.le_of_ble_eq_true rfl), (Nat.le_of_ble_eq_true rfl)⟩ rfl ⟨(Nat.le_of_ble_eq_true rfl), (Nat.le_of_ble_eq_true rfl)⟩ d_L_law_275 (sp_L_tale h5 (by omega) (fun m6 h6 k6 => ?_))
  refine ex_lload List.mem_cons_self d_L_law_278 ?_
  refine ex_lcmp d_L_law_280 ?_
  refine ex_if_ne (tgt := 325) (by decide) (by decide) d_L_law_281 (fun z => absurd rfl z) (fun _ => ?_)
  refine ex_aload_n rfl rfl d_L_law_284 ?_
  refine ex_lc (b := 1) (As := []) (st := []) ml_L_18 mw_R_clearText md_R_clearText ⟨rfl, rfl⟩ rfl (Nat.le_of_ble_eq_true rfl) sh_1 rfl ⟨(Nat.le_of_ble_eq_true rfl), (Nat.le_of_ble_eq_true rfl)⟩ rfl ⟨(Nat.le_of_ble_eq_true rfl), (Nat.le_of_ble_eq_true rfl)⟩ d_L_law_285 (sp_R_clearText h6 (fun m7 h7 k7 => ?_))
  refine ex_iconst d_L_law_288 ?_
  refine ex_icmp_ne (tgt := 325) (by decide) (show er_in 1 by decide) (by decide) d_L_law_289 (fun z => absurd rfl z) (fun _ => ?_)
  refine ex_aload_n rfl rfl d_L_law_292 ?_
  refine ex_iconst d_L_law_293 ?_
  refine ex_lc (b := 1) (As := [.inl (-1)]) (st := []) ml_L_24 mw_R_appendCharacter md_R_appendCharacter ⟨rfl, rfl⟩ rfl (Nat.le_of_ble_eq_true rfl) sh_1 rfl ⟨(Nat.le_of_ble_eq_true rfl), (Nat.le_of_ble_eq_true rfl)⟩ rfl ⟨(Nat.le_of_ble_eq_true rfl), (Nat.le_of_ble_eq_true rfl)⟩ d_L_law_294 (sp_R_append h7 (by decide) (fun m8 a ha h8 k8 => ?_))
  rw [show er_aApp 0 (er_u f ((0 : Nat) : Int) 115) (-1) = (-1, 0, er_u f ((0 : Nat) : Int) 115) from er_if_t (Or.inl (by decide))] at ha
  subst ha
  refine ex_iconst d_L_law_297 ?_
  refine ex_icmp_ne (tgt := 325) (by decide) (show er_in (-1) by decide) (by decide) d_L_law_298 (fun z => absurd rfl z) (fun _ => ?_)
  refine ex_aload_n rfl rfl d_L_law_301 ?_
  refine ex_iconst d_L_law_302 ?_
  refine ex_iconst d_L_law_303 ?_
  refine ex_lc (b := 1) (As := [.inl 4, .inl 1]) (st := []) ml_L_130 mw_R_layerLoad md_R_layerLoad ⟨rfl, rfl⟩ rfl (Nat.le_of_ble_eq_true rfl) sh_1 rfl ⟨(Nat.le_of_ble_eq_true rfl), (Nat.le_of_ble_eq_true rfl)⟩ rfl ⟨(Nat.le_of_ble_eq_true rfl), (Nat.le_of_ble_eq_true rfl)⟩ d_L_law_304 (sp_R_layerLoad h8 (by omega) (by decide) (by decide) (fun m9 h9 k9 => ?_))
  rw [show er_qLoad b 4 1 = -1 from er_if_t (Or.inl (by decide))]
  refine ex_iconst d_L_law_307 ?_
  refine ex_icmp_ne (tgt := 325) (by decide) (by decide) (by decide) d_L_law_308 (fun z => absurd rfl z) (fun _ => ?_)
  refine ex_aload_n rfl rfl d_L_law_311 ?_
  refine ex_ll (As := [.inr 1]) ml_L_107 rfl mw_L_tale md_L_tale ⟨rfl, rfl⟩ rfl (Nat.le_of_ble_eq_true rfl) ⟨(Nat.le_of_ble_eq_true rfl), (Nat.le_of_ble_eq_true rfl)⟩ rfl ⟨(Nat.le_of_ble_eq_true rfl), (Nat.le_of_ble_eq_true rfl)⟩ d_L_law_312 (sp_L_tale h9 (by omega) (fun m10 h10 k10 => ?_))
  refine ex_lload List.mem_cons_self d_L_law_315 ?_
  refine ex_lcmp d_L_law_317 ?_
  refine ex_if_ne (tgt := 325) (by decide) (by decide) d_L_law_318 (fun z => absurd rfl z) (fun _ => ?_)
  refine ex_iconst d_L_law_321 ?_
  refine ex_goto (tgt := 326) (by decide) d_L_law_322 ?_
  exact hend m10 _ _
theorem er_loop29 (hL : K.2.2.2.2.2.1 ≤ 260) (hend : ∀ (m : er_M) (ls : List (Option er_V)) (lx : List (Nat × Value)), er_LX nm K Z m 326 ls [.inl 1] lx []) : ∀ (d e : Nat), e + d = 30 → er_T0 nm K Z n f e (1000000 * ((e : Int) + 1)) := by
  intro d
  induction d with
  | zero =>
    intro e he m b H h
    refine ex_iload rfl d_L_law_102 ?_
    refine ex_bipush (by decide) d_L_law_104 ?_
    refine ex_icmp_ge (tgt := 238) (by decide) ⟨by omega, by omega⟩ (by decide) d_L_law_106 (fun _ => ?_) (fun hlt => by omega)
    refine ex_forget [some (.inr 0), some (.inr 1), some (.inr 83), none, none, none, none, none, none, none, none] ⟨rfl, rfl, rfl, trivial⟩ [] (fun _ z => absurd z List.not_mem_nil) ?_
    exact er_last29 h (by omega) hend
  | succ d ih =>
    intro e he m b H h
    refine ex_iload rfl d_L_law_102 ?_
    refine ex_bipush (by decide) d_L_law_104 ?_
    refine ex_icmp_ge (tgt := 238) (by decide) ⟨by omega, by omega⟩ (by decide) d_L_law_106 (fun hge => by omega) (fun _ => ?_)
    refine er_turn hL (by omega) h (by omega) ?_
    have := ih (e + 1) (by omega)
    rw [show 1000000 * (((e + 1 : Nat) : Int) + 1) = 1000000 * ((e : Int) + 1) + 1000000 by omega] at this
    exact this
theorem er_from33 (hL : K.2.2.2.2.2.1 ≤ 260) (hend : ∀ (m : er_M) (ls : List (Option er_V)) (lx : List (Nat × Value)), er_LX nm K Z m 326 ls [.inl 1] lx []) (h : er_CI m er_b0 [] 0 f 0) : er_LX nm K Z m 33 [some (.inr 0), some (.inr 1), some (.inr 83), none, none, none, none, none, none, none, none] [] [] [] := by
  refine ex_aload_n rfl rfl d_L_law_33 ?_
  refine ex_ll (As := [.inr 1]) ml_L_107 rfl mw_L_tale md_L_tale ⟨rfl, rfl⟩ rfl (Nat.le_of_ble_eq_true rfl) ⟨(Nat.le_of_ble_eq_true rfl), (Nat.le_of_ble_eq_true rfl)⟩ rfl ⟨(Nat.le_of_ble_eq_true rfl), (Nat.le_of_ble_eq_true rfl)⟩ d_L_law_34 (sp_L_tale h (by omega) (fun m1 h1 k1 => ?_))
  refine ex_lstore_n rfl (Nat.le_of_ble_eq_true rfl) rfl rfl d_L_law_37 ?_
  refine ex_aload_n rfl rfl d_L_law_38 ?_
  refine ex_aload_n rfl rfl d_L_law_39 ?_
  refine ex_bipush (by decide) d_L_law_40 ?_
  refine ex_aload_n rfl rfl d_L_law_42 ?_
  refine ex_lv (As := [.inr 1, .inr 0, .inl 50, .inr 83]) (st := []) ml_L_111 rfl mw_L_types md_L_types ⟨rfl, rfl⟩ rfl (Nat.le_of_ble_eq_true rfl) ⟨(Nat.le_of_ble_eq_true rfl), (Nat.le_of_ble_eq_true rfl)⟩ rfl ⟨(Nat.le_of_ble_eq_true rfl), (Nat.le_of_ble_eq_true rfl)⟩ d_L_law_43 (sp_L_types hL h1 (fun m2 R C N k2 f2 R1 R6 C1 C6 hR hC hw hp h2 => ?_))
  refine ex_aload_n rfl rfl d_L_law_46 ?_
  refine ex_lc (b := 1) (As := []) (st := []) ml_L_115 mw_R_loadGrid md_R_loadGrid ⟨rfl, rfl⟩ rfl (Nat.le_of_ble_eq_true rfl) sh_1 rfl ⟨(Nat.le_of_ble_eq_true rfl), (Nat.le_of_ble_eq_true rfl)⟩ rfl ⟨(Nat.le_of_ble_eq_true rfl), (Nat.le_of_ble_eq_true rfl)⟩ d_L_law_47 (sp_R_loadGrid h2 (fun m3 a ha h3 k3 => ?_))
  rw [er_typed R1 R6 C6 hw hp] at ha
  subst ha
  have hs := er_sums_bd (m' := m2) R6 C6
  refine ex_aload_n rfl rfl d_L_law_50 ?_
  have es := er_sums (R := R) (C := C) k3
  refine ex_ls (As := [.inr 83]) (st := [.inl _]) ml_L_118 rfl mw_L_signals md_L_signals ⟨rfl, rfl⟩ rfl (Nat.le_of_ble_eq_true rfl) ⟨(Nat.le_of_ble_eq_true rfl), (Nat.le_of_ble_eq_true rfl)⟩ rfl ⟨(Nat.le_of_ble_eq_true rfl), (Nat.le_of_ble_eq_true rfl)⟩ d_L_law_51 (sp_L_signals (by rw [k3 83 60 (by unfold er_cf; omega)]; exact hR) (by rw [k3 83 61 (by unfold er_cf; omega)]; exact hC) R6 C6 (fun r c hr hc => by rw [k3 83 _ (by unfold er_cf; omega)]; have := (hw (6 * (r : Int) + c) (by omega) (by omega)).1 (by omega); exact ⟨by omega, by omega⟩) ?_)
  rw [es]
  refine ex_icmp_ne (tgt := 73) (by decide) ⟨by show _ ≤ er_sum _ _; omega, by show er_sum _ _ < _; omega⟩ ⟨by omega, by omega⟩ d_L_law_54 (fun z => absurd rfl z) (fun _ => ?_)
  refine ex_aload_n rfl rfl d_L_law_57 ?_
  refine ex_lc (b := 1) (As := []) (st := []) ml_L_104 mw_R_undo md_R_undo ⟨rfl, rfl⟩ rfl (Nat.le_of_ble_eq_true rfl) sh_1 rfl ⟨(Nat.le_of_ble_eq_true rfl), (Nat.le_of_ble_eq_true rfl)⟩ rfl ⟨(Nat.le_of_ble_eq_true rfl), (Nat.le_of_ble_eq_true rfl)⟩ d_L_law_58 (sp_R_undo h3 (fun m4 a ha h4 k4 => ?_))
  rw [show er_aUndo (er_b_grid er_b0 (R, C, 0, k2)) (er_push [] er_b0) = (0, er_b0, []) from (er_push_undo _ _ _).trans rfl] at ha
  subst ha
  refine ex_if_ne (tgt := 73) (by decide) (show er_in 0 by decide) d_L_law_61 (fun z => absurd rfl z) (fun _ => ?_)
  refine ex_aload_n rfl rfl d_L_law_64 ?_
  refine ex_ll (As := [.inr 1]) ml_L_107 rfl mw_L_tale md_L_tale ⟨rfl, rfl⟩ rfl (Nat.le_of_ble_eq_true rfl) ⟨(Nat.le_of_ble_eq_true rfl), (Nat.le_of_ble_eq_true rfl)⟩ rfl ⟨(Nat.le_of_ble_eq_true rfl), (Nat.le_of_ble_eq_true rfl)⟩ d_L_law_65 (sp_L_tale h4 (by omega) (fun m5 h5 k5 => ?_))
  refine ex_lload_n rfl List.mem_cons_self d_L_law_68 ?_
  refine ex_lcmp d_L_law_69 ?_
  refine ex_if_eq (tgt := 75) (by decide) (by decide) d_L_law_70 (fun _ => ?_) (fun z => absurd rfl z)
  clear hs es hw hp hR hC
  refine ex_aload_n rfl rfl d_L_law_75 ?_
  refine ex_aload_n rfl rfl d_L_law_76 ?_
  refine ex_bipush (by decide) d_L_law_77 ?_
  refine ex_aload_n rfl rfl d_L_law_79 ?_
  refine ex_lv (As := [.inr 1, .inr 0, .inl 50, .inr 83]) (st := []) ml_L_111 rfl mw_L_types md_L_types ⟨rfl, rfl⟩ rfl (Nat.le_of_ble_eq_true rfl) ⟨(Nat.le_of_ble_eq_true rfl), (Nat.le_of_ble_eq_true rfl)⟩ rfl ⟨(Nat.le_of_ble_eq_true rfl), (Nat.le_of_ble_eq_true rfl)⟩ d_L_law_80 (sp_L_types hL h5 (fun m6 R C N k6 f6 R1 R6 C1 C6 hR hC hw hp h6 => ?_))
  refine ex_aload_n rfl rfl d_L_law_83 ?_
  refine ex_lc (b := 1) (As := []) (st := []) ml_L_115 mw_R_loadGrid md_R_loadGrid ⟨rfl, rfl⟩ rfl (Nat.le_of_ble_eq_true rfl) sh_1 rfl ⟨(Nat.le_of_ble_eq_true rfl), (Nat.le_of_ble_eq_true rfl)⟩ rfl ⟨(Nat.le_of_ble_eq_true rfl), (Nat.le_of_ble_eq_true rfl)⟩ d_L_law_84 (sp_R_loadGrid h6 (fun m7 a ha h7 k7 => ?_))
  rw [er_typed R1 R6 C6 hw hp] at ha
  subst ha
  have hs := er_sums_bd (m' := m6) R6 C6
  refine ex_aload_n rfl rfl d_L_law_87 ?_
  have es := er_sums (R := R) (C := C) k7
  refine ex_ls (As := [.inr 83]) (st := [.inl _]) ml_L_118 rfl mw_L_signals md_L_signals ⟨rfl, rfl⟩ rfl (Nat.le_of_ble_eq_true rfl) ⟨(Nat.le_of_ble_eq_true rfl), (Nat.le_of_ble_eq_true rfl)⟩ rfl ⟨(Nat.le_of_ble_eq_true rfl), (Nat.le_of_ble_eq_true rfl)⟩ d_L_law_88 (sp_L_signals (by rw [k7 83 60 (by unfold er_cf; omega)]; exact hR) (by rw [k7 83 61 (by unfold er_cf; omega)]; exact hC) R6 C6 (fun r c hr hc => by rw [k7 83 _ (by unfold er_cf; omega)]; have := (hw (6 * (r : Int) + c) (by omega) (by omega)).1 (by omega); exact ⟨by omega, by omega⟩) ?_)
  rw [es]
  refine ex_icmp_eq (tgt := 96) (by decide) ⟨by show _ ≤ er_sum _ _; omega, by show er_sum _ _ < _; omega⟩ ⟨by omega, by omega⟩ d_L_law_91 (fun _ => ?_) (fun z => absurd rfl z)
  refine ex_iconst d_L_law_96 ?_
  refine ex_istore [some (.inr 0), some (.inr 1), some (.inr 83), none, none, some (.inl 1), none, none, none, none, none] (Nat.le_of_ble_eq_true rfl) rfl rfl d_L_law_97 ?_
  refine ex_iconst d_L_law_99 ?_
  refine ex_istore [some (.inr 0), some (.inr 1), some (.inr 83), none, none, some (.inl 1), some (.inl 0), none, none, none, none] (Nat.le_of_ble_eq_true rfl) rfl rfl d_L_law_100 ?_
  refine ex_forget [some (.inr 0), some (.inr 1), some (.inr 83), none, none, some (.inl 1), some (.inl 0), none, none, none, none] ⟨rfl, rfl, rfl, rfl, rfl, trivial⟩ [] (fun _ z => absurd z List.not_mem_nil) ?_
  exact er_loop29 hL hend 30 0 rfl m7 _ (er_push [] er_b0) (h7.up (by omega))
theorem er_law_body (hL : K.2.2.2.2.2.1 ≤ 260) (hend : ∀ (m : er_M) (ls : List (Option er_V)) (lx : List (Nat × Value)), er_LX nm K Z m 326 ls [.inl 1] lx []) (m : er_M) : er_WP K (i_law nm) 0 0 [] m 0 [some (.inr 0), none, none, none, none, none, none, none, none, none, none] [] Z := by
  refine er_new (i := (i_law nm)) (ci := 5) (N := 10) (rs0 := [some 0, some 0, some 0, some 0, some 0, some 0, some 0, none, none, none]) rfl er_iR er_tR_ok kn_L_19 er_rsR ⟨Nat.le_of_ble_eq_true rfl, Nat.le_of_ble_eq_true rfl⟩ d_L_law_0 ?_
  show er_WP K (i_law nm) 1 10 (er_shR [some 0, some 0, some 0, some 0, some 0, some 0, some 0, none, none, none] 0) (er_clr m 1) 3 [some (.inr 0), none, none, none, none, none, none, none, none, none, none] [.inr 1] Z
  refine er_dup d_L_law_3 ?_
  refine er_callI (i := (i_law nm)) (b := 1) (As := []) (st := [.inr 1]) ml_L_103 rfl rfl mw_R_init md_R_init rfl rfl (Nat.le_of_ble_eq_true rfl) ⟨Nat.le_of_ble_eq_true rfl, Nat.le_of_ble_eq_true rfl⟩ ⟨Nat.le_of_ble_eq_true rfl, Nat.le_of_ble_eq_true rfl⟩ d_L_law_4 (sp_R_init (fun k => er_clr_s _ _ _) (Q := fun v s2 w2 => v = none ∧ s2 = er_shR [some 2, some 6, some 40, some 43, some 52, some 61, some 82, none, none, none] 81 ∧ ∃ f, er_CI w2 er_b0 [] 0 f 0) (fun m' f q1 => ⟨rfl, rfl, f, q1⟩)) (fun v s2 m1 hq => ?_)
  obtain ⟨rfl, rfl, f, hc⟩ := hq
  refine er_astore_n (k := 1) rfl (Nat.le_of_ble_eq_true rfl) d_L_law_7 ?_
  refine er_bipush (by decide) d_L_law_8 ?_
  refine er_newa (k := 0) (n := 64) (Nat.le_of_ble_eq_true rfl) rfl ka_int (by decide) (by decide) ⟨Nat.le_of_ble_eq_true rfl, Nat.le_of_ble_eq_true rfl⟩ d_L_law_10 ?_
  show er_WP K (i_law nm) 83 8950 er_SH (er_clr m1 83) 12 [some (.inr 0), some (.inr 1), none, none, none, none, none, none, none, none, none] [.inr 83] Z
  have hc2 : er_CI (er_clr m1 83) er_b0 [] 0 f 0 := hc.hh (fun q k hq => er_clr_c k hq)
  refine er_astore_n (k := 2) rfl (Nat.le_of_ble_eq_true rfl) d_L_law_12 (er_WX.of ?_)
  refine ex_aload_n rfl rfl d_L_law_13 ?_
  refine ex_lc (b := 1) (As := []) (st := []) ml_L_104 mw_R_undo md_R_undo ⟨rfl, rfl⟩ rfl (Nat.le_of_ble_eq_true rfl) sh_1 rfl ⟨(Nat.le_of_ble_eq_true rfl), (Nat.le_of_ble_eq_true rfl)⟩ rfl ⟨(Nat.le_of_ble_eq_true rfl), (Nat.le_of_ble_eq_true rfl)⟩ d_L_law_14 (sp_R_undo hc2 (fun m2 a ha h2 k2 => ?_))
  rw [show er_aUndo er_b0 [] = (-2, er_b0, []) from er_if_t rfl] at ha
  subst ha
  refine ex_bipush (by decide) d_L_law_17 ?_
  refine ex_icmp_ne (tgt := 31) (by decide) (show er_in (-2) by decide) (by decide) d_L_law_19 (fun z => absurd rfl z) (fun _ => ?_)
  refine ex_aload_n rfl rfl d_L_law_22 ?_
  refine ex_lc (b := 1) (As := []) (st := []) ml_L_91 mw_R_clearSelection md_R_clearSelection ⟨rfl, rfl⟩ rfl (Nat.le_of_ble_eq_true rfl) sh_1 rfl ⟨(Nat.le_of_ble_eq_true rfl), (Nat.le_of_ble_eq_true rfl)⟩ rfl ⟨(Nat.le_of_ble_eq_true rfl), (Nat.le_of_ble_eq_true rfl)⟩ d_L_law_23 (sp_R_clearSelection h2 (fun m3 a ha h3 k3 => ?_))
  rw [show er_aWipe er_b0 [] = (-2, er_b0, []) from er_if_t er_nsel_0] at ha
  subst ha
  refine ex_bipush (by decide) d_L_law_26 ?_
  refine ex_icmp_eq (tgt := 33) (by decide) (show er_in (-2) by decide) (by decide) d_L_law_28 (fun _ => ?_) (fun z => absurd rfl z)
  exact er_from33 hL hend h3
end ER75
