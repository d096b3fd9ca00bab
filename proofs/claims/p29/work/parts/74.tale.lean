/-! tale: what it tells is settled by the board (printed in part by wip/p29/gen74.py) -/
section ER74
variable {K : er_K} {i j : er_I} {uc us : Nat} {m : er_M} {pc : Nat} {ls : List (Option er_V)} {st : List er_V} {lx : List (Nat × Value)} {sx : List Value} {Z : List Frame → Array Value → State → State → Prop}
theorem ex_lc {idx n b ci N : Nat} {As : List er_V} {rs : List (Option Nat)} {stk : List er_V} (hM : Cond.methodLink i.1.cls idx j.1 ∈ er_tb ∧ Cond.instanceMethod j.1 ∈ er_tb ∧ Cond.selects j.1.cls j.1 j.1 ∈ er_tb) (hw : er_MW j) (hm : er_MD j n) (hz : er_z j) (hn : As.length = n) (h8 : st.length + (sx.map fun v => v.category).sum ≤ 8) (hb : er_at er_SH b = some (ci + 5, N, rs)) (hcl : (er_cl[ci]?).map (fun q => q.1) = some j.1.cls) (hR : er_fits i j) (hst : stk = As.reverse ++ .inr b :: st) (hu : uc ≤ i.2.2.2.2.cells ∧ us ≤ i.2.2.2.2.slots) (hd : decode i.2.1 pc = .ok (.invokevirtual idx, 3)) (hS : er_SI K j (.inr b :: As) m (fun x m1 => er_WX K i uc us er_SH m1 (pc + 3) ls (.inl x :: st) lx sx Z)) : er_WX K i uc us er_SH m pc ls stk lx sx Z := by
  refine ex_callV hM hw hm hst hn h8 hb hcl hR (by rw [hz.1, hz.2]; exact hu) hd hS (fun v sh1 m1 hq => ?_)
  obtain ⟨rfl, x, rfl, hq⟩ := hq
  rw [hz.1, hz.2]
  exact hq
theorem ex_ls {idx n : Nat} {As : List er_V} {stk : List er_V} (hM : Cond.methodLink i.1.cls idx j.1 ∈ er_tb ∧ Cond.static j.1 ∈ er_tb) (hown : j.1.cls = i.1.cls) (hw : er_MW j) (hm : er_MD j n) (hz : er_z j) (hn : As.length = n) (h8 : st.length + (sx.map fun v => v.category).sum ≤ 8) (hR : er_fits i j) (hst : stk = As.reverse ++ st) (hu : uc ≤ i.2.2.2.2.cells ∧ us ≤ i.2.2.2.2.slots) (hd : decode i.2.1 pc = .ok (.invokestatic idx, 3)) (hS : er_SI K j As m (fun x m1 => er_WX K i uc us er_SH m1 (pc + 3) ls (.inl x :: st) lx sx Z)) : er_WX K i uc us er_SH m pc ls stk lx sx Z := by
  refine ex_callS hM hown hw hm hst hn h8 hR (by rw [hz.1, hz.2]; exact hu) hd hS (fun v sh1 m1 hq => ?_)
  obtain ⟨rfl, x, rfl, hq⟩ := hq
  rw [hz.1, hz.2]
  exact hq
theorem ex_lv {idx n : Nat} {As : List er_V} {stk : List er_V} (hM : Cond.methodLink i.1.cls idx j.1 ∈ er_tb ∧ Cond.static j.1 ∈ er_tb) (hown : j.1.cls = i.1.cls) (hw : er_MW j) (hm : er_MD j n) (hz : er_z j) (hn : As.length = n) (h8 : st.length + (sx.map fun v => v.category).sum ≤ 8) (hR : er_fits i j) (hst : stk = As.reverse ++ st) (hu : uc ≤ i.2.2.2.2.cells ∧ us ≤ i.2.2.2.2.slots) (hd : decode i.2.1 pc = .ok (.invokestatic idx, 3)) (hS : er_SV K j As m (fun m1 => er_WX K i uc us er_SH m1 (pc + 3) ls st lx sx Z)) : er_WX K i uc us er_SH m pc ls stk lx sx Z := by
  refine ex_callS hM hown hw hm hst hn h8 hR (by rw [hz.1, hz.2]; exact hu) hd hS (fun v sh1 m1 hq => ?_)
  obtain ⟨rfl, rfl, hq⟩ := hq
  rw [hz.1, hz.2]
  exact hq
theorem ex_ll {idx n : Nat} {As : List er_V} {stk : List er_V} (hM : Cond.methodLink i.1.cls idx j.1 ∈ er_tb ∧ Cond.static j.1 ∈ er_tb) (hown : j.1.cls = i.1.cls) (hw : er_MW j) (hm : er_MD j n) (hz : er_z j) (hn : As.length = n) (h8 : ([] : List er_V).length + (sx.map fun v => v.category).sum ≤ 8) (hR : er_fits i j) (hst : stk = As.reverse) (hu : uc ≤ i.2.2.2.2.cells ∧ us ≤ i.2.2.2.2.slots) (hd : decode i.2.1 pc = .ok (.invokestatic idx, 3)) (hS : er_SL K j As m (fun x m1 => er_WX K i uc us er_SH m1 (pc + 3) ls [] lx (.long x :: sx) Z)) : er_WX K i uc us er_SH m pc ls stk lx sx Z := by
  refine ex_callL hM hown hw hm hst hn h8 hR (by rw [hz.1, hz.2]; exact hu) hd hS (fun v m1 hq => ?_)
  rw [hz.1, hz.2]
  exact hq
/-- what tale has told behind p places, behind t tiles, in the end -/
noncomputable def er_t1 (b : er_Bo) : Nat → Int64
  | 0 => er_l (er_bR b : Int) * 7 + er_l (er_bC b : Int)
  | p + 1 => er_t1 b p * 31 + er_l (er_qKind b ((p : Int) / 6) ((p : Int) % 6)) * 13 + er_l (er_qPart b ((p : Int) / 6) ((p : Int) % 6))
noncomputable def er_t2 (b : er_Bo) : Nat → Int64
  | 0 => er_t1 b 36
  | t + 1 => er_t2 b t * 3 + er_l (er_qSide b (t : Int) (t : Int))
noncomputable def er_tale (b : er_Bo) : Int64 := er_t2 b 4 * 37 + er_l (er_fM (er_Lsel b)) * 17 + er_l (er_ccs (er_fS (er_Lsel b)) (er_bR b) (er_bC b)) * 11 + er_l (er_qCount b 0) * 5 + er_l (er_fM (er_Lthr b))
abbrev er_ZT (K : er_K) (Q : Int64 → er_M → Prop) : List Frame → Array Value → State → State → Prop := fun below args s => MQ below (er_QL K mi_L_tale Q) args s mi_L_tale.2.2.2.2.cells mi_L_tale.2.2.2.2.slots (er_A K)
variable {b : er_Bo} {H : List er_Bo} {n : Nat} {f : Int → Int} {c0 : Int} {Q : Int64 → er_M → Prop}
theorem er_tale_1 (h : er_CI m b H n f c0) (hn : er_WX K mi_L_tale 0 0 er_SH m 68 [some (.inr 1), none, none, none] [] [(1, .long (er_t1 b 36))] [] (er_ZT K Q)) : ∀ (d p : Nat), p + d = 36 → er_WX K mi_L_tale 0 0 er_SH m 18 [some (.inr 1), none, none, some (.inl (p : Int))] [] [(1, .long (er_t1 b p))] [] (er_ZT K Q) := by
  intro d
  induction d with
  | zero =>
    intro p hp
    refine ex_iload_n rfl rfl d_L_tale_18 ?_
    refine ex_bipush (by decide) d_L_tale_19 ?_
    refine ex_icmp_ge (tgt := 68) (by decide) ⟨by omega, by omega⟩ (by decide) d_L_tale_21 (fun _ => ?_) (fun hlt => by omega)
    refine ex_forget [some (.inr 1), none, none, none] ⟨rfl, trivial⟩ _ (fun _ z => z) ?_
    rw [show p = 36 by omega]
    exact hn
  | succ d ih =>
    intro p hp
    refine ex_iload_n rfl rfl d_L_tale_18 ?_
    refine ex_bipush (by decide) d_L_tale_19 ?_
    refine ex_icmp_ge (tgt := 68) (by decide) ⟨by omega, by omega⟩ (by decide) d_L_tale_21 (fun hge => by omega) (fun _ => ?_)
    refine ex_lload_n rfl List.mem_cons_self d_L_tale_24 ?_
    refine ex_ldc2 kL_L_36 d_L_tale_25 ?_
    refine ex_lmul d_L_tale_28 ?_
    refine ex_aload_n rfl rfl d_L_tale_29 ?_
    refine ex_iload_n rfl rfl d_L_tale_30 ?_
    refine ex_bipush (by decide) d_L_tale_31 ?_
    refine ex_idiv (by omega) (by omega) (by decide) (by decide) d_L_tale_33 ?_
    refine ex_iload_n rfl rfl d_L_tale_34 ?_
    refine ex_bipush (by decide) d_L_tale_35 ?_
    refine ex_irem (by omega) (by omega) (by decide) (by decide) d_L_tale_37 ?_
    refine ex_lc (b := 1) (As := [.inl ((p : Int) / 6), .inl ((p : Int) % 6)]) (st := []) ml_L_38 mw_R_kindAt md_R_kindAt ⟨rfl, rfl⟩ rfl (Nat.le_of_ble_eq_true rfl) sh_1 rfl ⟨(Nat.le_of_ble_eq_true rfl), (Nat.le_of_ble_eq_true rfl)⟩ rfl ⟨(Nat.le_of_ble_eq_true rfl), (Nat.le_of_ble_eq_true rfl)⟩ d_L_tale_38 (sp_R_kindAt h ⟨by omega, by omega⟩ ⟨by omega, by omega⟩ ?_)
    refine ex_i2l d_L_tale_41 ?_
    refine ex_ldc2 kL_L_41 d_L_tale_42 ?_
    refine ex_lmul d_L_tale_45 ?_
    refine ex_ladd d_L_tale_46 ?_
    refine ex_aload_n rfl rfl d_L_tale_47 ?_
    refine ex_iload_n rfl rfl d_L_tale_48 ?_
    refine ex_bipush (by decide) d_L_tale_49 ?_
    refine ex_idiv (by omega) (by omega) (by decide) (by decide) d_L_tale_51 ?_
    refine ex_iload_n rfl rfl d_L_tale_52 ?_
    refine ex_bipush (by decide) d_L_tale_53 ?_
    refine ex_irem (by omega) (by omega) (by decide) (by decide) d_L_tale_55 ?_
    refine ex_lc (b := 1) (As := [.inl ((p : Int) / 6), .inl ((p : Int) % 6)]) (st := []) ml_L_43 mw_R_partnerOf md_R_partnerOf ⟨rfl, rfl⟩ rfl (Nat.le_of_ble_eq_true rfl) sh_1 rfl ⟨(Nat.le_of_ble_eq_true rfl), (Nat.le_of_ble_eq_true rfl)⟩ rfl ⟨(Nat.le_of_ble_eq_true rfl), (Nat.le_of_ble_eq_true rfl)⟩ d_L_tale_56 (sp_R_partnerOf h ⟨by omega, by omega⟩ ⟨by omega, by omega⟩ ?_)
    refine ex_i2l d_L_tale_59 ?_
    refine ex_ladd d_L_tale_60 ?_
    refine ex_lstore_n rfl (Nat.le_of_ble_eq_true rfl) rfl rfl d_L_tale_61 ?_
    refine ex_iinc [some (.inr 1), none, none, some (.inl ((p : Int) + 1))] rfl (Nat.le_of_ble_eq_true rfl) rfl rfl d_L_tale_62 ?_
    refine ex_goto (tgt := 18) (by decide) d_L_tale_65 ?_
    exact ih (p + 1) (by omega)
theorem er_tale_2 (hc0 : c0 < 1998500000) (hn : ∀ m1, er_CI m1 b H n f (c0 + 30000 * 4) → er_kp er_cf m m1 → er_WX K mi_L_tale 0 0 er_SH m1 95 [some (.inr 1), none, none, none] [] [(1, .long (er_t2 b 4))] [] (er_ZT K Q)) : ∀ (d t : Nat) (m1 : er_M), t + d = 4 → er_CI m1 b H n f (c0 + 30000 * (t : Int)) → er_kp er_cf m m1 → er_WX K mi_L_tale 0 0 er_SH m1 70 [some (.inr 1), none, none, some (.inl (t : Int))] [] [(1, .long (er_t2 b t))] [] (er_ZT K Q) := by
  intro d
  induction d with
  | zero =>
    intro t m1 ht h1 k1
    refine ex_iload_n rfl rfl d_L_tale_70 ?_
    refine ex_iconst d_L_tale_71 ?_
    refine ex_icmp_ge (tgt := 95) (by decide) ⟨by omega, by omega⟩ (by decide) d_L_tale_72 (fun _ => ?_) (fun hlt => by omega)
    refine ex_forget [some (.inr 1), none, none, none] ⟨rfl, trivial⟩ _ (fun _ z => z) ?_
    have e4 : t = 4 := by omega
    subst e4
    exact hn m1 h1 k1
  | succ d ih =>
    intro t m1 ht h1 k1
    refine ex_iload_n rfl rfl d_L_tale_70 ?_
    refine ex_iconst d_L_tale_71 ?_
    refine ex_icmp_ge (tgt := 95) (by decide) ⟨by omega, by omega⟩ (by decide) d_L_tale_72 (fun hge => by omega) (fun _ => ?_)
    refine ex_lload_n rfl List.mem_cons_self d_L_tale_75 ?_
    refine ex_ldc2 kL_L_46 d_L_tale_76 ?_
    refine ex_lmul d_L_tale_79 ?_
    refine ex_aload_n rfl rfl d_L_tale_80 ?_
    refine ex_iload_n rfl rfl d_L_tale_81 ?_
    refine ex_iload_n rfl rfl d_L_tale_82 ?_
    refine ex_lc (b := 1) (As := [.inl (t : Int), .inl (t : Int)]) (st := []) ml_L_48 mw_R_tileSide md_R_tileSide ⟨rfl, rfl⟩ rfl (Nat.le_of_ble_eq_true rfl) sh_1 rfl ⟨(Nat.le_of_ble_eq_true rfl), (Nat.le_of_ble_eq_true rfl)⟩ rfl ⟨(Nat.le_of_ble_eq_true rfl), (Nat.le_of_ble_eq_true rfl)⟩ d_L_tale_83 (sp_R_tileSide h1 (by omega) ⟨by omega, by omega⟩ ⟨by omega, by omega⟩ (fun m2 v hv h2 k2 => ?_))
    have ev := er_qSide_eq hv
    subst ev
    refine ex_i2l d_L_tale_86 ?_
    refine ex_ladd d_L_tale_87 ?_
    refine ex_lstore_n rfl (Nat.le_of_ble_eq_true rfl) rfl rfl d_L_tale_88 ?_
    refine ex_iinc [some (.inr 1), none, none, some (.inl ((t : Int) + 1))] rfl (Nat.le_of_ble_eq_true rfl) rfl rfl d_L_tale_89 ?_
    refine ex_goto (tgt := 70) (by decide) d_L_tale_92 ?_
    exact ih (t + 1) m2 (by omega) (h2.up (by omega)) (k1.tr k2)
theorem sp_L_tale (h : er_CI m b H n f c0) (hc0 : c0 < 1998500000) (hQ : ∀ m', er_CI m' b H n f (c0 + 240000) → er_kp er_cf m m' → Q (er_tale b) m') : er_SL K mi_L_tale [.inr 1] m Q := by
  refine ex_startL (by decide) (Nat.le_of_ble_eq_true rfl) (er_WX.of ?_)
  show er_WX K mi_L_tale 0 0 er_SH m 0 [some (.inr 1), none, none, none] [] [] [] (er_ZT K Q)
  refine ex_aload_n rfl rfl d_L_tale_0 ?_
  refine ex_lc (b := 1) (As := []) (st := []) ml_L_28 mw_R_rows md_R_rows ⟨rfl, rfl⟩ rfl (Nat.le_of_ble_eq_true rfl) sh_1 rfl ⟨(Nat.le_of_ble_eq_true rfl), (Nat.le_of_ble_eq_true rfl)⟩ rfl ⟨(Nat.le_of_ble_eq_true rfl), (Nat.le_of_ble_eq_true rfl)⟩ d_L_tale_1 (sp_R_rows h ?_)
  refine ex_i2l d_L_tale_4 ?_
  refine ex_ldc2 kL_L_31 d_L_tale_5 ?_
  refine ex_lmul d_L_tale_8 ?_
  refine ex_aload_n rfl rfl d_L_tale_9 ?_
  refine ex_lc (b := 1) (As := []) (st := []) ml_L_33 mw_R_columns md_R_columns ⟨rfl, rfl⟩ rfl (Nat.le_of_ble_eq_true rfl) sh_1 rfl ⟨(Nat.le_of_ble_eq_true rfl), (Nat.le_of_ble_eq_true rfl)⟩ rfl ⟨(Nat.le_of_ble_eq_true rfl), (Nat.le_of_ble_eq_true rfl)⟩ d_L_tale_10 (sp_R_columns h ?_)
  refine ex_i2l d_L_tale_13 ?_
  refine ex_ladd d_L_tale_14 ?_
  refine ex_lstore_n rfl (Nat.le_of_ble_eq_true rfl) rfl rfl d_L_tale_15 ?_
  refine ex_iconst d_L_tale_16 ?_
  refine ex_istore_n [some (.inr 1), none, none, some (.inl 0)] rfl (Nat.le_of_ble_eq_true rfl) rfl rfl d_L_tale_17 ?_
  refine er_tale_1 h ?_ 36 0 rfl
  refine ex_iconst d_L_tale_68 ?_
  refine ex_istore_n [some (.inr 1), none, none, some (.inl 0)] rfl (Nat.le_of_ble_eq_true rfl) rfl rfl d_L_tale_69 ?_
  refine er_tale_2 hc0 (fun m1 h1 k1 => ?_) 4 0 m rfl (h.up (by omega)) er_kp.rf
  refine ex_lload_n rfl List.mem_cons_self d_L_tale_95 ?_
  refine ex_ldc2 kL_L_51 d_L_tale_96 ?_
  refine ex_lmul d_L_tale_99 ?_
  refine ex_aload_n rfl rfl d_L_tale_100 ?_
  refine ex_lc (b := 1) (As := []) (st := []) ml_L_53 mw_R_escapeCount md_R_escapeCount ⟨rfl, rfl⟩ rfl (Nat.le_of_ble_eq_true rfl) sh_1 rfl ⟨(Nat.le_of_ble_eq_true rfl), (Nat.le_of_ble_eq_true rfl)⟩ rfl ⟨(Nat.le_of_ble_eq_true rfl), (Nat.le_of_ble_eq_true rfl)⟩ d_L_tale_101 (sp_R_escapeCount h1 (by omega) (fun m2 x rm hx h2 k2 => ?_))
  have ex := er_fM_eq hx
  subst ex
  refine ex_i2l d_L_tale_104 ?_
  refine ex_ldc2 kL_L_56 d_L_tale_105 ?_
  refine ex_lmul d_L_tale_108 ?_
  refine ex_ladd d_L_tale_109 ?_
  refine ex_aload_n rfl rfl d_L_tale_110 ?_
  refine ex_lc (b := 1) (As := []) (st := []) ml_L_58 mw_R_cutChannels md_R_cutChannels ⟨rfl, rfl⟩ rfl (Nat.le_of_ble_eq_true rfl) sh_1 rfl ⟨(Nat.le_of_ble_eq_true rfl), (Nat.le_of_ble_eq_true rfl)⟩ rfl ⟨(Nat.le_of_ble_eq_true rfl), (Nat.le_of_ble_eq_true rfl)⟩ d_L_tale_111 (sp_R_cutChannels h2 (by omega) (fun m3 x3 rm3 hx3 h3 k3 => ?_))
  rw [er_fS_eq hx3]
  refine ex_i2l d_L_tale_114 ?_
  refine ex_ldc2 kL_L_61 d_L_tale_115 ?_
  refine ex_lmul d_L_tale_118 ?_
  refine ex_ladd d_L_tale_119 ?_
  refine ex_aload_n rfl rfl d_L_tale_120 ?_
  refine ex_iconst d_L_tale_121 ?_
  refine ex_lc (b := 1) (As := [.inl 0]) (st := []) ml_L_63 mw_R_layerCount md_R_layerCount ⟨rfl, rfl⟩ rfl (Nat.le_of_ble_eq_true rfl) sh_1 rfl ⟨(Nat.le_of_ble_eq_true rfl), (Nat.le_of_ble_eq_true rfl)⟩ rfl ⟨(Nat.le_of_ble_eq_true rfl), (Nat.le_of_ble_eq_true rfl)⟩ d_L_tale_122 (sp_R_layerCount h3 (by omega) (by decide) (fun m4 h4 k4 => ?_))
  refine ex_i2l d_L_tale_125 ?_
  refine ex_ldc2 kL_L_66 d_L_tale_126 ?_
  refine ex_lmul d_L_tale_129 ?_
  refine ex_ladd d_L_tale_130 ?_
  refine ex_aload_n rfl rfl d_L_tale_131 ?_
  refine ex_lc (b := 1) (As := []) (st := []) ml_L_68 mw_R_throughput md_R_throughput ⟨rfl, rfl⟩ rfl (Nat.le_of_ble_eq_true rfl) sh_1 rfl ⟨(Nat.le_of_ble_eq_true rfl), (Nat.le_of_ble_eq_true rfl)⟩ rfl ⟨(Nat.le_of_ble_eq_true rfl), (Nat.le_of_ble_eq_true rfl)⟩ d_L_tale_132 (sp_R_throughput h4 (by omega) (fun m5 x5 rm5 hx5 x50 x51 h5 k5 => ?_))
  have ex5 := er_fM_eq hx5
  subst ex5
  refine ex_i2l d_L_tale_135 ?_
  refine ex_ladd d_L_tale_136 ?_
  exact ex_lret rfl rfl (Nat.zero_le _) d_L_tale_137 (hQ m5 (h5.up (by omega)) ((((k1.tr k2).tr k3).tr k4).tr k5))
end ER74
