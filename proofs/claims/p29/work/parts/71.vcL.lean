/-! conditions of the walks: printed by wip/whole/gen13.py -/
theorem vc_L_cell {K : er_K} {p1 : Int} {m : er_M} {Q : Int → er_M → Prop}  (h : (er_in p1) ∧ (er_in (K.2.2.2.2.2.1 : Int)) ∧ ((((K.2.2.2.2.2.1 : Int) ≤ p1 → Q ((7919 * (p1 + 3)) * (p1 + 11)) m) ∧ (p1 < (K.2.2.2.2.2.1 : Int) → (0 ≤ p1) ∧ (p1 < (K.2.2.2.2.2.1 : Int)) ∧ (K.2.2.2.2.2.1 ≤ 2147483648) ∧ (Q (K.2.2.2.2.2.2 p1.toNat).toInt m))))) : er_SI K mi_L_cell [.inr 0, .inl p1] m Q := by
  refine er_start (by decide) (Nat.le_of_ble_eq_true rfl) ?_
  show er_WP K mi_L_cell 0 0 er_SH m 0 [some (.inr 0), some (.inl p1)] [] _
  refine er_iload_n rfl rfl d_L_cell_0 ?_
  refine er_aload_n rfl rfl d_L_cell_1 ?_
  refine er_slen d_L_cell_2 ?_
  obtain ⟨a1, a2, h⟩ := h
  refine er_icmp_ge (tgt := 12) (by decide) a1 a2 d_L_cell_3 (fun c3 => ?_) (fun c3 => ?_)
  · have h := h.1 c3
    refine er_sipush (by decide) d_L_cell_12 ?_
    refine er_iload_n rfl rfl d_L_cell_15 ?_
    refine er_iconst d_L_cell_16 ?_
    refine er_iadd d_L_cell_17 ?_
    refine er_imul d_L_cell_18 ?_
    refine er_iload_n rfl rfl d_L_cell_19 ?_
    refine er_bipush (by decide) d_L_cell_20 ?_
    refine er_iadd d_L_cell_22 ?_
    refine er_imul d_L_cell_23 ?_
    exact er_iretE rfl rfl d_L_cell_24 h
  · have h := h.2 c3
    refine er_aload_n rfl rfl d_L_cell_6 ?_
    refine er_iload_n rfl rfl d_L_cell_7 ?_
    obtain ⟨a4, a5, a6, h⟩ := h
    refine er_sld a4 a5 a6 d_L_cell_8 ?_
    refine er_goto (tgt := 24) (by decide) d_L_cell_9 ?_
    exact er_iretE rfl rfl d_L_cell_24 h
theorem vc_L_low {K : er_K} {p0 p1 : Int} {m : er_M} {Q : Int → er_M → Prop}  (h : ∀ y1 : Int, 0 ≤ y1 → y1 < 2147483648 → (0 < p1) ∧ (p1 < 2147483648) ∧ (Q (y1 % p1) m)) : er_SI K mi_L_low [.inl p0, .inl p1] m Q := by
  refine er_start (by decide) (Nat.le_of_ble_eq_true rfl) ?_
  show er_WP K mi_L_low 0 0 er_SH m 0 [some (.inl p0), some (.inl p1)] [] _
  refine er_iload_n rfl rfl d_L_low_0 ?_
  refine er_ldc kc_L_7 d_L_low_1 ?_
  refine er_iandN 31 (by decide +kernel) (by decide +kernel) d_L_low_3 (fun y1 a2 a3 => ?_)
  replace a3 : y1 < 2147483648 := by omega
  have h := h y1 a2 a3
  refine er_iload_n rfl rfl d_L_low_4 ?_
  obtain ⟨a4, a5, h⟩ := h
  refine er_irem a2 a3 a4 a5 d_L_low_5 ?_
  exact er_iretE rfl rfl d_L_low_6 h
def wp_L_types_43 (K : er_K) (x2 : Int) (x5 : Int) (m : er_M) (Q : er_M → Prop) : Prop := er_WP K mi_L_types 0 0 er_SH m 43 [some (.inr 1), some (.inr 0), some (.inl x2), some (.inr 83), none, some (.inl x5), none, none, none] [] (er_Z K mi_L_types (er_PV Q))
def wp_L_types_67 (K : er_K) (x2 : Int) (x5 : Int) (x6 : Int) (x7 : Int) (m : er_M) (Q : er_M → Prop) : Prop := er_WP K mi_L_types 0 0 er_SH m 67 [some (.inr 1), some (.inr 0), some (.inl x2), some (.inr 83), none, some (.inl x5), some (.inl x6), some (.inl x7), none] [] (er_Z K mi_L_types (er_PV Q))
theorem vc_L_types_43 {K : er_K} {x2 : Int} {x5 : Int} {m : er_M} {Q : er_M → Prop}  (h : (er_in x5) ∧ (er_in (m 83 60)) ∧ ((((m 83 60) ≤ x5 → Q m) ∧ (x5 < (m 83 60) → er_SI K mi_L_cell [.inr 0, .inl ((x2 + 1) + x5)] m (fun v5 m4 => wp_L_types_67 K x2 x5 v5 0 m4 Q))))) : wp_L_types_43 K x2 x5 m Q := by
  show er_WP K mi_L_types 0 0 er_SH m 43 [some (.inr 1), some (.inr 0), some (.inl x2), some (.inr 83), none, some (.inl x5), none, none, none] [] _
  refine er_iload rfl d_L_types_43 ?_
  refine er_aload_n rfl rfl d_L_types_45 ?_
  refine er_bipush (by decide) d_L_types_46 ?_
  refine er_iald sh_83 (by decide) (by decide) (by decide) d_L_types_48 ?_
  obtain ⟨a1, a2, h⟩ := h
  refine er_icmp_ge (tgt := 167) (by decide) a1 a2 d_L_types_49 (fun c3 => ?_) (fun c3 => ?_)
  · have h := h.1 c3
    exact er_vretE rfl rfl d_L_types_167 h
  · have h := h.2 c3
    refine er_aload_n rfl rfl d_L_types_52 ?_
    refine er_iload_n rfl rfl d_L_types_53 ?_
    refine er_iconst d_L_types_54 ?_
    refine er_iadd d_L_types_55 ?_
    refine er_iload rfl d_L_types_56 ?_
    refine er_iadd d_L_types_58 ?_
    refine er_cS (As := [.inr 0, .inl ((x2 + 1) + x5)]) (st := []) ml_L_8 rfl mw_L_cell md_L_cell ⟨rfl, rfl⟩ rfl (Nat.le_of_ble_eq_true rfl) ⟨(Nat.le_of_ble_eq_true rfl), (Nat.le_of_ble_eq_true rfl)⟩ rfl d_L_types_59 h (fun v5 m4 h => ?_)
    refine er_istF (Nat.le_of_ble_eq_true rfl) (ls2 := [some (.inr 1), some (.inr 0), some (.inl x2), some (.inr 83), none, some (.inl x5), some (.inl v5), none, none]) rfl d_L_types_62 ?_
    refine er_iconst d_L_types_64 ?_
    refine er_istF (Nat.le_of_ble_eq_true rfl) (ls2 := [some (.inr 1), some (.inr 0), some (.inl x2), some (.inr 83), none, some (.inl x5), some (.inl v5), some (.inl 0), none]) rfl d_L_types_65 ?_
    exact er_forget [some (.inr 1), some (.inr 0), some (.inl x2), some (.inr 83), none, some (.inl x5), some (.inl v5), some (.inl 0), none] (And.intro rfl (And.intro rfl (And.intro rfl (And.intro rfl (And.intro rfl (And.intro rfl (And.intro rfl trivial))))))) h
theorem vc_L_types_67 {K : er_K} {x2 : Int} {x5 : Int} {x6 : Int} {x7 : Int} {m : er_M} {Q : er_M → Prop}  (h : (er_in x7) ∧ (er_in (m 83 61)) ∧ ((((m 83 61) ≤ x7 → er_SI K mi_R_appendCharacter [.inr 1, .inl 59] m (fun v5 m4 => wp_L_types_43 K x2 (x5 + 1) m4 Q)) ∧ (x7 < (m 83 61) → ∀ y6 : Int, er_in y6 → ∀ y8 : Int, 0 ≤ y8 → y8 < 8 → ((5 ≤ y8 → ((y8 ≠ 5 → (0 ≤ ((6 * x5) + x7)) ∧ (((6 * x5) + x7) < 64) ∧ (∀ m15 : er_M, m15 = er_st m 83 ((6 * x5) + x7) 0 → ((5 ≤ y8 → ((y8 ≠ 5 → er_SI K mi_R_appendCharacter [.inr 1, .inl 46] m15 (fun v19 m18 => wp_L_types_67 K x2 x5 x6 (x7 + 1) m18 Q)) ∧ (y8 = 5 → er_SI K mi_R_appendCharacter [.inr 1, .inl 112] m15 (fun v21 m20 => wp_L_types_67 K x2 x5 x6 (x7 + 1) m20 Q)))) ∧ (y8 < 5 → er_SI K mi_R_appendCharacter [.inr 1, .inl 115] m15 (fun v23 m22 => wp_L_types_67 K x2 x5 x6 (x7 + 1) m22 Q))))) ∧ (y8 = 5 → (0 ≤ ((6 * x5) + x7)) ∧ (((6 * x5) + x7) < 64) ∧ (∀ m26 : er_M, m26 = er_st m 83 ((6 * x5) + x7) 2 → ((5 ≤ y8 → ((y8 ≠ 5 → er_SI K mi_R_appendCharacter [.inr 1, .inl 46] m26 (fun v30 m29 => wp_L_types_67 K x2 x5 x6 (x7 + 1) m29 Q)) ∧ (y8 = 5 → er_SI K mi_R_appendCharacter [.inr 1, .inl 112] m26 (fun v32 m31 => wp_L_types_67 K x2 x5 x6 (x7 + 1) m31 Q)))) ∧ (y8 < 5 → er_SI K mi_R_appendCharacter [.inr 1, .inl 115] m26 (fun v34 m33 => wp_L_types_67 K x2 x5 x6 (x7 + 1) m33 Q))))))) ∧ (y8 < 5 → (0 ≤ ((6 * x5) + x7)) ∧ (((6 * x5) + x7) < 64) ∧ (∀ m37 : er_M, m37 = er_st m 83 ((6 * x5) + x7) 1 → ((5 ≤ y8 → ((y8 ≠ 5 → er_SI K mi_R_appendCharacter [.inr 1, .inl 46] m37 (fun v41 m40 => wp_L_types_67 K x2 x5 x6 (x7 + 1) m40 Q)) ∧ (y8 = 5 → er_SI K mi_R_appendCharacter [.inr 1, .inl 112] m37 (fun v43 m42 => wp_L_types_67 K x2 x5 x6 (x7 + 1) m42 Q)))) ∧ (y8 < 5 → er_SI K mi_R_appendCharacter [.inr 1, .inl 115] m37 (fun v45 m44 => wp_L_types_67 K x2 x5 x6 (x7 + 1) m44 Q)))))))))) : wp_L_types_67 K x2 x5 x6 x7 m Q := by
  show er_WP K mi_L_types 0 0 er_SH m 67 [some (.inr 1), some (.inr 0), some (.inl x2), some (.inr 83), none, some (.inl x5), some (.inl x6), some (.inl x7), none] [] _
  refine er_iload rfl d_L_types_67 ?_
  refine er_aload_n rfl rfl d_L_types_69 ?_
  refine er_bipush (by decide) d_L_types_70 ?_
  refine er_iald sh_83 (by decide) (by decide) (by decide) d_L_types_72 ?_
  obtain ⟨a1, a2, h⟩ := h
  refine er_icmp_ge (tgt := 154) (by decide) a1 a2 d_L_types_73 (fun c3 => ?_) (fun c3 => ?_)
  · have h := h.1 c3
    refine er_aload_n rfl rfl d_L_types_154 ?_
    refine er_bipush (by decide) d_L_types_155 ?_
    refine er_cVI (As := [.inl 59]) (st := []) ml_L_24 mw_R_appendCharacter md_R_appendCharacter ⟨rfl, rfl⟩ rfl (Nat.le_of_ble_eq_true rfl) sh_1 rfl ⟨(Nat.le_of_ble_eq_true rfl), (Nat.le_of_ble_eq_true rfl)⟩ rfl d_L_types_157 h (fun v5 m4 h => ?_)
    refine er_pop d_L_types_160 ?_
    refine er_incE (ls2 := [some (.inr 1), some (.inr 0), some (.inl x2), some (.inr 83), none, some (.inl (x5 + 1)), some (.inl x6), some (.inl x7), none]) rfl (Nat.le_of_ble_eq_true rfl) rfl d_L_types_161 ?_
    refine er_goto (tgt := 43) (by decide) d_L_types_164 ?_
    exact er_forget [some (.inr 1), some (.inr 0), some (.inl x2), some (.inr 83), none, some (.inl (x5 + 1)), none, none, none] (And.intro rfl (And.intro rfl (And.intro rfl (And.intro rfl (And.intro rfl trivial))))) h
  · have h := h.2 c3
    refine er_iload rfl d_L_types_76 ?_
    refine er_iconst d_L_types_78 ?_
    refine er_iload rfl d_L_types_79 ?_
    refine er_imul d_L_types_81 ?_
    refine er_ishrN d_L_types_82 (fun y6 a7 => ?_)
    have h := h y6 a7
    refine er_bipush (by decide) d_L_types_83 ?_
    refine er_iandN 3 (by decide +kernel) (by decide +kernel) d_L_types_85 (fun y8 a9 a10 => ?_)
    replace a10 : y8 < 8 := by omega
    have h := h y8 a9 a10
    refine er_istF (Nat.le_of_ble_eq_true rfl) (ls2 := [some (.inr 1), some (.inr 0), some (.inl x2), some (.inr 83), none, some (.inl x5), some (.inl x6), some (.inl x7), some (.inl y8)]) rfl d_L_types_86 ?_
    refine er_aload_n rfl rfl d_L_types_88 ?_
    refine er_bipush (by decide) d_L_types_89 ?_
    refine er_iload rfl d_L_types_91 ?_
    refine er_imul d_L_types_93 ?_
    refine er_iload rfl d_L_types_94 ?_
    refine er_iadd d_L_types_96 ?_
    refine er_iload rfl d_L_types_97 ?_
    refine er_iconst d_L_types_99 ?_
    refine er_icmp_ge (tgt := 107) (by decide) ⟨by omega, by omega⟩ (by decide) d_L_types_100 (fun c11 => ?_) (fun c11 => ?_)
    · have h := h.1 c11
      refine er_iload rfl d_L_types_107 ?_
      refine er_iconst d_L_types_109 ?_
      refine er_icmp_ne (tgt := 117) (by decide) ⟨by omega, by omega⟩ (by decide) d_L_types_110 (fun c12 => ?_) (fun c12 => ?_)
      · have h := h.1 c12
        refine er_iconst d_L_types_117 ?_
        obtain ⟨a13, a14, h⟩ := h
        refine er_iastE sh_83 (by decide) a13 a14 d_L_types_118 (fun m15 hm => ?_)
        have h := h m15 hm
        refine er_aload_n rfl rfl d_L_types_119 ?_
        refine er_iload rfl d_L_types_120 ?_
        refine er_iconst d_L_types_122 ?_
        refine er_icmp_ge (tgt := 131) (by decide) ⟨by omega, by omega⟩ (by decide) d_L_types_123 (fun c16 => ?_) (fun c16 => ?_)
        · have h := h.1 c16
          refine er_iload rfl d_L_types_131 ?_
          refine er_iconst d_L_types_133 ?_
          refine er_icmp_ne (tgt := 142) (by decide) ⟨by omega, by omega⟩ (by decide) d_L_types_134 (fun c17 => ?_) (fun c17 => ?_)
          · have h := h.1 c17
            refine er_bipush (by decide) d_L_types_142 ?_
            refine er_cVI (As := [.inl 46]) (st := []) ml_L_24 mw_R_appendCharacter md_R_appendCharacter ⟨rfl, rfl⟩ rfl (Nat.le_of_ble_eq_true rfl) sh_1 rfl ⟨(Nat.le_of_ble_eq_true rfl), (Nat.le_of_ble_eq_true rfl)⟩ rfl d_L_types_144 h (fun v19 m18 h => ?_)
            refine er_pop d_L_types_147 ?_
            refine er_incE (ls2 := [some (.inr 1), some (.inr 0), some (.inl x2), some (.inr 83), none, some (.inl x5), some (.inl x6), some (.inl (x7 + 1)), some (.inl y8)]) rfl (Nat.le_of_ble_eq_true rfl) rfl d_L_types_148 ?_
            refine er_goto (tgt := 67) (by decide) d_L_types_151 ?_
            exact er_forget [some (.inr 1), some (.inr 0), some (.inl x2), some (.inr 83), none, some (.inl x5), some (.inl x6), some (.inl (x7 + 1)), none] (And.intro rfl (And.intro rfl (And.intro rfl (And.intro rfl (And.intro rfl (And.intro rfl (And.intro rfl trivial))))))) h
          · have h := h.2 c17
            refine er_bipush (by decide) d_L_types_137 ?_
            refine er_goto (tgt := 144) (by decide) d_L_types_139 ?_
            refine er_cVI (As := [.inl 112]) (st := []) ml_L_24 mw_R_appendCharacter md_R_appendCharacter ⟨rfl, rfl⟩ rfl (Nat.le_of_ble_eq_true rfl) sh_1 rfl ⟨(Nat.le_of_ble_eq_true rfl), (Nat.le_of_ble_eq_true rfl)⟩ rfl d_L_types_144 h (fun v21 m20 h => ?_)
            refine er_pop d_L_types_147 ?_
            refine er_incE (ls2 := [some (.inr 1), some (.inr 0), some (.inl x2), some (.inr 83), none, some (.inl x5), some (.inl x6), some (.inl (x7 + 1)), some (.inl y8)]) rfl (Nat.le_of_ble_eq_true rfl) rfl d_L_types_148 ?_
            refine er_goto (tgt := 67) (by decide) d_L_types_151 ?_
            exact er_forget [some (.inr 1), some (.inr 0), some (.inl x2), some (.inr 83), none, some (.inl x5), some (.inl x6), some (.inl (x7 + 1)), none] (And.intro rfl (And.intro rfl (And.intro rfl (And.intro rfl (And.intro rfl (And.intro rfl (And.intro rfl trivial))))))) h
        · have h := h.2 c16
          refine er_bipush (by decide) d_L_types_126 ?_
          refine er_goto (tgt := 144) (by decide) d_L_types_128 ?_
          refine er_cVI (As := [.inl 115]) (st := []) ml_L_24 mw_R_appendCharacter md_R_appendCharacter ⟨rfl, rfl⟩ rfl (Nat.le_of_ble_eq_true rfl) sh_1 rfl ⟨(Nat.le_of_ble_eq_true rfl), (Nat.le_of_ble_eq_true rfl)⟩ rfl d_L_types_144 h (fun v23 m22 h => ?_)
          refine er_pop d_L_types_147 ?_
          refine er_incE (ls2 := [some (.inr 1), some (.inr 0), some (.inl x2), some (.inr 83), none, some (.inl x5), some (.inl x6), some (.inl (x7 + 1)), some (.inl y8)]) rfl (Nat.le_of_ble_eq_true rfl) rfl d_L_types_148 ?_
          refine er_goto (tgt := 67) (by decide) d_L_types_151 ?_
          exact er_forget [some (.inr 1), some (.inr 0), some (.inl x2), some (.inr 83), none, some (.inl x5), some (.inl x6), some (.inl (x7 + 1)), none] (And.intro rfl (And.intro rfl (And.intro rfl (And.intro rfl (And.intro rfl (And.intro rfl (And.intro rfl trivial))))))) h
      · have h := h.2 c12
        refine er_iconst d_L_types_113 ?_
        refine er_goto (tgt := 118) (by decide) d_L_types_114 ?_
        obtain ⟨a24, a25, h⟩ := h
        refine er_iastE sh_83 (by decide) a24 a25 d_L_types_118 (fun m26 hm => ?_)
        have h := h m26 hm
        refine er_aload_n rfl rfl d_L_types_119 ?_
        refine er_iload rfl d_L_types_120 ?_
        refine er_iconst d_L_types_122 ?_
        refine er_icmp_ge (tgt := 131) (by decide) ⟨by omega, by omega⟩ (by decide) d_L_types_123 (fun c27 => ?_) (fun c27 => ?_)
        · have h := h.1 c27
          refine er_iload rfl d_L_types_131 ?_
          refine er_iconst d_L_types_133 ?_
          refine er_icmp_ne (tgt := 142) (by decide) ⟨by omega, by omega⟩ (by decide) d_L_types_134 (fun c28 => ?_) (fun c28 => ?_)
          · have h := h.1 c28
            refine er_bipush (by decide) d_L_types_142 ?_
            refine er_cVI (As := [.inl 46]) (st := []) ml_L_24 mw_R_appendCharacter md_R_appendCharacter ⟨rfl, rfl⟩ rfl (Nat.le_of_ble_eq_true rfl) sh_1 rfl ⟨(Nat.le_of_ble_eq_true rfl), (Nat.le_of_ble_eq_true rfl)⟩ rfl d_L_types_144 h (fun v30 m29 h => ?_)
            refine er_pop d_L_types_147 ?_
            refine er_incE (ls2 := [some (.inr 1), some (.inr 0), some (.inl x2), some (.inr 83), none, some (.inl x5), some (.inl x6), some (.inl (x7 + 1)), some (.inl y8)]) rfl (Nat.le_of_ble_eq_true rfl) rfl d_L_types_148 ?_
            refine er_goto (tgt := 67) (by decide) d_L_types_151 ?_
            exact er_forget [some (.inr 1), some (.inr 0), some (.inl x2), some (.inr 83), none, some (.inl x5), some (.inl x6), some (.inl (x7 + 1)), none] (And.intro rfl (And.intro rfl (And.intro rfl (And.intro rfl (And.intro rfl (And.intro rfl (And.intro rfl trivial))))))) h
          · have h := h.2 c28
            refine er_bipush (by decide) d_L_types_137 ?_
            refine er_goto (tgt := 144) (by decide) d_L_types_139 ?_
            refine er_cVI (As := [.inl 112]) (st := []) ml_L_24 mw_R_appendCharacter md_R_appendCharacter ⟨rfl, rfl⟩ rfl (Nat.le_of_ble_eq_true rfl) sh_1 rfl ⟨(Nat.le_of_ble_eq_true rfl), (Nat.le_of_ble_eq_true rfl)⟩ rfl d_L_types_144 h (fun v32 m31 h => ?_)
            refine er_pop d_L_types_147 ?_
            refine er_incE (ls2 := [some (.inr 1), some (.inr 0), some (.inl x2), some (.inr 83), none, some (.inl x5), some (.inl x6), some (.inl (x7 + 1)), some (.inl y8)]) rfl (Nat.le_of_ble_eq_true rfl) rfl d_L_types_148 ?_
            refine er_goto (tgt := 67) (by decide) d_L_types_151 ?_
            exact er_forget [some (.inr 1), some (.inr 0), some (.inl x2), some (.inr 83), none, some (.inl x5), some (.inl x6), some (.inl (x7 + 1)), none] (And.intro rfl (And.intro rfl (And.intro rfl (And.intro rfl (And.intro rfl (And.intro rfl (And.intro rfl trivial))))))) h
        · have h := h.2 c27
          refine er_bipush (by decide) d_L_types_126 ?_
          refine er_goto (tgt := 144) (by decide) d_L_types_128 ?_
          refine er_cVI (As := [.inl 115]) (st := []) ml_L_24 mw_R_appendCharacter md_R_appendCharacter ⟨rfl, rfl⟩ rfl (Nat.le_of_ble_eq_true rfl) sh_1 rfl ⟨(Nat.le_of_ble_eq_true rfl), (Nat.le_of_ble_eq_true rfl)⟩ rfl d_L_types_144 h (fun v34 m33 h => ?_)
          refine er_pop d_L_types_147 ?_
          refine er_incE (ls2 := [some (.inr 1), some (.inr 0), some (.inl x2), some (.inr 83), none, some (.inl x5), some (.inl x6), some (.inl (x7 + 1)), some (.inl y8)]) rfl (Nat.le_of_ble_eq_true rfl) rfl d_L_types_148 ?_
          refine er_goto (tgt := 67) (by decide) d_L_types_151 ?_
          exact er_forget [some (.inr 1), some (.inr 0), some (.inl x2), some (.inr 83), none, some (.inl x5), some (.inl x6), some (.inl (x7 + 1)), none] (And.intro rfl (And.intro rfl (And.intro rfl (And.intro rfl (And.intro rfl (And.intro rfl (And.intro rfl trivial))))))) h
    · have h := h.2 c11
      refine er_iconst d_L_types_103 ?_
      refine er_goto (tgt := 118) (by decide) d_L_types_104 ?_
      obtain ⟨a35, a36, h⟩ := h
      refine er_iastE sh_83 (by decide) a35 a36 d_L_types_118 (fun m37 hm => ?_)
      have h := h m37 hm
      refine er_aload_n rfl rfl d_L_types_119 ?_
      refine er_iload rfl d_L_types_120 ?_
      refine er_iconst d_L_types_122 ?_
      refine er_icmp_ge (tgt := 131) (by decide) ⟨by omega, by omega⟩ (by decide) d_L_types_123 (fun c38 => ?_) (fun c38 => ?_)
      · have h := h.1 c38
        refine er_iload rfl d_L_types_131 ?_
        refine er_iconst d_L_types_133 ?_
        refine er_icmp_ne (tgt := 142) (by decide) ⟨by omega, by omega⟩ (by decide) d_L_types_134 (fun c39 => ?_) (fun c39 => ?_)
        · have h := h.1 c39
          refine er_bipush (by decide) d_L_types_142 ?_
          refine er_cVI (As := [.inl 46]) (st := []) ml_L_24 mw_R_appendCharacter md_R_appendCharacter ⟨rfl, rfl⟩ rfl (Nat.le_of_ble_eq_true rfl) sh_1 rfl ⟨(Nat.le_of_ble_eq_true rfl), (Nat.le_of_ble_eq_true rfl)⟩ rfl d_L_types_144 h (fun v41 m40 h => ?_)
          refine er_pop d_L_types_147 ?_
          refine er_incE (ls2 := [some (.inr 1), some (.inr 0), some (.inl x2), some (.inr 83), none, some (.inl x5), some (.inl x6), some (.inl (x7 + 1)), some (.inl y8)]) rfl (Nat.le_of_ble_eq_true rfl) rfl d_L_types_148 ?_
          refine er_goto (tgt := 67) (by decide) d_L_types_151 ?_
          exact er_forget [some (.inr 1), some (.inr 0), some (.inl x2), some (.inr 83), none, some (.inl x5), some (.inl x6), some (.inl (x7 + 1)), none] (And.intro rfl (And.intro rfl (And.intro rfl (And.intro rfl (And.intro rfl (And.intro rfl (And.intro rfl trivial))))))) h
        · have h := h.2 c39
          refine er_bipush (by decide) d_L_types_137 ?_
          refine er_goto (tgt := 144) (by decide) d_L_types_139 ?_
          refine er_cVI (As := [.inl 112]) (st := []) ml_L_24 mw_R_appendCharacter md_R_appendCharacter ⟨rfl, rfl⟩ rfl (Nat.le_of_ble_eq_true rfl) sh_1 rfl ⟨(Nat.le_of_ble_eq_true rfl), (Nat.le_of_ble_eq_true rfl)⟩ rfl d_L_types_144 h (fun v43 m42 h => ?_)
          refine er_pop d_L_types_147 ?_
          refine er_incE (ls2 := [some (.inr 1), some (.inr 0), some (.inl x2), some (.inr 83), none, some (.inl x5), some (.inl x6), some (.inl (x7 + 1)), some (.inl y8)]) rfl (Nat.le_of_ble_eq_true rfl) rfl d_L_types_148 ?_
          refine er_goto (tgt := 67) (by decide) d_L_types_151 ?_
          exact er_forget [some (.inr 1), some (.inr 0), some (.inl x2), some (.inr 83), none, some (.inl x5), some (.inl x6), some (.inl (x7 + 1)), none] (And.intro rfl (And.intro rfl (And.intro rfl (And.intro rfl (And.intro rfl (And.intro rfl (And.intro rfl trivial))))))) h
      · have h := h.2 c38
        refine er_bipush (by decide) d_L_types_126 ?_
        refine er_goto (tgt := 144) (by decide) d_L_types_128 ?_
        refine er_cVI (As := [.inl 115]) (st := []) ml_L_24 mw_R_appendCharacter md_R_appendCharacter ⟨rfl, rfl⟩ rfl (Nat.le_of_ble_eq_true rfl) sh_1 rfl ⟨(Nat.le_of_ble_eq_true rfl), (Nat.le_of_ble_eq_true rfl)⟩ rfl d_L_types_144 h (fun v45 m44 h => ?_)
        refine er_pop d_L_types_147 ?_
        refine er_incE (ls2 := [some (.inr 1), some (.inr 0), some (.inl x2), some (.inr 83), none, some (.inl x5), some (.inl x6), some (.inl (x7 + 1)), some (.inl y8)]) rfl (Nat.le_of_ble_eq_true rfl) rfl d_L_types_148 ?_
        refine er_goto (tgt := 67) (by decide) d_L_types_151 ?_
        exact er_forget [some (.inr 1), some (.inr 0), some (.inl x2), some (.inr 83), none, some (.inl x5), some (.inl x6), some (.inl (x7 + 1)), none] (And.intro rfl (And.intro rfl (And.intro rfl (And.intro rfl (And.intro rfl (And.intro rfl (And.intro rfl trivial))))))) h
theorem vc_L_types {K : er_K} {p2 : Int} {m : er_M} {Q : er_M → Prop}  (h : er_SI K mi_L_cell [.inr 0, .inl p2] m (fun v2 m1 => er_SI K mi_L_low [.inl v2, .inl 6] m1 (fun v4 m3 => ∀ m5 : er_M, m5 = er_st m3 83 60 (1 + v4) → ∀ y6 : Int, er_in y6 → er_SI K mi_L_low [.inl y6, .inl 6] m5 (fun v9 m8 => ∀ m10 : er_M, m10 = er_st m8 83 61 (1 + v9) → er_SI K mi_R_clearText [.inr 1] m10 (fun v12 m11 => wp_L_types_43 K p2 0 m11 Q))))) : er_SV K mi_L_types [.inr 1, .inr 0, .inl p2, .inr 83] m Q := by
  refine er_start (by decide) (Nat.le_of_ble_eq_true rfl) ?_
  show er_WP K mi_L_types 0 0 er_SH m 0 [some (.inr 1), some (.inr 0), some (.inl p2), some (.inr 83), none, none, none, none, none] [] _
  refine er_aload_n rfl rfl d_L_types_0 ?_
  refine er_iload_n rfl rfl d_L_types_1 ?_
  refine er_cS (As := [.inr 0, .inl p2]) (st := []) ml_L_8 rfl mw_L_cell md_L_cell ⟨rfl, rfl⟩ rfl (Nat.le_of_ble_eq_true rfl) ⟨(Nat.le_of_ble_eq_true rfl), (Nat.le_of_ble_eq_true rfl)⟩ rfl d_L_types_2 h (fun v2 m1 h => ?_)
  refine er_istF (Nat.le_of_ble_eq_true rfl) (ls2 := [some (.inr 1), some (.inr 0), some (.inl p2), some (.inr 83), some (.inl v2), none, none, none, none]) rfl d_L_types_5 ?_
  refine er_aload_n rfl rfl d_L_types_7 ?_
  refine er_bipush (by decide) d_L_types_8 ?_
  refine er_iconst d_L_types_10 ?_
  refine er_iload rfl d_L_types_11 ?_
  refine er_bipush (by decide) d_L_types_13 ?_
  refine er_cS (As := [.inl v2, .inl 6]) (st := [.inl 1, .inl 60, .inr 83]) ml_L_14 rfl mw_L_low md_L_low ⟨rfl, rfl⟩ rfl (Nat.le_of_ble_eq_true rfl) ⟨(Nat.le_of_ble_eq_true rfl), (Nat.le_of_ble_eq_true rfl)⟩ rfl d_L_types_15 h (fun v4 m3 h => ?_)
  refine er_iadd d_L_types_18 ?_
  refine er_iastE sh_83 (by decide) (by decide) (by decide) d_L_types_19 (fun m5 hm => ?_)
  have h := h m5 hm
  refine er_aload_n rfl rfl d_L_types_20 ?_
  refine er_bipush (by decide) d_L_types_21 ?_
  refine er_iconst d_L_types_23 ?_
  refine er_iload rfl d_L_types_24 ?_
  refine er_iconst d_L_types_26 ?_
  refine er_ishrN d_L_types_27 (fun y6 a7 => ?_)
  have h := h y6 a7
  refine er_bipush (by decide) d_L_types_28 ?_
  refine er_cS (As := [.inl y6, .inl 6]) (st := [.inl 1, .inl 61, .inr 83]) ml_L_14 rfl mw_L_low md_L_low ⟨rfl, rfl⟩ rfl (Nat.le_of_ble_eq_true rfl) ⟨(Nat.le_of_ble_eq_true rfl), (Nat.le_of_ble_eq_true rfl)⟩ rfl d_L_types_30 h (fun v9 m8 h => ?_)
  refine er_iadd d_L_types_33 ?_
  refine er_iastE sh_83 (by decide) (by decide) (by decide) d_L_types_34 (fun m10 hm => ?_)
  have h := h m10 hm
  refine er_aload_n rfl rfl d_L_types_35 ?_
  refine er_cVI (As := []) (st := []) ml_L_18 mw_R_clearText md_R_clearText ⟨rfl, rfl⟩ rfl (Nat.le_of_ble_eq_true rfl) sh_1 rfl ⟨(Nat.le_of_ble_eq_true rfl), (Nat.le_of_ble_eq_true rfl)⟩ rfl d_L_types_36 h (fun v12 m11 h => ?_)
  refine er_pop d_L_types_39 ?_
  refine er_iconst d_L_types_40 ?_
  refine er_istF (Nat.le_of_ble_eq_true rfl) (ls2 := [some (.inr 1), some (.inr 0), some (.inl p2), some (.inr 83), some (.inl v2), some (.inl 0), none, none, none]) rfl d_L_types_41 ?_
  exact er_forget [some (.inr 1), some (.inr 0), some (.inl p2), some (.inr 83), none, some (.inl 0), none, none, none] (And.intro rfl (And.intro rfl (And.intro rfl (And.intro rfl (And.intro rfl trivial))))) h
def wp_L_signals_4 (K : er_K) (x1 : Int) (x2 : Int) (m : er_M) (Q : Int → er_M → Prop) : Prop := er_WP K mi_L_signals 0 0 er_SH m 4 [some (.inr 83), some (.inl x1), some (.inl x2), none] [] (er_Z K mi_L_signals (er_PI Q))
def wp_L_signals_14 (K : er_K) (x1 : Int) (x2 : Int) (x3 : Int) (m : er_M) (Q : Int → er_M → Prop) : Prop := er_WP K mi_L_signals 0 0 er_SH m 14 [some (.inr 83), some (.inl x1), some (.inl x2), some (.inl x3)] [] (er_Z K mi_L_signals (er_PI Q))
theorem vc_L_signals_4 {K : er_K} {x1 : Int} {x2 : Int} {m : er_M} {Q : Int → er_M → Prop}  (h : (er_in x2) ∧ (er_in (m 83 60)) ∧ ((((m 83 60) ≤ x2 → Q x1 m) ∧ (x2 < (m 83 60) → wp_L_signals_14 K x1 x2 0 m Q)))) : wp_L_signals_4 K x1 x2 m Q := by
  show er_WP K mi_L_signals 0 0 er_SH m 4 [some (.inr 83), some (.inl x1), some (.inl x2), none] [] _
  refine er_iload_n rfl rfl d_L_signals_4 ?_
  refine er_aload_n rfl rfl d_L_signals_5 ?_
  refine er_bipush (by decide) d_L_signals_6 ?_
  refine er_iald sh_83 (by decide) (by decide) (by decide) d_L_signals_8 ?_
  obtain ⟨a1, a2, h⟩ := h
  refine er_icmp_ge (tgt := 54) (by decide) a1 a2 d_L_signals_9 (fun c3 => ?_) (fun c3 => ?_)
  · have h := h.1 c3
    refine er_iload_n rfl rfl d_L_signals_54 ?_
    exact er_iretE rfl rfl d_L_signals_55 h
  · have h := h.2 c3
    refine er_iconst d_L_signals_12 ?_
    refine er_istE 3 rfl (Nat.le_of_ble_eq_true rfl) (ls2 := [some (.inr 83), some (.inl x1), some (.inl x2), some (.inl 0)]) rfl d_L_signals_13 ?_
    exact er_forget [some (.inr 83), some (.inl x1), some (.inl x2), some (.inl 0)] (And.intro rfl (And.intro rfl (And.intro rfl (And.intro rfl trivial)))) h
theorem vc_L_signals_14 {K : er_K} {x1 : Int} {x2 : Int} {x3 : Int} {m : er_M} {Q : Int → er_M → Prop}  (h : (er_in x3) ∧ (er_in (m 83 61)) ∧ ((((m 83 61) ≤ x3 → wp_L_signals_4 K x1 (x2 + 1) m Q) ∧ (x3 < (m 83 61) → (0 ≤ ((6 * x2) + x3)) ∧ (((6 * x2) + x3) < 64) ∧ ((er_in (m 83 ((6 * x2) + x3))) ∧ ((((m 83 ((6 * x2) + x3)) ≠ 1 → wp_L_signals_14 K (x1 + 0) x2 (x3 + 1) m Q) ∧ ((m 83 ((6 * x2) + x3)) = 1 → wp_L_signals_14 K (x1 + 1) x2 (x3 + 1) m Q)))))))) : wp_L_signals_14 K x1 x2 x3 m Q := by
  show er_WP K mi_L_signals 0 0 er_SH m 14 [some (.inr 83), some (.inl x1), some (.inl x2), some (.inl x3)] [] _
  refine er_iload_n rfl rfl d_L_signals_14 ?_
  refine er_aload_n rfl rfl d_L_signals_15 ?_
  refine er_bipush (by decide) d_L_signals_16 ?_
  refine er_iald sh_83 (by decide) (by decide) (by decide) d_L_signals_18 ?_
  obtain ⟨a1, a2, h⟩ := h
  refine er_icmp_ge (tgt := 48) (by decide) a1 a2 d_L_signals_19 (fun c3 => ?_) (fun c3 => ?_)
  · have h := h.1 c3
    refine er_incE (ls2 := [some (.inr 83), some (.inl x1), some (.inl (x2 + 1)), some (.inl x3)]) rfl (Nat.le_of_ble_eq_true rfl) rfl d_L_signals_48 ?_
    refine er_goto (tgt := 4) (by decide) d_L_signals_51 ?_
    exact er_forget [some (.inr 83), some (.inl x1), some (.inl (x2 + 1)), none] (And.intro rfl (And.intro rfl (And.intro rfl trivial))) h
  · have h := h.2 c3
    refine er_iload_n rfl rfl d_L_signals_22 ?_
    refine er_aload_n rfl rfl d_L_signals_23 ?_
    refine er_bipush (by decide) d_L_signals_24 ?_
    refine er_iload_n rfl rfl d_L_signals_26 ?_
    refine er_imul d_L_signals_27 ?_
    refine er_iload_n rfl rfl d_L_signals_28 ?_
    refine er_iadd d_L_signals_29 ?_
    obtain ⟨a4, a5, h⟩ := h
    refine er_iald sh_83 (by decide) a4 a5 d_L_signals_30 ?_
    refine er_iconst d_L_signals_31 ?_
    obtain ⟨a6, h⟩ := h
    refine er_icmp_ne (tgt := 39) (by decide) a6 (by decide) d_L_signals_32 (fun c7 => ?_) (fun c7 => ?_)
    · have h := h.1 c7
      refine er_iconst d_L_signals_39 ?_
      refine er_iadd d_L_signals_40 ?_
      refine er_istE 1 rfl (Nat.le_of_ble_eq_true rfl) (ls2 := [some (.inr 83), some (.inl (x1 + 0)), some (.inl x2), some (.inl x3)]) rfl d_L_signals_41 ?_
      refine er_incE (ls2 := [some (.inr 83), some (.inl (x1 + 0)), some (.inl x2), some (.inl (x3 + 1))]) rfl (Nat.le_of_ble_eq_true rfl) rfl d_L_signals_42 ?_
      refine er_goto (tgt := 14) (by decide) d_L_signals_45 ?_
      exact er_forget [some (.inr 83), some (.inl (x1 + 0)), some (.inl x2), some (.inl (x3 + 1))] (And.intro rfl (And.intro rfl (And.intro rfl (And.intro rfl trivial)))) h
    · have h := h.2 c7
      refine er_iconst d_L_signals_35 ?_
      refine er_goto (tgt := 40) (by decide) d_L_signals_36 ?_
      refine er_iadd d_L_signals_40 ?_
      refine er_istE 1 rfl (Nat.le_of_ble_eq_true rfl) (ls2 := [some (.inr 83), some (.inl (x1 + 1)), some (.inl x2), some (.inl x3)]) rfl d_L_signals_41 ?_
      refine er_incE (ls2 := [some (.inr 83), some (.inl (x1 + 1)), some (.inl x2), some (.inl (x3 + 1))]) rfl (Nat.le_of_ble_eq_true rfl) rfl d_L_signals_42 ?_
      refine er_goto (tgt := 14) (by decide) d_L_signals_45 ?_
      exact er_forget [some (.inr 83), some (.inl (x1 + 1)), some (.inl x2), some (.inl (x3 + 1))] (And.intro rfl (And.intro rfl (And.intro rfl (And.intro rfl trivial)))) h
theorem vc_L_signals {K : er_K} {m : er_M} {Q : Int → er_M → Prop}  (h : wp_L_signals_4 K 0 0 m Q) : er_SI K mi_L_signals [.inr 83] m Q := by
  refine er_start (by decide) (Nat.le_of_ble_eq_true rfl) ?_
  show er_WP K mi_L_signals 0 0 er_SH m 0 [some (.inr 83), none, none, none] [] _
  refine er_iconst d_L_signals_0 ?_
  refine er_istE 1 rfl (Nat.le_of_ble_eq_true rfl) (ls2 := [some (.inr 83), some (.inl 0), none, none]) rfl d_L_signals_1 ?_
  refine er_iconst d_L_signals_2 ?_
  refine er_istE 2 rfl (Nat.le_of_ble_eq_true rfl) (ls2 := [some (.inr 83), some (.inl 0), some (.inl 0), none]) rfl d_L_signals_3 ?_
  exact er_forget [some (.inr 83), some (.inl 0), some (.inl 0), none] (And.intro rfl (And.intro rfl (And.intro rfl trivial))) h
theorem vc_L_does {K : er_K} {p1 : Int} {m : er_M} {Q : Int → er_M → Prop}  (h : ∀ y1 : Int, er_in y1 → er_SI K mi_R_rows [.inr 1] m (fun v4 m3 => er_SI K mi_L_low [.inl y1, .inl v4] m3 (fun v6 m5 => ∀ y7 : Int, er_in y7 → er_SI K mi_R_columns [.inr 1] m5 (fun v10 m9 => er_SI K mi_L_low [.inl y7, .inl v10] m9 (fun v12 m11 => ∀ y13 : Int, 0 ≤ y13 → y13 < 16 → ((y13 = 0 → ∀ y16 : Int, er_in y16 → er_SI K mi_L_low [.inl y16, .inl 4] m11 (fun v19 m18 => er_SI K mi_R_setKind [.inr 1, .inl v6, .inl v12, .inl v19] m18 (fun v21 m20 => Q v21 m20))) ∧ (y13 = 1 → ∀ y22 : Int, er_in y22 → er_SI K mi_L_low [.inl y22, .inl 4] m11 (fun v25 m24 => er_SI K mi_R_setKind [.inr 1, .inl v6, .inl v12, .inl v25] m24 (fun v27 m26 => Q v27 m26))) ∧ (y13 = 2 → ∀ y28 : Int, er_in y28 → er_SI K mi_L_low [.inl y28, .inl 7] m11 (fun v31 m30 => er_SI K mi_R_setChannelCapacity [.inr 1, .inl v31] m30 (fun v33 m32 => Q v33 m32))) ∧ (y13 = 3 → ∀ y34 : Int, er_in y34 → er_SI K mi_L_low [.inl y34, .inl 11] m11 (fun v37 m36 => er_SI K mi_R_setTileCapacity [.inr 1, .inl v37] m36 (fun v39 m38 => Q v39 m38))) ∧ (y13 = 4 → er_SI K mi_R_makePair [.inr 1, .inl v6, .inl v12, .inl v6, .inl (v12 + 1)] m11 (fun v41 m40 => Q v41 m40)) ∧ (y13 = 5 → er_SI K mi_R_makePair [.inr 1, .inl v6, .inl v12, .inl v6, .inl (v12 + 1)] m11 (fun v43 m42 => Q v43 m42)) ∧ (y13 = 6 → er_SI K mi_R_makePair [.inr 1, .inl v6, .inl v12, .inl (v6 + 1), .inl v12] m11 (fun v45 m44 => Q v45 m44)) ∧ (y13 = 7 → er_SI K mi_R_breakPair [.inr 1, .inl v6, .inl v12] m11 (fun v47 m46 => Q v47 m46)) ∧ (y13 = 8 → er_SI K mi_R_deselect [.inr 1, .inl v6, .inl v12] m11 (fun v49 m48 => Q v49 m48)) ∧ (y13 = 9 → ∀ y50 : Int, er_in y50 → ∀ y52 : Int, 0 ≤ y52 → y52 < 4 → ((y52 ≠ 0 → er_SI K mi_R_select [.inr 1, .inl v6, .inl v12] m11 (fun v57 m56 => Q v57 m56)) ∧ (y52 = 0 → er_SI K mi_R_clearSelection [.inr 1] m11 (fun v59 m58 => Q v59 m58)))) ∧ (y13 < 0 ∨ 9 < y13 → er_SI K mi_R_select [.inr 1, .inl v6, .inl v12] m11 (fun v61 m60 => Q v61 m60)))))))) : er_SI K mi_L_does [.inr 1, .inl p1] m Q := by
  refine er_start (by decide) (Nat.le_of_ble_eq_true rfl) ?_
  show er_WP K mi_L_does 0 0 er_SH m 0 [some (.inr 1), some (.inl p1), none, none] [] _
  refine er_iload_n rfl rfl d_L_does_0 ?_
  refine er_iconst d_L_does_1 ?_
  refine er_ishrN d_L_does_2 (fun y1 a2 => ?_)
  have h := h y1 a2
  refine er_aload_n rfl rfl d_L_does_3 ?_
  refine er_cVI (As := []) (st := [.inl y1]) ml_L_28 mw_R_rows md_R_rows ⟨rfl, rfl⟩ rfl (Nat.le_of_ble_eq_true rfl) sh_1 rfl ⟨(Nat.le_of_ble_eq_true rfl), (Nat.le_of_ble_eq_true rfl)⟩ rfl d_L_does_4 h (fun v4 m3 h => ?_)
  refine er_cS (As := [.inl y1, .inl v4]) (st := []) ml_L_14 rfl mw_L_low md_L_low ⟨rfl, rfl⟩ rfl (Nat.le_of_ble_eq_true rfl) ⟨(Nat.le_of_ble_eq_true rfl), (Nat.le_of_ble_eq_true rfl)⟩ rfl d_L_does_7 h (fun v6 m5 h => ?_)
  refine er_istE 2 rfl (Nat.le_of_ble_eq_true rfl) (ls2 := [some (.inr 1), some (.inl p1), some (.inl v6), none]) rfl d_L_does_10 ?_
  refine er_iload_n rfl rfl d_L_does_11 ?_
  refine er_bipush (by decide) d_L_does_12 ?_
  refine er_ishrN d_L_does_14 (fun y7 a8 => ?_)
  have h := h y7 a8
  refine er_aload_n rfl rfl d_L_does_15 ?_
  refine er_cVI (As := []) (st := [.inl y7]) ml_L_33 mw_R_columns md_R_columns ⟨rfl, rfl⟩ rfl (Nat.le_of_ble_eq_true rfl) sh_1 rfl ⟨(Nat.le_of_ble_eq_true rfl), (Nat.le_of_ble_eq_true rfl)⟩ rfl d_L_does_16 h (fun v10 m9 h => ?_)
  refine er_cS (As := [.inl y7, .inl v10]) (st := []) ml_L_14 rfl mw_L_low md_L_low ⟨rfl, rfl⟩ rfl (Nat.le_of_ble_eq_true rfl) ⟨(Nat.le_of_ble_eq_true rfl), (Nat.le_of_ble_eq_true rfl)⟩ rfl d_L_does_19 h (fun v12 m11 h => ?_)
  refine er_istE 3 rfl (Nat.le_of_ble_eq_true rfl) (ls2 := [some (.inr 1), some (.inl p1), some (.inl v6), some (.inl v12)]) rfl d_L_does_22 ?_
  refine er_iload_n rfl rfl d_L_does_23 ?_
  refine er_bipush (by decide) d_L_does_24 ?_
  refine er_iandN 4 (by decide +kernel) (by decide +kernel) d_L_does_26 (fun y13 a14 a15 => ?_)
  replace a15 : y13 < 16 := by omega
  have h := h y13 a14 a15
  rcases (by omega : y13 = 0 ∨ y13 = 1 ∨ y13 = 2 ∨ y13 = 3 ∨ y13 = 4 ∨ y13 = 5 ∨ y13 = 6 ∨ y13 = 7 ∨ y13 = 8 ∨ y13 = 9 ∨ (y13 < 0 ∨ 9 < y13)) with c62 | c62 | c62 | c62 | c62 | c62 | c62 | c62 | c62 | c62 | c62
  · have h := h.1 c62
    refine er_tabAt (tgt := 80) 0 c62 (by decide) (by decide) (by decide) rfl (by decide) d_L_does_27 ?_
    refine er_aload_n rfl rfl d_L_does_80 ?_
    refine er_iload_n rfl rfl d_L_does_81 ?_
    refine er_iload_n rfl rfl d_L_does_82 ?_
    refine er_iload_n rfl rfl d_L_does_83 ?_
    refine er_bipush (by decide) d_L_does_84 ?_
    refine er_ishrN d_L_does_86 (fun y16 a17 => ?_)
    have h := h y16 a17
    refine er_iconst d_L_does_87 ?_
    refine er_cS (As := [.inl y16, .inl 4]) (st := [.inl v12, .inl v6, .inr 1]) ml_L_14 rfl mw_L_low md_L_low ⟨rfl, rfl⟩ rfl (Nat.le_of_ble_eq_true rfl) ⟨(Nat.le_of_ble_eq_true rfl), (Nat.le_of_ble_eq_true rfl)⟩ rfl d_L_does_88 h (fun v19 m18 h => ?_)
    refine er_cVI (As := [.inl v6, .inl v12, .inl v19]) (st := []) ml_L_71 mw_R_setKind md_R_setKind ⟨rfl, rfl⟩ rfl (Nat.le_of_ble_eq_true rfl) sh_1 rfl ⟨(Nat.le_of_ble_eq_true rfl), (Nat.le_of_ble_eq_true rfl)⟩ rfl d_L_does_91 h (fun v21 m20 h => ?_)
    exact er_iretE rfl rfl d_L_does_94 h
  · have h := h.2.1 c62
    refine er_tabAt (tgt := 80) 1 c62 (by decide) (by decide) (by decide) rfl (by decide) d_L_does_27 ?_
    refine er_aload_n rfl rfl d_L_does_80 ?_
    refine er_iload_n rfl rfl d_L_does_81 ?_
    refine er_iload_n rfl rfl d_L_does_82 ?_
    refine er_iload_n rfl rfl d_L_does_83 ?_
    refine er_bipush (by decide) d_L_does_84 ?_
    refine er_ishrN d_L_does_86 (fun y22 a23 => ?_)
    have h := h y22 a23
    refine er_iconst d_L_does_87 ?_
    refine er_cS (As := [.inl y22, .inl 4]) (st := [.inl v12, .inl v6, .inr 1]) ml_L_14 rfl mw_L_low md_L_low ⟨rfl, rfl⟩ rfl (Nat.le_of_ble_eq_true rfl) ⟨(Nat.le_of_ble_eq_true rfl), (Nat.le_of_ble_eq_true rfl)⟩ rfl d_L_does_88 h (fun v25 m24 h => ?_)
    refine er_cVI (As := [.inl v6, .inl v12, .inl v25]) (st := []) ml_L_71 mw_R_setKind md_R_setKind ⟨rfl, rfl⟩ rfl (Nat.le_of_ble_eq_true rfl) sh_1 rfl ⟨(Nat.le_of_ble_eq_true rfl), (Nat.le_of_ble_eq_true rfl)⟩ rfl d_L_does_91 h (fun v27 m26 h => ?_)
    exact er_iretE rfl rfl d_L_does_94 h
  · have h := h.2.2.1 c62
    refine er_tabAt (tgt := 95) 2 c62 (by decide) (by decide) (by decide) rfl (by decide) d_L_does_27 ?_
    refine er_aload_n rfl rfl d_L_does_95 ?_
    refine er_iload_n rfl rfl d_L_does_96 ?_
    refine er_bipush (by decide) d_L_does_97 ?_
    refine er_ishrN d_L_does_99 (fun y28 a29 => ?_)
    have h := h y28 a29
    refine er_bipush (by decide) d_L_does_100 ?_
    refine er_cS (As := [.inl y28, .inl 7]) (st := [.inr 1]) ml_L_14 rfl mw_L_low md_L_low ⟨rfl, rfl⟩ rfl (Nat.le_of_ble_eq_true rfl) ⟨(Nat.le_of_ble_eq_true rfl), (Nat.le_of_ble_eq_true rfl)⟩ rfl d_L_does_102 h (fun v31 m30 h => ?_)
    refine er_cVI (As := [.inl v31]) (st := []) ml_L_75 mw_R_setChannelCapacity md_R_setChannelCapacity ⟨rfl, rfl⟩ rfl (Nat.le_of_ble_eq_true rfl) sh_1 rfl ⟨(Nat.le_of_ble_eq_true rfl), (Nat.le_of_ble_eq_true rfl)⟩ rfl d_L_does_105 h (fun v33 m32 h => ?_)
    exact er_iretE rfl rfl d_L_does_108 h
  · have h := h.2.2.2.1 c62
    refine er_tabAt (tgt := 109) 3 c62 (by decide) (by decide) (by decide) rfl (by decide) d_L_does_27 ?_
    refine er_aload_n rfl rfl d_L_does_109 ?_
    refine er_iload_n rfl rfl d_L_does_110 ?_
    refine er_bipush (by decide) d_L_does_111 ?_
    refine er_ishrN d_L_does_113 (fun y34 a35 => ?_)
    have h := h y34 a35
    refine er_bipush (by decide) d_L_does_114 ?_
    refine er_cS (As := [.inl y34, .inl 11]) (st := [.inr 1]) ml_L_14 rfl mw_L_low md_L_low ⟨rfl, rfl⟩ rfl (Nat.le_of_ble_eq_true rfl) ⟨(Nat.le_of_ble_eq_true rfl), (Nat.le_of_ble_eq_true rfl)⟩ rfl d_L_does_116 h (fun v37 m36 h => ?_)
    refine er_cVI (As := [.inl v37]) (st := []) ml_L_78 mw_R_setTileCapacity md_R_setTileCapacity ⟨rfl, rfl⟩ rfl (Nat.le_of_ble_eq_true rfl) sh_1 rfl ⟨(Nat.le_of_ble_eq_true rfl), (Nat.le_of_ble_eq_true rfl)⟩ rfl d_L_does_119 h (fun v39 m38 h => ?_)
    exact er_iretE rfl rfl d_L_does_122 h
  · have h := h.2.2.2.2.1 c62
    refine er_tabAt (tgt := 123) 4 c62 (by decide) (by decide) (by decide) rfl (by decide) d_L_does_27 ?_
    refine er_aload_n rfl rfl d_L_does_123 ?_
    refine er_iload_n rfl rfl d_L_does_124 ?_
    refine er_iload_n rfl rfl d_L_does_125 ?_
    refine er_iload_n rfl rfl d_L_does_126 ?_
    refine er_iload_n rfl rfl d_L_does_127 ?_
    refine er_iconst d_L_does_128 ?_
    refine er_iadd d_L_does_129 ?_
    refine er_cVI (As := [.inl v6, .inl v12, .inl v6, .inl (v12 + 1)]) (st := []) ml_L_81 mw_R_makePair md_R_makePair ⟨rfl, rfl⟩ rfl (Nat.le_of_ble_eq_true rfl) sh_1 rfl ⟨(Nat.le_of_ble_eq_true rfl), (Nat.le_of_ble_eq_true rfl)⟩ rfl d_L_does_130 h (fun v41 m40 h => ?_)
    exact er_iretE rfl rfl d_L_does_133 h
  · have h := h.2.2.2.2.2.1 c62
    refine er_tabAt (tgt := 123) 5 c62 (by decide) (by decide) (by decide) rfl (by decide) d_L_does_27 ?_
    refine er_aload_n rfl rfl d_L_does_123 ?_
    refine er_iload_n rfl rfl d_L_does_124 ?_
    refine er_iload_n rfl rfl d_L_does_125 ?_
    refine er_iload_n rfl rfl d_L_does_126 ?_
    refine er_iload_n rfl rfl d_L_does_127 ?_
    refine er_iconst d_L_does_128 ?_
    refine er_iadd d_L_does_129 ?_
    refine er_cVI (As := [.inl v6, .inl v12, .inl v6, .inl (v12 + 1)]) (st := []) ml_L_81 mw_R_makePair md_R_makePair ⟨rfl, rfl⟩ rfl (Nat.le_of_ble_eq_true rfl) sh_1 rfl ⟨(Nat.le_of_ble_eq_true rfl), (Nat.le_of_ble_eq_true rfl)⟩ rfl d_L_does_130 h (fun v43 m42 h => ?_)
    exact er_iretE rfl rfl d_L_does_133 h
  · have h := h.2.2.2.2.2.2.1 c62
    refine er_tabAt (tgt := 134) 6 c62 (by decide) (by decide) (by decide) rfl (by decide) d_L_does_27 ?_
    refine er_aload_n rfl rfl d_L_does_134 ?_
    refine er_iload_n rfl rfl d_L_does_135 ?_
    refine er_iload_n rfl rfl d_L_does_136 ?_
    refine er_iload_n rfl rfl d_L_does_137 ?_
    refine er_iconst d_L_does_138 ?_
    refine er_iadd d_L_does_139 ?_
    refine er_iload_n rfl rfl d_L_does_140 ?_
    refine er_cVI (As := [.inl v6, .inl v12, .inl (v6 + 1), .inl v12]) (st := []) ml_L_81 mw_R_makePair md_R_makePair ⟨rfl, rfl⟩ rfl (Nat.le_of_ble_eq_true rfl) sh_1 rfl ⟨(Nat.le_of_ble_eq_true rfl), (Nat.le_of_ble_eq_true rfl)⟩ rfl d_L_does_141 h (fun v45 m44 h => ?_)
    exact er_iretE rfl rfl d_L_does_144 h
  · have h := h.2.2.2.2.2.2.2.1 c62
    refine er_tabAt (tgt := 145) 7 c62 (by decide) (by decide) (by decide) rfl (by decide) d_L_does_27 ?_
    refine er_aload_n rfl rfl d_L_does_145 ?_
    refine er_iload_n rfl rfl d_L_does_146 ?_
    refine er_iload_n rfl rfl d_L_does_147 ?_
    refine er_cVI (As := [.inl v6, .inl v12]) (st := []) ml_L_85 mw_R_breakPair md_R_breakPair ⟨rfl, rfl⟩ rfl (Nat.le_of_ble_eq_true rfl) sh_1 rfl ⟨(Nat.le_of_ble_eq_true rfl), (Nat.le_of_ble_eq_true rfl)⟩ rfl d_L_does_148 h (fun v47 m46 h => ?_)
    exact er_iretE rfl rfl d_L_does_151 h
  · have h := h.2.2.2.2.2.2.2.2.1 c62
    refine er_tabAt (tgt := 152) 8 c62 (by decide) (by decide) (by decide) rfl (by decide) d_L_does_27 ?_
    refine er_aload_n rfl rfl d_L_does_152 ?_
    refine er_iload_n rfl rfl d_L_does_153 ?_
    refine er_iload_n rfl rfl d_L_does_154 ?_
    refine er_cVI (As := [.inl v6, .inl v12]) (st := []) ml_L_88 mw_R_deselect md_R_deselect ⟨rfl, rfl⟩ rfl (Nat.le_of_ble_eq_true rfl) sh_1 rfl ⟨(Nat.le_of_ble_eq_true rfl), (Nat.le_of_ble_eq_true rfl)⟩ rfl d_L_does_155 h (fun v49 m48 h => ?_)
    exact er_iretE rfl rfl d_L_does_158 h
  · have h := h.2.2.2.2.2.2.2.2.2.1 c62
    refine er_tabAt (tgt := 159) 9 c62 (by decide) (by decide) (by decide) rfl (by decide) d_L_does_27 ?_
    refine er_iload_n rfl rfl d_L_does_159 ?_
    refine er_bipush (by decide) d_L_does_160 ?_
    refine er_ishrN d_L_does_162 (fun y50 a51 => ?_)
    have h := h y50 a51
    refine er_iconst d_L_does_163 ?_
    refine er_iandN 2 (by decide +kernel) (by decide +kernel) d_L_does_164 (fun y52 a53 a54 => ?_)
    replace a54 : y52 < 4 := by omega
    have h := h y52 a53 a54
    refine er_if_ne (tgt := 175) (by decide) ⟨by omega, by omega⟩ d_L_does_165 (fun c55 => ?_) (fun c55 => ?_)
    · have h := h.1 c55
      refine er_aload_n rfl rfl d_L_does_175 ?_
      refine er_iload_n rfl rfl d_L_does_176 ?_
      refine er_iload_n rfl rfl d_L_does_177 ?_
      refine er_cVI (As := [.inl v6, .inl v12]) (st := []) ml_L_94 mw_R_select md_R_select ⟨rfl, rfl⟩ rfl (Nat.le_of_ble_eq_true rfl) sh_1 rfl ⟨(Nat.le_of_ble_eq_true rfl), (Nat.le_of_ble_eq_true rfl)⟩ rfl d_L_does_178 h (fun v57 m56 h => ?_)
      exact er_iretE rfl rfl d_L_does_181 h
    · have h := h.2 c55
      refine er_aload_n rfl rfl d_L_does_168 ?_
      refine er_cVI (As := []) (st := []) ml_L_91 mw_R_clearSelection md_R_clearSelection ⟨rfl, rfl⟩ rfl (Nat.le_of_ble_eq_true rfl) sh_1 rfl ⟨(Nat.le_of_ble_eq_true rfl), (Nat.le_of_ble_eq_true rfl)⟩ rfl d_L_does_169 h (fun v59 m58 h => ?_)
      refine er_goto (tgt := 181) (by decide) d_L_does_172 ?_
      exact er_iretE rfl rfl d_L_does_181 h
  · have h := h.2.2.2.2.2.2.2.2.2.2 c62
    refine er_tabOut (tgt := 182) ⟨by omega, by omega⟩ c62 (by decide) d_L_does_27 ?_
    refine er_aload_n rfl rfl d_L_does_182 ?_
    refine er_iload_n rfl rfl d_L_does_183 ?_
    refine er_iload_n rfl rfl d_L_does_184 ?_
    refine er_cVI (As := [.inl v6, .inl v12]) (st := []) ml_L_94 mw_R_select md_R_select ⟨rfl, rfl⟩ rfl (Nat.le_of_ble_eq_true rfl) sh_1 rfl ⟨(Nat.le_of_ble_eq_true rfl), (Nat.le_of_ble_eq_true rfl)⟩ rfl d_L_does_185 h (fun v61 m60 h => ?_)
    exact er_iretE rfl rfl d_L_does_188 h
def wp_L_holds_35 (K : er_K) (x2 : Int) (m : er_M) (Q : Int → er_M → Prop) : Prop := er_WP K mi_L_holds 0 0 er_SH m 35 [some (.inr 1), none, some (.inl x2), none] [] (er_Z K mi_L_holds (er_PI Q))
def wp_L_holds_39 (K : er_K) (x2 : Int) (m : er_M) (Q : Int → er_M → Prop) : Prop := er_WP K mi_L_holds 0 0 er_SH m 39 [some (.inr 1), none, some (.inl x2), none] [] (er_Z K mi_L_holds (er_PI Q))
theorem vc_L_holds_35 {K : er_K} {x2 : Int} {m : er_M} {Q : Int → er_M → Prop}  (h : er_SI K mi_R_signalCount [.inr 1] m (fun v3 m2 => (er_in v3) ∧ (((v3 ≠ 0 → (er_in x2) ∧ (((x2 ≠ 0 → er_SI K mi_R_throughput [.inr 1] m2 (fun v10 m9 => (er_in v10) ∧ (((v10 < 0 → Q 0 m9) ∧ (0 ≤ v10 → Q 1 m9))))) ∧ (x2 = 0 → Q 0 m2)))) ∧ (v3 = 0 → (er_in x2) ∧ (((x2 ≠ 0 → Q 0 m2) ∧ (x2 = 0 → er_SI K mi_R_throughput [.inr 1] m2 (fun v19 m18 => (er_in v19) ∧ (((v19 < 0 → Q 0 m18) ∧ (0 ≤ v19 → Q 1 m18)))))))))))) : wp_L_holds_35 K x2 m Q := by
  show er_WP K mi_L_holds 0 0 er_SH m 35 [some (.inr 1), none, some (.inl x2), none] [] _
  refine er_iconst d_L_holds_35 ?_
  refine er_goto (tgt := 40) (by decide) d_L_holds_36 ?_
  refine er_istE 3 rfl (Nat.le_of_ble_eq_true rfl) (ls2 := [some (.inr 1), none, some (.inl x2), some (.inl 1)]) rfl d_L_holds_40 ?_
  refine er_iload_n rfl rfl d_L_holds_41 ?_
  refine er_if_eq (tgt := 80) (by decide) (by decide) d_L_holds_42 (fun c1 => ?_) (fun c1 => ?_)
  · exact absurd c1 (by decide)
  · skip
    refine er_aload_n rfl rfl d_L_holds_45 ?_
    refine er_cVI (As := []) (st := []) ml_L_100 mw_R_signalCount md_R_signalCount ⟨rfl, rfl⟩ rfl (Nat.le_of_ble_eq_true rfl) sh_1 rfl ⟨(Nat.le_of_ble_eq_true rfl), (Nat.le_of_ble_eq_true rfl)⟩ rfl d_L_holds_46 h (fun v3 m2 h => ?_)
    obtain ⟨a4, h⟩ := h
    refine er_if_ne (tgt := 56) (by decide) a4 d_L_holds_49 (fun c5 => ?_) (fun c5 => ?_)
    · have h := h.1 c5
      refine er_iconst d_L_holds_56 ?_
      refine er_iload_n rfl rfl d_L_holds_57 ?_
      obtain ⟨a6, h⟩ := h
      refine er_if_ne (tgt := 65) (by decide) a6 d_L_holds_58 (fun c7 => ?_) (fun c7 => ?_)
      · have h := h.1 c7
        refine er_iconst d_L_holds_65 ?_
        refine er_icmp_ne (tgt := 80) (by decide) (by decide) (by decide) d_L_holds_66 (fun c8 => ?_) (fun c8 => ?_)
        · exact absurd c8 (by decide)
        · skip
          refine er_aload_n rfl rfl d_L_holds_69 ?_
          refine er_cVI (As := []) (st := []) ml_L_68 mw_R_throughput md_R_throughput ⟨rfl, rfl⟩ rfl (Nat.le_of_ble_eq_true rfl) sh_1 rfl ⟨(Nat.le_of_ble_eq_true rfl), (Nat.le_of_ble_eq_true rfl)⟩ rfl d_L_holds_70 h (fun v10 m9 h => ?_)
          obtain ⟨a11, h⟩ := h
          refine er_if_lt (tgt := 80) (by decide) a11 d_L_holds_73 (fun c12 => ?_) (fun c12 => ?_)
          · have h := h.1 c12
            refine er_iconst d_L_holds_80 ?_
            exact er_zretE rfl (Or.inl rfl) rfl d_L_holds_81 h
          · have h := h.2 c12
            refine er_iconst d_L_holds_76 ?_
            refine er_goto (tgt := 81) (by decide) d_L_holds_77 ?_
            exact er_zretE rfl (Or.inr rfl) rfl d_L_holds_81 h
      · have h := h.2 c7
        refine er_iconst d_L_holds_61 ?_
        refine er_goto (tgt := 66) (by decide) d_L_holds_62 ?_
        refine er_icmp_ne (tgt := 80) (by decide) (by decide) (by decide) d_L_holds_66 (fun c13 => ?_) (fun c13 => ?_)
        · skip
          refine er_iconst d_L_holds_80 ?_
          exact er_zretE rfl (Or.inl rfl) rfl d_L_holds_81 h
        · exact absurd c13 (by decide)
    · have h := h.2 c5
      refine er_iconst d_L_holds_52 ?_
      refine er_goto (tgt := 57) (by decide) d_L_holds_53 ?_
      refine er_iload_n rfl rfl d_L_holds_57 ?_
      obtain ⟨a14, h⟩ := h
      refine er_if_ne (tgt := 65) (by decide) a14 d_L_holds_58 (fun c15 => ?_) (fun c15 => ?_)
      · have h := h.1 c15
        refine er_iconst d_L_holds_65 ?_
        refine er_icmp_ne (tgt := 80) (by decide) (by decide) (by decide) d_L_holds_66 (fun c16 => ?_) (fun c16 => ?_)
        · skip
          refine er_iconst d_L_holds_80 ?_
          exact er_zretE rfl (Or.inl rfl) rfl d_L_holds_81 h
        · exact absurd c16 (by decide)
      · have h := h.2 c15
        refine er_iconst d_L_holds_61 ?_
        refine er_goto (tgt := 66) (by decide) d_L_holds_62 ?_
        refine er_icmp_ne (tgt := 80) (by decide) (by decide) (by decide) d_L_holds_66 (fun c17 => ?_) (fun c17 => ?_)
        · exact absurd c17 (by decide)
        · skip
          refine er_aload_n rfl rfl d_L_holds_69 ?_
          refine er_cVI (As := []) (st := []) ml_L_68 mw_R_throughput md_R_throughput ⟨rfl, rfl⟩ rfl (Nat.le_of_ble_eq_true rfl) sh_1 rfl ⟨(Nat.le_of_ble_eq_true rfl), (Nat.le_of_ble_eq_true rfl)⟩ rfl d_L_holds_70 h (fun v19 m18 h => ?_)
          obtain ⟨a20, h⟩ := h
          refine er_if_lt (tgt := 80) (by decide) a20 d_L_holds_73 (fun c21 => ?_) (fun c21 => ?_)
          · have h := h.1 c21
            refine er_iconst d_L_holds_80 ?_
            exact er_zretE rfl (Or.inl rfl) rfl d_L_holds_81 h
          · have h := h.2 c21
            refine er_iconst d_L_holds_76 ?_
            refine er_goto (tgt := 81) (by decide) d_L_holds_77 ?_
            exact er_zretE rfl (Or.inr rfl) rfl d_L_holds_81 h
theorem vc_L_holds_39 {K : er_K} {x2 : Int} {m : er_M} {Q : Int → er_M → Prop}  (h : Q 0 m) : wp_L_holds_39 K x2 m Q := by
  show er_WP K mi_L_holds 0 0 er_SH m 39 [some (.inr 1), none, some (.inl x2), none] [] _
  refine er_iconst d_L_holds_39 ?_
  refine er_istE 3 rfl (Nat.le_of_ble_eq_true rfl) (ls2 := [some (.inr 1), none, some (.inl x2), some (.inl 0)]) rfl d_L_holds_40 ?_
  refine er_iload_n rfl rfl d_L_holds_41 ?_
  refine er_if_eq (tgt := 80) (by decide) (by decide) d_L_holds_42 (fun c1 => ?_) (fun c1 => ?_)
  · skip
    refine er_iconst d_L_holds_80 ?_
    exact er_zretE rfl (Or.inl rfl) rfl d_L_holds_81 h
  · exact absurd c1 (by decide)
theorem vc_L_holds {K : er_K} {m : er_M} {Q : Int → er_M → Prop}  (h : er_SI K mi_R_layerCount [.inr 1, .inl 2] m (fun v2 m1 => er_SI K mi_R_lowerBound [.inr 1] m1 (fun v4 m3 => er_SI K mi_R_escapeCount [.inr 1] m3 (fun v6 m5 => er_SI K mi_R_signalCount [.inr 1] m5 (fun v8 m7 => (er_in v6) ∧ (er_in v8) ∧ (((v8 < v6 → wp_L_holds_39 K v4 m7 Q) ∧ (v6 ≤ v8 → (er_in v2) ∧ (((v2 < 0 → wp_L_holds_35 K v4 m7 Q) ∧ (0 ≤ v2 → (er_in v4) ∧ (((v4 < 0 → wp_L_holds_39 K v4 m7 Q) ∧ (0 ≤ v4 → ((v2 < v4 → wp_L_holds_39 K v4 m7 Q) ∧ (v4 ≤ v2 → wp_L_holds_35 K v4 m7 Q)))))))))))))))) : er_SI K mi_L_holds [.inr 1] m Q := by
  refine er_start (by decide) (Nat.le_of_ble_eq_true rfl) ?_
  show er_WP K mi_L_holds 0 0 er_SH m 0 [some (.inr 1), none, none, none] [] _
  refine er_aload_n rfl rfl d_L_holds_0 ?_
  refine er_iconst d_L_holds_1 ?_
  refine er_cVI (As := [.inl 2]) (st := []) ml_L_63 mw_R_layerCount md_R_layerCount ⟨rfl, rfl⟩ rfl (Nat.le_of_ble_eq_true rfl) sh_1 rfl ⟨(Nat.le_of_ble_eq_true rfl), (Nat.le_of_ble_eq_true rfl)⟩ rfl d_L_holds_2 h (fun v2 m1 h => ?_)
  refine er_istE 1 rfl (Nat.le_of_ble_eq_true rfl) (ls2 := [some (.inr 1), some (.inl v2), none, none]) rfl d_L_holds_5 ?_
  refine er_aload_n rfl rfl d_L_holds_6 ?_
  refine er_cVI (As := []) (st := []) ml_L_97 mw_R_lowerBound md_R_lowerBound ⟨rfl, rfl⟩ rfl (Nat.le_of_ble_eq_true rfl) sh_1 rfl ⟨(Nat.le_of_ble_eq_true rfl), (Nat.le_of_ble_eq_true rfl)⟩ rfl d_L_holds_7 h (fun v4 m3 h => ?_)
  refine er_istE 2 rfl (Nat.le_of_ble_eq_true rfl) (ls2 := [some (.inr 1), some (.inl v2), some (.inl v4), none]) rfl d_L_holds_10 ?_
  refine er_aload_n rfl rfl d_L_holds_11 ?_
  refine er_cVI (As := []) (st := []) ml_L_53 mw_R_escapeCount md_R_escapeCount ⟨rfl, rfl⟩ rfl (Nat.le_of_ble_eq_true rfl) sh_1 rfl ⟨(Nat.le_of_ble_eq_true rfl), (Nat.le_of_ble_eq_true rfl)⟩ rfl d_L_holds_12 h (fun v6 m5 h => ?_)
  refine er_aload_n rfl rfl d_L_holds_15 ?_
  refine er_cVI (As := []) (st := [.inl v6]) ml_L_100 mw_R_signalCount md_R_signalCount ⟨rfl, rfl⟩ rfl (Nat.le_of_ble_eq_true rfl) sh_1 rfl ⟨(Nat.le_of_ble_eq_true rfl), (Nat.le_of_ble_eq_true rfl)⟩ rfl d_L_holds_16 h (fun v8 m7 h => ?_)
  obtain ⟨a9, a10, h⟩ := h
  refine er_icmp_gt (tgt := 39) (by decide) a9 a10 d_L_holds_19 (fun c11 => ?_) (fun c11 => ?_)
  · have h := h.1 c11
    exact er_forget [some (.inr 1), none, some (.inl v4), none] (And.intro rfl (And.intro rfl trivial)) h
  · have h := h.2 c11
    refine er_iload_n rfl rfl d_L_holds_22 ?_
    obtain ⟨a12, h⟩ := h
    refine er_if_lt (tgt := 35) (by decide) a12 d_L_holds_23 (fun c13 => ?_) (fun c13 => ?_)
    · have h := h.1 c13
      exact er_forget [some (.inr 1), none, some (.inl v4), none] (And.intro rfl (And.intro rfl trivial)) h
    · have h := h.2 c13
      refine er_iload_n rfl rfl d_L_holds_26 ?_
      obtain ⟨a14, h⟩ := h
      refine er_if_lt (tgt := 39) (by decide) a14 d_L_holds_27 (fun c15 => ?_) (fun c15 => ?_)
      · have h := h.1 c15
        exact er_forget [some (.inr 1), none, some (.inl v4), none] (And.intro rfl (And.intro rfl trivial)) h
      · have h := h.2 c15
        refine er_iload_n rfl rfl d_L_holds_30 ?_
        refine er_iload_n rfl rfl d_L_holds_31 ?_
        refine er_icmp_lt (tgt := 39) (by decide) a12 a14 d_L_holds_32 (fun c16 => ?_) (fun c16 => ?_)
        · have h := h.1 c16
          exact er_forget [some (.inr 1), none, some (.inl v4), none] (And.intro rfl (And.intro rfl trivial)) h
        · have h := h.2 c16
          exact er_forget [some (.inr 1), none, some (.inl v4), none] (And.intro rfl (And.intro rfl trivial)) h
