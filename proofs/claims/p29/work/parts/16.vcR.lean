/-! conditions of the walks: printed by wip/whole/gen13.py -/
theorem vc_R_appendCharacter {K : er_K} {p1 : Int} {m : er_M} {Q : Int → er_M → Prop}  (h : (er_in p1) ∧ (((p1 < 0 → Q (-1) m) ∧ (0 ≤ p1 → ((p1 ≤ 255 → er_SI K mi_G_add [.inr 40, .inl p1] m (fun v5 m4 => (er_in v5) ∧ (((v5 = 0 → Q (-3) m4) ∧ (v5 ≠ 0 → Q (m4 40 1) m4))))) ∧ (255 < p1 → Q (-1) m)))))) : er_SI K mi_R_appendCharacter [.inr 1, .inl p1] m Q := by
  refine er_start (by decide) (Nat.le_of_ble_eq_true rfl) ?_
  show er_WP K mi_R_appendCharacter 0 0 er_SH m 0 [some (.inr 1), some (.inl p1)] [] _
  refine er_iload_n rfl rfl d_R_appendCharacter_0 ?_
  obtain ⟨a1, h⟩ := h
  refine er_if_lt (tgt := 11) (by decide) a1 d_R_appendCharacter_1 (fun c2 => ?_) (fun c2 => ?_)
  · have h := h.1 c2
    refine er_iconst d_R_appendCharacter_11 ?_
    exact er_iretE rfl rfl d_R_appendCharacter_12 h
  · have h := h.2 c2
    refine er_iload_n rfl rfl d_R_appendCharacter_4 ?_
    refine er_sipush (by decide) d_R_appendCharacter_5 ?_
    refine er_icmp_le (tgt := 13) (by decide) a1 (by decide) d_R_appendCharacter_8 (fun c3 => ?_) (fun c3 => ?_)
    · have h := h.1 c3
      refine er_aload_n rfl rfl d_R_appendCharacter_13 ?_
      refine er_getR fl_R_26 sh_1 (by decide) rfl (by decide) d_R_appendCharacter_14 ?_
      refine er_iload_n rfl rfl d_R_appendCharacter_17 ?_
      refine er_cVI (As := [.inl p1]) (st := []) ml_R_64 mw_G_add md_G_add ⟨rfl, rfl⟩ rfl (Nat.le_of_ble_eq_true rfl) sh_40 rfl ⟨(Nat.le_of_ble_eq_true rfl), (Nat.le_of_ble_eq_true rfl)⟩ rfl d_R_appendCharacter_18 h (fun v5 m4 h => ?_)
      obtain ⟨a6, h⟩ := h
      refine er_if_eq (tgt := 34) (by decide) a6 d_R_appendCharacter_21 (fun c7 => ?_) (fun c7 => ?_)
      · have h := h.1 c7
        refine er_bipush (by decide) d_R_appendCharacter_34 ?_
        exact er_iretE rfl rfl d_R_appendCharacter_36 h
      · have h := h.2 c7
        refine er_aload_n rfl rfl d_R_appendCharacter_24 ?_
        refine er_getR fl_R_26 sh_1 (by decide) rfl (by decide) d_R_appendCharacter_25 ?_
        refine er_getIE 1 rfl fl_R_68 sh_40 (by decide) rfl d_R_appendCharacter_28 ?_
        refine er_goto (tgt := 36) (by decide) d_R_appendCharacter_31 ?_
        exact er_iretE rfl rfl d_R_appendCharacter_36 h
    · have h := h.2 c3
      refine er_iconst d_R_appendCharacter_11 ?_
      exact er_iretE rfl rfl d_R_appendCharacter_12 h
theorem vc_R_clearText {K : er_K} {m : er_M} {Q : Int → er_M → Prop}  (h : ∀ m1 : er_M, m1 = er_st m 40 1 0 → Q (m 40 1) m1) : er_SI K mi_R_clearText [.inr 1] m Q := by
  refine er_start (by decide) (Nat.le_of_ble_eq_true rfl) ?_
  show er_WP K mi_R_clearText 0 0 er_SH m 0 [some (.inr 1), none] [] _
  refine er_aload_n rfl rfl d_R_clearText_0 ?_
  refine er_getR fl_R_26 sh_1 (by decide) rfl (by decide) d_R_clearText_1 ?_
  refine er_getIE 1 rfl fl_R_68 sh_40 (by decide) rfl d_R_clearText_4 ?_
  refine er_istE 1 rfl (Nat.le_of_ble_eq_true rfl) (ls2 := [some (.inr 1), some (.inl (m 40 1))]) rfl d_R_clearText_7 ?_
  refine er_aload_n rfl rfl d_R_clearText_8 ?_
  refine er_getR fl_R_26 sh_1 (by decide) rfl (by decide) d_R_clearText_9 ?_
  refine er_iconst d_R_clearText_12 ?_
  refine er_putIE 1 rfl fl_R_68 sh_40 (by decide) rfl d_R_clearText_13 (fun m1 hm => ?_)
  have h := h m1 hm
  refine er_iload_n rfl rfl d_R_clearText_16 ?_
  exact er_iretE rfl rfl d_R_clearText_17 h
theorem vc_R_loadGrid {K : er_K} {m : er_M} {Q : Int → er_M → Prop}  (h : er_SI K mi_G_read [.inr 40] m (fun v2 m1 => (er_in v2) ∧ (((v2 = (-1) → er_SV K mi_R_beginEdit [.inr 1] m1 (fun m5 => er_SV K mi_B_replaceGrid [.inr 2, .inr 40] m5 (fun m6 => ∀ m7 : er_M, m7 = er_st m6 40 1 0 → er_SI K mi_B_countSignals [.inr 2] m7 (fun v9 m8 => Q v9 m8)))) ∧ (v2 ≠ (-1) → Q ((-10) - v2) m1))))) : er_SI K mi_R_loadGrid [.inr 1] m Q := by
  refine er_start (by decide) (Nat.le_of_ble_eq_true rfl) ?_
  show er_WP K mi_R_loadGrid 0 0 er_SH m 0 [some (.inr 1), none] [] _
  refine er_aload_n rfl rfl d_R_loadGrid_0 ?_
  refine er_getR fl_R_26 sh_1 (by decide) rfl (by decide) d_R_loadGrid_1 ?_
  refine er_cVI (As := []) (st := []) ml_R_71 mw_G_read md_G_read ⟨rfl, rfl⟩ rfl (Nat.le_of_ble_eq_true rfl) sh_40 rfl ⟨(Nat.le_of_ble_eq_true rfl), (Nat.le_of_ble_eq_true rfl)⟩ rfl d_R_loadGrid_4 h (fun v2 m1 h => ?_)
  refine er_istE 1 rfl (Nat.le_of_ble_eq_true rfl) (ls2 := [some (.inr 1), some (.inl v2)]) rfl d_R_loadGrid_7 ?_
  refine er_iload_n rfl rfl d_R_loadGrid_8 ?_
  refine er_iconst d_R_loadGrid_9 ?_
  obtain ⟨a3, h⟩ := h
  refine er_icmp_eq (tgt := 18) (by decide) a3 (by decide) d_R_loadGrid_10 (fun c4 => ?_) (fun c4 => ?_)
  · have h := h.1 c4
    refine er_aload_n rfl rfl d_R_loadGrid_18 ?_
    refine er_cVV (As := []) (st := []) ml_R_75 mw_R_beginEdit md_R_beginEdit ⟨rfl, rfl⟩ rfl (Nat.le_of_ble_eq_true rfl) sh_1 rfl ⟨(Nat.le_of_ble_eq_true rfl), (Nat.le_of_ble_eq_true rfl)⟩ rfl d_R_loadGrid_19 h (fun m5 h => ?_)
    refine er_aload_n rfl rfl d_R_loadGrid_22 ?_
    refine er_getR fl_R_12 sh_1 (by decide) rfl (by decide) d_R_loadGrid_23 ?_
    refine er_aload_n rfl rfl d_R_loadGrid_26 ?_
    refine er_getR fl_R_26 sh_1 (by decide) rfl (by decide) d_R_loadGrid_27 ?_
    refine er_cVV (As := [.inr 40]) (st := []) ml_R_78 mw_B_replaceGrid md_B_replaceGrid ⟨rfl, rfl⟩ rfl (Nat.le_of_ble_eq_true rfl) sh_2 rfl ⟨(Nat.le_of_ble_eq_true rfl), (Nat.le_of_ble_eq_true rfl)⟩ rfl d_R_loadGrid_30 h (fun m6 h => ?_)
    refine er_aload_n rfl rfl d_R_loadGrid_33 ?_
    refine er_getR fl_R_26 sh_1 (by decide) rfl (by decide) d_R_loadGrid_34 ?_
    refine er_iconst d_R_loadGrid_37 ?_
    refine er_putIE 1 rfl fl_R_68 sh_40 (by decide) rfl d_R_loadGrid_38 (fun m7 hm => ?_)
    have h := h m7 hm
    refine er_aload_n rfl rfl d_R_loadGrid_41 ?_
    refine er_getR fl_R_12 sh_1 (by decide) rfl (by decide) d_R_loadGrid_42 ?_
    refine er_cVI (As := []) (st := []) ml_R_82 mw_B_countSignals md_B_countSignals ⟨rfl, rfl⟩ rfl (Nat.le_of_ble_eq_true rfl) sh_2 rfl ⟨(Nat.le_of_ble_eq_true rfl), (Nat.le_of_ble_eq_true rfl)⟩ rfl d_R_loadGrid_45 h (fun v9 m8 h => ?_)
    exact er_iretE rfl rfl d_R_loadGrid_48 h
  · have h := h.2 c4
    refine er_bipush (by decide) d_R_loadGrid_13 ?_
    refine er_iload_n rfl rfl d_R_loadGrid_15 ?_
    refine er_isub d_R_loadGrid_16 ?_
    exact er_iretE rfl rfl d_R_loadGrid_17 h
theorem vc_R_setKind {K : er_K} {p1 p2 p3 : Int} {m : er_M} {Q : Int → er_M → Prop}  (h : er_SI K mi_B_has [.inr 2, .inl p1, .inl p2] m (fun v2 m1 => (er_in v2) ∧ (((v2 = 0 → Q (-1) m1) ∧ (v2 ≠ 0 → (er_in p3) ∧ (((p3 < 0 → Q (-1) m1) ∧ (0 ≤ p3 → ((p3 ≤ 2 → er_SI K mi_R_placeOf [.inl p1, .inl p2] m1 (fun v9 m8 => (0 ≤ v9) ∧ (v9 < 36) ∧ ((er_in (m8 3 v9)) ∧ ((((m8 3 v9) ≠ p3 → er_SV K mi_R_beginEdit [.inr 1] m8 (fun m14 => er_SV K mi_B_separate [.inr 2, .inl v9] m14 (fun m15 => ∀ m16 : er_M, m16 = er_st m15 5 v9 0 → ∀ m17 : er_M, m17 = er_st m16 3 v9 p3 → Q (m8 3 v9) m17))) ∧ ((m8 3 v9) = p3 → Q (-2) m8)))))) ∧ (2 < p3 → Q (-1) m1)))))))))) : er_SI K mi_R_setKind [.inr 1, .inl p1, .inl p2, .inl p3] m Q := by
  refine er_start (by decide) (Nat.le_of_ble_eq_true rfl) ?_
  show er_WP K mi_R_setKind 0 0 er_SH m 0 [some (.inr 1), some (.inl p1), some (.inl p2), some (.inl p3), none, none] [] _
  refine er_aload_n rfl rfl d_R_setKind_0 ?_
  refine er_getR fl_R_12 sh_1 (by decide) rfl (by decide) d_R_setKind_1 ?_
  refine er_iload_n rfl rfl d_R_setKind_4 ?_
  refine er_iload_n rfl rfl d_R_setKind_5 ?_
  refine er_cVI (As := [.inl p1, .inl p2]) (st := []) ml_R_85 mw_B_has md_B_has ⟨rfl, rfl⟩ rfl (Nat.le_of_ble_eq_true rfl) sh_2 rfl ⟨(Nat.le_of_ble_eq_true rfl), (Nat.le_of_ble_eq_true rfl)⟩ rfl d_R_setKind_6 h (fun v2 m1 h => ?_)
  obtain ⟨a3, h⟩ := h
  refine er_if_eq (tgt := 21) (by decide) a3 d_R_setKind_9 (fun c4 => ?_) (fun c4 => ?_)
  · have h := h.1 c4
    refine er_iconst d_R_setKind_21 ?_
    exact er_iretE rfl rfl d_R_setKind_22 h
  · have h := h.2 c4
    refine er_iload_n rfl rfl d_R_setKind_12 ?_
    obtain ⟨a5, h⟩ := h
    refine er_if_lt (tgt := 21) (by decide) a5 d_R_setKind_13 (fun c6 => ?_) (fun c6 => ?_)
    · have h := h.1 c6
      refine er_iconst d_R_setKind_21 ?_
      exact er_iretE rfl rfl d_R_setKind_22 h
    · have h := h.2 c6
      refine er_iload_n rfl rfl d_R_setKind_16 ?_
      refine er_iconst d_R_setKind_17 ?_
      refine er_icmp_le (tgt := 23) (by decide) a5 (by decide) d_R_setKind_18 (fun c7 => ?_) (fun c7 => ?_)
      · have h := h.1 c7
        refine er_iload_n rfl rfl d_R_setKind_23 ?_
        refine er_iload_n rfl rfl d_R_setKind_24 ?_
        refine er_cS (As := [.inl p1, .inl p2]) (st := []) ml_R_89 rfl mw_R_placeOf md_R_placeOf ⟨rfl, rfl⟩ rfl (Nat.le_of_ble_eq_true rfl) ⟨(Nat.le_of_ble_eq_true rfl), (Nat.le_of_ble_eq_true rfl)⟩ rfl d_R_setKind_25 h (fun v9 m8 h => ?_)
        refine er_istF (Nat.le_of_ble_eq_true rfl) (ls2 := [some (.inr 1), some (.inl p1), some (.inl p2), some (.inl p3), some (.inl v9), none]) rfl d_R_setKind_28 ?_
        refine er_aload_n rfl rfl d_R_setKind_30 ?_
        refine er_getR fl_R_12 sh_1 (by decide) rfl (by decide) d_R_setKind_31 ?_
        refine er_getR fl_R_93 sh_2 (by decide) rfl (by decide) d_R_setKind_34 ?_
        refine er_iload rfl d_R_setKind_37 ?_
        obtain ⟨a10, a11, h⟩ := h
        refine er_iald sh_3 (by decide) a10 a11 d_R_setKind_39 ?_
        refine er_istF (Nat.le_of_ble_eq_true rfl) (ls2 := [some (.inr 1), some (.inl p1), some (.inl p2), some (.inl p3), some (.inl v9), some (.inl (m8 3 v9))]) rfl d_R_setKind_40 ?_
        refine er_iload rfl d_R_setKind_42 ?_
        refine er_iload_n rfl rfl d_R_setKind_44 ?_
        obtain ⟨a12, h⟩ := h
        refine er_icmp_ne (tgt := 51) (by decide) a12 a5 d_R_setKind_45 (fun c13 => ?_) (fun c13 => ?_)
        · have h := h.1 c13
          refine er_aload_n rfl rfl d_R_setKind_51 ?_
          refine er_cVV (As := []) (st := []) ml_R_75 mw_R_beginEdit md_R_beginEdit ⟨rfl, rfl⟩ rfl (Nat.le_of_ble_eq_true rfl) sh_1 rfl ⟨(Nat.le_of_ble_eq_true rfl), (Nat.le_of_ble_eq_true rfl)⟩ rfl d_R_setKind_52 h (fun m14 h => ?_)
          refine er_aload_n rfl rfl d_R_setKind_55 ?_
          refine er_getR fl_R_12 sh_1 (by decide) rfl (by decide) d_R_setKind_56 ?_
          refine er_iload rfl d_R_setKind_59 ?_
          refine er_cVV (As := [.inl v9]) (st := []) ml_R_97 mw_B_separate md_B_separate ⟨rfl, rfl⟩ rfl (Nat.le_of_ble_eq_true rfl) sh_2 rfl ⟨(Nat.le_of_ble_eq_true rfl), (Nat.le_of_ble_eq_true rfl)⟩ rfl d_R_setKind_61 h (fun m15 h => ?_)
          refine er_aload_n rfl rfl d_R_setKind_64 ?_
          refine er_getR fl_R_12 sh_1 (by decide) rfl (by decide) d_R_setKind_65 ?_
          refine er_getR fl_R_100 sh_2 (by decide) rfl (by decide) d_R_setKind_68 ?_
          refine er_iload rfl d_R_setKind_71 ?_
          refine er_iconst d_R_setKind_73 ?_
          refine er_zastE sh_5 (by decide) a10 a11 (Or.inl rfl) d_R_setKind_74 (fun m16 hm => ?_)
          have h := h m16 hm
          refine er_aload_n rfl rfl d_R_setKind_75 ?_
          refine er_getR fl_R_12 sh_1 (by decide) rfl (by decide) d_R_setKind_76 ?_
          refine er_getR fl_R_93 sh_2 (by decide) rfl (by decide) d_R_setKind_79 ?_
          refine er_iload rfl d_R_setKind_82 ?_
          refine er_iload_n rfl rfl d_R_setKind_84 ?_
          refine er_iastE sh_3 (by decide) a10 a11 d_R_setKind_85 (fun m17 hm => ?_)
          have h := h m17 hm
          refine er_iload rfl d_R_setKind_86 ?_
          exact er_iretE rfl rfl d_R_setKind_88 h
        · have h := h.2 c13
          refine er_bipush (by decide) d_R_setKind_48 ?_
          exact er_iretE rfl rfl d_R_setKind_50 h
      · have h := h.2 c7
        refine er_iconst d_R_setKind_21 ?_
        exact er_iretE rfl rfl d_R_setKind_22 h
theorem vc_R_setChannelCapacity {K : er_K} {p1 : Int} {m : er_M} {Q : Int → er_M → Prop}  (h : (er_in p1) ∧ (((p1 < 0 → Q (-1) m) ∧ (0 ≤ p1 → ((p1 ≤ 5 → er_SV K mi_R_beginEdit [.inr 1] m (fun m4 => ∀ m5 : er_M, m5 = er_st m4 2 2 p1 → Q (m4 2 2) m5)) ∧ (5 < p1 → Q (-1) m)))))) : er_SI K mi_R_setChannelCapacity [.inr 1, .inl p1] m Q := by
  refine er_start (by decide) (Nat.le_of_ble_eq_true rfl) ?_
  show er_WP K mi_R_setChannelCapacity 0 0 er_SH m 0 [some (.inr 1), some (.inl p1), none] [] _
  refine er_iload_n rfl rfl d_R_setChannelCapacity_0 ?_
  obtain ⟨a1, h⟩ := h
  refine er_if_lt (tgt := 9) (by decide) a1 d_R_setChannelCapacity_1 (fun c2 => ?_) (fun c2 => ?_)
  · have h := h.1 c2
    refine er_iconst d_R_setChannelCapacity_9 ?_
    exact er_iretE rfl rfl d_R_setChannelCapacity_10 h
  · have h := h.2 c2
    refine er_iload_n rfl rfl d_R_setChannelCapacity_4 ?_
    refine er_iconst d_R_setChannelCapacity_5 ?_
    refine er_icmp_le (tgt := 11) (by decide) a1 (by decide) d_R_setChannelCapacity_6 (fun c3 => ?_) (fun c3 => ?_)
    · have h := h.1 c3
      refine er_aload_n rfl rfl d_R_setChannelCapacity_11 ?_
      refine er_cVV (As := []) (st := []) ml_R_75 mw_R_beginEdit md_R_beginEdit ⟨rfl, rfl⟩ rfl (Nat.le_of_ble_eq_true rfl) sh_1 rfl ⟨(Nat.le_of_ble_eq_true rfl), (Nat.le_of_ble_eq_true rfl)⟩ rfl d_R_setChannelCapacity_12 h (fun m4 h => ?_)
      refine er_aload_n rfl rfl d_R_setChannelCapacity_15 ?_
      refine er_getR fl_R_12 sh_1 (by decide) rfl (by decide) d_R_setChannelCapacity_16 ?_
      refine er_getIE 2 rfl fl_R_103 sh_2 (by decide) rfl d_R_setChannelCapacity_19 ?_
      refine er_istE 2 rfl (Nat.le_of_ble_eq_true rfl) (ls2 := [some (.inr 1), some (.inl p1), some (.inl (m4 2 2))]) rfl d_R_setChannelCapacity_22 ?_
      refine er_aload_n rfl rfl d_R_setChannelCapacity_23 ?_
      refine er_getR fl_R_12 sh_1 (by decide) rfl (by decide) d_R_setChannelCapacity_24 ?_
      refine er_iload_n rfl rfl d_R_setChannelCapacity_27 ?_
      refine er_putIE 2 rfl fl_R_103 sh_2 (by decide) rfl d_R_setChannelCapacity_28 (fun m5 hm => ?_)
      have h := h m5 hm
      refine er_iload_n rfl rfl d_R_setChannelCapacity_31 ?_
      exact er_iretE rfl rfl d_R_setChannelCapacity_32 h
    · have h := h.2 c3
      refine er_iconst d_R_setChannelCapacity_9 ?_
      exact er_iretE rfl rfl d_R_setChannelCapacity_10 h
theorem vc_R_setTileCapacity {K : er_K} {p1 : Int} {m : er_M} {Q : Int → er_M → Prop}  (h : (er_in p1) ∧ (((p1 < 0 → Q (-1) m) ∧ (0 ≤ p1 → ((p1 ≤ 9 → er_SV K mi_R_beginEdit [.inr 1] m (fun m4 => ∀ m5 : er_M, m5 = er_st m4 2 3 p1 → Q (m4 2 3) m5)) ∧ (9 < p1 → Q (-1) m)))))) : er_SI K mi_R_setTileCapacity [.inr 1, .inl p1] m Q := by
  refine er_start (by decide) (Nat.le_of_ble_eq_true rfl) ?_
  show er_WP K mi_R_setTileCapacity 0 0 er_SH m 0 [some (.inr 1), some (.inl p1), none] [] _
  refine er_iload_n rfl rfl d_R_setTileCapacity_0 ?_
  obtain ⟨a1, h⟩ := h
  refine er_if_lt (tgt := 10) (by decide) a1 d_R_setTileCapacity_1 (fun c2 => ?_) (fun c2 => ?_)
  · have h := h.1 c2
    refine er_iconst d_R_setTileCapacity_10 ?_
    exact er_iretE rfl rfl d_R_setTileCapacity_11 h
  · have h := h.2 c2
    refine er_iload_n rfl rfl d_R_setTileCapacity_4 ?_
    refine er_bipush (by decide) d_R_setTileCapacity_5 ?_
    refine er_icmp_le (tgt := 12) (by decide) a1 (by decide) d_R_setTileCapacity_7 (fun c3 => ?_) (fun c3 => ?_)
    · have h := h.1 c3
      refine er_aload_n rfl rfl d_R_setTileCapacity_12 ?_
      refine er_cVV (As := []) (st := []) ml_R_75 mw_R_beginEdit md_R_beginEdit ⟨rfl, rfl⟩ rfl (Nat.le_of_ble_eq_true rfl) sh_1 rfl ⟨(Nat.le_of_ble_eq_true rfl), (Nat.le_of_ble_eq_true rfl)⟩ rfl d_R_setTileCapacity_13 h (fun m4 h => ?_)
      refine er_aload_n rfl rfl d_R_setTileCapacity_16 ?_
      refine er_getR fl_R_12 sh_1 (by decide) rfl (by decide) d_R_setTileCapacity_17 ?_
      refine er_getIE 3 rfl fl_R_106 sh_2 (by decide) rfl d_R_setTileCapacity_20 ?_
      refine er_istE 2 rfl (Nat.le_of_ble_eq_true rfl) (ls2 := [some (.inr 1), some (.inl p1), some (.inl (m4 2 3))]) rfl d_R_setTileCapacity_23 ?_
      refine er_aload_n rfl rfl d_R_setTileCapacity_24 ?_
      refine er_getR fl_R_12 sh_1 (by decide) rfl (by decide) d_R_setTileCapacity_25 ?_
      refine er_iload_n rfl rfl d_R_setTileCapacity_28 ?_
      refine er_putIE 3 rfl fl_R_106 sh_2 (by decide) rfl d_R_setTileCapacity_29 (fun m5 hm => ?_)
      have h := h m5 hm
      refine er_iload_n rfl rfl d_R_setTileCapacity_32 ?_
      exact er_iretE rfl rfl d_R_setTileCapacity_33 h
    · have h := h.2 c3
      refine er_iconst d_R_setTileCapacity_10 ?_
      exact er_iretE rfl rfl d_R_setTileCapacity_11 h
theorem vc_R_rows {K : er_K} {m : er_M} {Q : Int → er_M → Prop}  (h : Q (m 2 0) m) : er_SI K mi_R_rows [.inr 1] m Q := by
  refine er_start (by decide) (Nat.le_of_ble_eq_true rfl) ?_
  show er_WP K mi_R_rows 0 0 er_SH m 0 [some (.inr 1)] [] _
  refine er_aload_n rfl rfl d_R_rows_0 ?_
  refine er_getR fl_R_12 sh_1 (by decide) rfl (by decide) d_R_rows_1 ?_
  refine er_getIE 0 rfl fl_R_109 sh_2 (by decide) rfl d_R_rows_4 ?_
  exact er_iretE rfl rfl d_R_rows_7 h
theorem vc_R_columns {K : er_K} {m : er_M} {Q : Int → er_M → Prop}  (h : Q (m 2 1) m) : er_SI K mi_R_columns [.inr 1] m Q := by
  refine er_start (by decide) (Nat.le_of_ble_eq_true rfl) ?_
  show er_WP K mi_R_columns 0 0 er_SH m 0 [some (.inr 1)] [] _
  refine er_aload_n rfl rfl d_R_columns_0 ?_
  refine er_getR fl_R_12 sh_1 (by decide) rfl (by decide) d_R_columns_1 ?_
  refine er_getIE 1 rfl fl_R_112 sh_2 (by decide) rfl d_R_columns_4 ?_
  exact er_iretE rfl rfl d_R_columns_7 h
theorem vc_R_kindAt {K : er_K} {p1 p2 : Int} {m : er_M} {Q : Int → er_M → Prop}  (h : er_SI K mi_B_has [.inr 2, .inl p1, .inl p2] m (fun v2 m1 => (er_in v2) ∧ (((v2 = 0 → Q (-1) m1) ∧ (v2 ≠ 0 → er_SI K mi_R_placeOf [.inl p1, .inl p2] m1 (fun v6 m5 => (0 ≤ v6) ∧ (v6 < 36) ∧ (Q (m5 3 v6) m5))))))) : er_SI K mi_R_kindAt [.inr 1, .inl p1, .inl p2] m Q := by
  refine er_start (by decide) (Nat.le_of_ble_eq_true rfl) ?_
  show er_WP K mi_R_kindAt 0 0 er_SH m 0 [some (.inr 1), some (.inl p1), some (.inl p2)] [] _
  refine er_aload_n rfl rfl d_R_kindAt_0 ?_
  refine er_getR fl_R_12 sh_1 (by decide) rfl (by decide) d_R_kindAt_1 ?_
  refine er_iload_n rfl rfl d_R_kindAt_4 ?_
  refine er_iload_n rfl rfl d_R_kindAt_5 ?_
  refine er_cVI (As := [.inl p1, .inl p2]) (st := []) ml_R_85 mw_B_has md_B_has ⟨rfl, rfl⟩ rfl (Nat.le_of_ble_eq_true rfl) sh_2 rfl ⟨(Nat.le_of_ble_eq_true rfl), (Nat.le_of_ble_eq_true rfl)⟩ rfl d_R_kindAt_6 h (fun v2 m1 h => ?_)
  obtain ⟨a3, h⟩ := h
  refine er_if_eq (tgt := 28) (by decide) a3 d_R_kindAt_9 (fun c4 => ?_) (fun c4 => ?_)
  · have h := h.1 c4
    refine er_iconst d_R_kindAt_28 ?_
    exact er_iretE rfl rfl d_R_kindAt_29 h
  · have h := h.2 c4
    refine er_aload_n rfl rfl d_R_kindAt_12 ?_
    refine er_getR fl_R_12 sh_1 (by decide) rfl (by decide) d_R_kindAt_13 ?_
    refine er_getR fl_R_93 sh_2 (by decide) rfl (by decide) d_R_kindAt_16 ?_
    refine er_iload_n rfl rfl d_R_kindAt_19 ?_
    refine er_iload_n rfl rfl d_R_kindAt_20 ?_
    refine er_cS (As := [.inl p1, .inl p2]) (st := [.inr 3]) ml_R_89 rfl mw_R_placeOf md_R_placeOf ⟨rfl, rfl⟩ rfl (Nat.le_of_ble_eq_true rfl) ⟨(Nat.le_of_ble_eq_true rfl), (Nat.le_of_ble_eq_true rfl)⟩ rfl d_R_kindAt_21 h (fun v6 m5 h => ?_)
    obtain ⟨a7, a8, h⟩ := h
    refine er_iald sh_3 (by decide) a7 a8 d_R_kindAt_24 ?_
    refine er_goto (tgt := 29) (by decide) d_R_kindAt_25 ?_
    exact er_iretE rfl rfl d_R_kindAt_29 h
theorem vc_R_signalCount {K : er_K} {m : er_M} {Q : Int → er_M → Prop}  (h : er_SI K mi_B_countSignals [.inr 2] m (fun v2 m1 => Q v2 m1)) : er_SI K mi_R_signalCount [.inr 1] m Q := by
  refine er_start (by decide) (Nat.le_of_ble_eq_true rfl) ?_
  show er_WP K mi_R_signalCount 0 0 er_SH m 0 [some (.inr 1)] [] _
  refine er_aload_n rfl rfl d_R_signalCount_0 ?_
  refine er_getR fl_R_12 sh_1 (by decide) rfl (by decide) d_R_signalCount_1 ?_
  refine er_cVI (As := []) (st := []) ml_R_82 mw_B_countSignals md_B_countSignals ⟨rfl, rfl⟩ rfl (Nat.le_of_ble_eq_true rfl) sh_2 rfl ⟨(Nat.le_of_ble_eq_true rfl), (Nat.le_of_ble_eq_true rfl)⟩ rfl d_R_signalCount_4 h (fun v2 m1 h => ?_)
  exact er_iretE rfl rfl d_R_signalCount_7 h
theorem vc_R_makePair {K : er_K} {p1 p2 p3 p4 : Int} {m : er_M} {Q : Int → er_M → Prop}  (h : er_SI K mi_B_has [.inr 2, .inl p1, .inl p2] m (fun v2 m1 => (er_in v2) ∧ (((v2 = 0 → Q (-1) m1) ∧ (v2 ≠ 0 → er_SI K mi_B_has [.inr 2, .inl p3, .inl p4] m1 (fun v6 m5 => (er_in v6) ∧ (((v6 ≠ 0 → (er_in (p1 - p3)) ∧ ((er_in (p2 - p4)) ∧ ((er_in ((max (p1 - p3) (-(p1 - p3))) + (max (p2 - p4) (-(p2 - p4))))) ∧ (((((max (p1 - p3) (-(p1 - p3))) + (max (p2 - p4) (-(p2 - p4)))) = 1 → er_SI K mi_R_placeOf [.inl p1, .inl p2] m5 (fun v14 m13 => er_SI K mi_R_placeOf [.inl p3, .inl p4] m13 (fun v16 m15 => er_SI K mi_B_isFreeForPair [.inr 2, .inl v14] m15 (fun v18 m17 => (er_in v18) ∧ (((v18 = 0 → Q (-2) m17) ∧ (v18 ≠ 0 → er_SI K mi_B_isFreeForPair [.inr 2, .inl v16] m17 (fun v22 m21 => (er_in v22) ∧ (((v22 ≠ 0 → er_SV K mi_R_beginEdit [.inr 1] m21 (fun m25 => (0 ≤ v14) ∧ (v14 < 36) ∧ (∀ m28 : er_M, m28 = er_st m25 4 v14 v16 → (0 ≤ v16) ∧ (v16 < 36) ∧ (∀ m31 : er_M, m31 = er_st m28 4 v16 v14 → er_SI K mi_B_countPairs [.inr 2] m31 (fun v33 m32 => Q v33 m32))))) ∧ (v22 = 0 → Q (-2) m21))))))))))) ∧ (((max (p1 - p3) (-(p1 - p3))) + (max (p2 - p4) (-(p2 - p4)))) ≠ 1 → Q (-1) m5)))))) ∧ (v6 = 0 → Q (-1) m5))))))))) : er_SI K mi_R_makePair [.inr 1, .inl p1, .inl p2, .inl p3, .inl p4] m Q := by
  refine er_start (by decide) (Nat.le_of_ble_eq_true rfl) ?_
  show er_WP K mi_R_makePair 0 0 er_SH m 0 [some (.inr 1), some (.inl p1), some (.inl p2), some (.inl p3), some (.inl p4), none, none] [] _
  refine er_aload_n rfl rfl d_R_makePair_0 ?_
  refine er_getR fl_R_12 sh_1 (by decide) rfl (by decide) d_R_makePair_1 ?_
  refine er_iload_n rfl rfl d_R_makePair_4 ?_
  refine er_iload_n rfl rfl d_R_makePair_5 ?_
  refine er_cVI (As := [.inl p1, .inl p2]) (st := []) ml_R_85 mw_B_has md_B_has ⟨rfl, rfl⟩ rfl (Nat.le_of_ble_eq_true rfl) sh_2 rfl ⟨(Nat.le_of_ble_eq_true rfl), (Nat.le_of_ble_eq_true rfl)⟩ rfl d_R_makePair_6 h (fun v2 m1 h => ?_)
  obtain ⟨a3, h⟩ := h
  refine er_if_eq (tgt := 25) (by decide) a3 d_R_makePair_9 (fun c4 => ?_) (fun c4 => ?_)
  · have h := h.1 c4
    refine er_iconst d_R_makePair_25 ?_
    exact er_iretE rfl rfl d_R_makePair_26 h
  · have h := h.2 c4
    refine er_aload_n rfl rfl d_R_makePair_12 ?_
    refine er_getR fl_R_12 sh_1 (by decide) rfl (by decide) d_R_makePair_13 ?_
    refine er_iload_n rfl rfl d_R_makePair_16 ?_
    refine er_iload rfl d_R_makePair_17 ?_
    refine er_cVI (As := [.inl p3, .inl p4]) (st := []) ml_R_85 mw_B_has md_B_has ⟨rfl, rfl⟩ rfl (Nat.le_of_ble_eq_true rfl) sh_2 rfl ⟨(Nat.le_of_ble_eq_true rfl), (Nat.le_of_ble_eq_true rfl)⟩ rfl d_R_makePair_19 h (fun v6 m5 h => ?_)
    obtain ⟨a7, h⟩ := h
    refine er_if_ne (tgt := 27) (by decide) a7 d_R_makePair_22 (fun c8 => ?_) (fun c8 => ?_)
    · have h := h.1 c8
      refine er_iload_n rfl rfl d_R_makePair_27 ?_
      refine er_iload_n rfl rfl d_R_makePair_28 ?_
      refine er_isub d_R_makePair_29 ?_
      obtain ⟨a9, h⟩ := h
      refine er_abs mm_R_115 a9 (Nat.le_of_ble_eq_true rfl) ⟨(Nat.le_of_ble_eq_true rfl), (Nat.le_of_ble_eq_true rfl)⟩ ⟨Nat.zero_le _, Nat.zero_le _⟩ d_R_makePair_30 ?_
      refine er_iload_n rfl rfl d_R_makePair_33 ?_
      refine er_iload rfl d_R_makePair_34 ?_
      refine er_isub d_R_makePair_36 ?_
      obtain ⟨a10, h⟩ := h
      refine er_abs mm_R_115 a10 (Nat.le_of_ble_eq_true rfl) ⟨(Nat.le_of_ble_eq_true rfl), (Nat.le_of_ble_eq_true rfl)⟩ ⟨Nat.zero_le _, Nat.zero_le _⟩ d_R_makePair_37 ?_
      refine er_iadd d_R_makePair_40 ?_
      refine er_iconst d_R_makePair_41 ?_
      obtain ⟨a11, h⟩ := h
      refine er_icmp_eq (tgt := 47) (by decide) a11 (by decide) d_R_makePair_42 (fun c12 => ?_) (fun c12 => ?_)
      · have h := h.1 c12
        refine er_iload_n rfl rfl d_R_makePair_47 ?_
        refine er_iload_n rfl rfl d_R_makePair_48 ?_
        refine er_cS (As := [.inl p1, .inl p2]) (st := []) ml_R_89 rfl mw_R_placeOf md_R_placeOf ⟨rfl, rfl⟩ rfl (Nat.le_of_ble_eq_true rfl) ⟨(Nat.le_of_ble_eq_true rfl), (Nat.le_of_ble_eq_true rfl)⟩ rfl d_R_makePair_49 h (fun v14 m13 h => ?_)
        refine er_istF (Nat.le_of_ble_eq_true rfl) (ls2 := [some (.inr 1), some (.inl p1), some (.inl p2), some (.inl p3), some (.inl p4), some (.inl v14), none]) rfl d_R_makePair_52 ?_
        refine er_iload_n rfl rfl d_R_makePair_54 ?_
        refine er_iload rfl d_R_makePair_55 ?_
        refine er_cS (As := [.inl p3, .inl p4]) (st := []) ml_R_89 rfl mw_R_placeOf md_R_placeOf ⟨rfl, rfl⟩ rfl (Nat.le_of_ble_eq_true rfl) ⟨(Nat.le_of_ble_eq_true rfl), (Nat.le_of_ble_eq_true rfl)⟩ rfl d_R_makePair_57 h (fun v16 m15 h => ?_)
        refine er_istF (Nat.le_of_ble_eq_true rfl) (ls2 := [some (.inr 1), some (.inl p1), some (.inl p2), some (.inl p3), some (.inl p4), some (.inl v14), some (.inl v16)]) rfl d_R_makePair_60 ?_
        refine er_aload_n rfl rfl d_R_makePair_62 ?_
        refine er_getR fl_R_12 sh_1 (by decide) rfl (by decide) d_R_makePair_63 ?_
        refine er_iload rfl d_R_makePair_66 ?_
        refine er_cVI (As := [.inl v14]) (st := []) ml_R_121 mw_B_isFreeForPair md_B_isFreeForPair ⟨rfl, rfl⟩ rfl (Nat.le_of_ble_eq_true rfl) sh_2 rfl ⟨(Nat.le_of_ble_eq_true rfl), (Nat.le_of_ble_eq_true rfl)⟩ rfl d_R_makePair_68 h (fun v18 m17 h => ?_)
        obtain ⟨a19, h⟩ := h
        refine er_if_eq (tgt := 86) (by decide) a19 d_R_makePair_71 (fun c20 => ?_) (fun c20 => ?_)
        · have h := h.1 c20
          refine er_bipush (by decide) d_R_makePair_86 ?_
          exact er_iretE rfl rfl d_R_makePair_88 h
        · have h := h.2 c20
          refine er_aload_n rfl rfl d_R_makePair_74 ?_
          refine er_getR fl_R_12 sh_1 (by decide) rfl (by decide) d_R_makePair_75 ?_
          refine er_iload rfl d_R_makePair_78 ?_
          refine er_cVI (As := [.inl v16]) (st := []) ml_R_121 mw_B_isFreeForPair md_B_isFreeForPair ⟨rfl, rfl⟩ rfl (Nat.le_of_ble_eq_true rfl) sh_2 rfl ⟨(Nat.le_of_ble_eq_true rfl), (Nat.le_of_ble_eq_true rfl)⟩ rfl d_R_makePair_80 h (fun v22 m21 h => ?_)
          obtain ⟨a23, h⟩ := h
          refine er_if_ne (tgt := 89) (by decide) a23 d_R_makePair_83 (fun c24 => ?_) (fun c24 => ?_)
          · have h := h.1 c24
            refine er_aload_n rfl rfl d_R_makePair_89 ?_
            refine er_cVV (As := []) (st := []) ml_R_75 mw_R_beginEdit md_R_beginEdit ⟨rfl, rfl⟩ rfl (Nat.le_of_ble_eq_true rfl) sh_1 rfl ⟨(Nat.le_of_ble_eq_true rfl), (Nat.le_of_ble_eq_true rfl)⟩ rfl d_R_makePair_90 h (fun m25 h => ?_)
            refine er_aload_n rfl rfl d_R_makePair_93 ?_
            refine er_getR fl_R_12 sh_1 (by decide) rfl (by decide) d_R_makePair_94 ?_
            refine er_getR fl_R_124 sh_2 (by decide) rfl (by decide) d_R_makePair_97 ?_
            refine er_iload rfl d_R_makePair_100 ?_
            refine er_iload rfl d_R_makePair_102 ?_
            obtain ⟨a26, a27, h⟩ := h
            refine er_iastE sh_4 (by decide) a26 a27 d_R_makePair_104 (fun m28 hm => ?_)
            have h := h m28 hm
            refine er_aload_n rfl rfl d_R_makePair_105 ?_
            refine er_getR fl_R_12 sh_1 (by decide) rfl (by decide) d_R_makePair_106 ?_
            refine er_getR fl_R_124 sh_2 (by decide) rfl (by decide) d_R_makePair_109 ?_
            refine er_iload rfl d_R_makePair_112 ?_
            refine er_iload rfl d_R_makePair_114 ?_
            obtain ⟨a29, a30, h⟩ := h
            refine er_iastE sh_4 (by decide) a29 a30 d_R_makePair_116 (fun m31 hm => ?_)
            have h := h m31 hm
            refine er_aload_n rfl rfl d_R_makePair_117 ?_
            refine er_getR fl_R_12 sh_1 (by decide) rfl (by decide) d_R_makePair_118 ?_
            refine er_cVI (As := []) (st := []) ml_R_127 mw_B_countPairs md_B_countPairs ⟨rfl, rfl⟩ rfl (Nat.le_of_ble_eq_true rfl) sh_2 rfl ⟨(Nat.le_of_ble_eq_true rfl), (Nat.le_of_ble_eq_true rfl)⟩ rfl d_R_makePair_121 h (fun v33 m32 h => ?_)
            exact er_iretE rfl rfl d_R_makePair_124 h
          · have h := h.2 c24
            refine er_bipush (by decide) d_R_makePair_86 ?_
            exact er_iretE rfl rfl d_R_makePair_88 h
      · have h := h.2 c12
        refine er_iconst d_R_makePair_45 ?_
        exact er_iretE rfl rfl d_R_makePair_46 h
    · have h := h.2 c8
      refine er_iconst d_R_makePair_25 ?_
      exact er_iretE rfl rfl d_R_makePair_26 h
theorem vc_R_breakPair {K : er_K} {p1 p2 : Int} {m : er_M} {Q : Int → er_M → Prop}  (h : er_SI K mi_B_has [.inr 2, .inl p1, .inl p2] m (fun v2 m1 => (er_in v2) ∧ (((v2 ≠ 0 → er_SI K mi_R_placeOf [.inl p1, .inl p2] m1 (fun v6 m5 => (0 ≤ v6) ∧ (v6 < 36) ∧ ((er_in (m5 4 v6)) ∧ ((((m5 4 v6) ≠ (-1) → er_SV K mi_R_beginEdit [.inr 1] m5 (fun m11 => er_SV K mi_B_separate [.inr 2, .inl v6] m11 (fun m12 => er_SI K mi_B_countPairs [.inr 2] m12 (fun v14 m13 => Q v14 m13)))) ∧ ((m5 4 v6) = (-1) → Q (-2) m5)))))) ∧ (v2 = 0 → Q (-1) m1))))) : er_SI K mi_R_breakPair [.inr 1, .inl p1, .inl p2] m Q := by
  refine er_start (by decide) (Nat.le_of_ble_eq_true rfl) ?_
  show er_WP K mi_R_breakPair 0 0 er_SH m 0 [some (.inr 1), some (.inl p1), some (.inl p2), none] [] _
  refine er_aload_n rfl rfl d_R_breakPair_0 ?_
  refine er_getR fl_R_12 sh_1 (by decide) rfl (by decide) d_R_breakPair_1 ?_
  refine er_iload_n rfl rfl d_R_breakPair_4 ?_
  refine er_iload_n rfl rfl d_R_breakPair_5 ?_
  refine er_cVI (As := [.inl p1, .inl p2]) (st := []) ml_R_85 mw_B_has md_B_has ⟨rfl, rfl⟩ rfl (Nat.le_of_ble_eq_true rfl) sh_2 rfl ⟨(Nat.le_of_ble_eq_true rfl), (Nat.le_of_ble_eq_true rfl)⟩ rfl d_R_breakPair_6 h (fun v2 m1 h => ?_)
  obtain ⟨a3, h⟩ := h
  refine er_if_ne (tgt := 14) (by decide) a3 d_R_breakPair_9 (fun c4 => ?_) (fun c4 => ?_)
  · have h := h.1 c4
    refine er_iload_n rfl rfl d_R_breakPair_14 ?_
    refine er_iload_n rfl rfl d_R_breakPair_15 ?_
    refine er_cS (As := [.inl p1, .inl p2]) (st := []) ml_R_89 rfl mw_R_placeOf md_R_placeOf ⟨rfl, rfl⟩ rfl (Nat.le_of_ble_eq_true rfl) ⟨(Nat.le_of_ble_eq_true rfl), (Nat.le_of_ble_eq_true rfl)⟩ rfl d_R_breakPair_16 h (fun v6 m5 h => ?_)
    refine er_istE 3 rfl (Nat.le_of_ble_eq_true rfl) (ls2 := [some (.inr 1), some (.inl p1), some (.inl p2), some (.inl v6)]) rfl d_R_breakPair_19 ?_
    refine er_aload_n rfl rfl d_R_breakPair_20 ?_
    refine er_getR fl_R_12 sh_1 (by decide) rfl (by decide) d_R_breakPair_21 ?_
    refine er_getR fl_R_124 sh_2 (by decide) rfl (by decide) d_R_breakPair_24 ?_
    refine er_iload_n rfl rfl d_R_breakPair_27 ?_
    obtain ⟨a7, a8, h⟩ := h
    refine er_iald sh_4 (by decide) a7 a8 d_R_breakPair_28 ?_
    refine er_iconst d_R_breakPair_29 ?_
    obtain ⟨a9, h⟩ := h
    refine er_icmp_ne (tgt := 36) (by decide) a9 (by decide) d_R_breakPair_30 (fun c10 => ?_) (fun c10 => ?_)
    · have h := h.1 c10
      refine er_aload_n rfl rfl d_R_breakPair_36 ?_
      refine er_cVV (As := []) (st := []) ml_R_75 mw_R_beginEdit md_R_beginEdit ⟨rfl, rfl⟩ rfl (Nat.le_of_ble_eq_true rfl) sh_1 rfl ⟨(Nat.le_of_ble_eq_true rfl), (Nat.le_of_ble_eq_true rfl)⟩ rfl d_R_breakPair_37 h (fun m11 h => ?_)
      refine er_aload_n rfl rfl d_R_breakPair_40 ?_
      refine er_getR fl_R_12 sh_1 (by decide) rfl (by decide) d_R_breakPair_41 ?_
      refine er_iload_n rfl rfl d_R_breakPair_44 ?_
      refine er_cVV (As := [.inl v6]) (st := []) ml_R_97 mw_B_separate md_B_separate ⟨rfl, rfl⟩ rfl (Nat.le_of_ble_eq_true rfl) sh_2 rfl ⟨(Nat.le_of_ble_eq_true rfl), (Nat.le_of_ble_eq_true rfl)⟩ rfl d_R_breakPair_45 h (fun m12 h => ?_)
      refine er_aload_n rfl rfl d_R_breakPair_48 ?_
      refine er_getR fl_R_12 sh_1 (by decide) rfl (by decide) d_R_breakPair_49 ?_
      refine er_cVI (As := []) (st := []) ml_R_127 mw_B_countPairs md_B_countPairs ⟨rfl, rfl⟩ rfl (Nat.le_of_ble_eq_true rfl) sh_2 rfl ⟨(Nat.le_of_ble_eq_true rfl), (Nat.le_of_ble_eq_true rfl)⟩ rfl d_R_breakPair_52 h (fun v14 m13 h => ?_)
      exact er_iretE rfl rfl d_R_breakPair_55 h
    · have h := h.2 c10
      refine er_bipush (by decide) d_R_breakPair_33 ?_
      exact er_iretE rfl rfl d_R_breakPair_35 h
  · have h := h.2 c4
    refine er_iconst d_R_breakPair_12 ?_
    exact er_iretE rfl rfl d_R_breakPair_13 h
theorem vc_R_partnerOf {K : er_K} {p1 p2 : Int} {m : er_M} {Q : Int → er_M → Prop}  (h : er_SI K mi_B_has [.inr 2, .inl p1, .inl p2] m (fun v2 m1 => (er_in v2) ∧ (((v2 ≠ 0 → er_SI K mi_R_placeOf [.inl p1, .inl p2] m1 (fun v6 m5 => (0 ≤ v6) ∧ (v6 < 36) ∧ ((er_in (m5 4 v6)) ∧ ((((m5 4 v6) ≠ (-1) → (0 ≤ (m5 4 v6)) ∧ ((m5 4 v6) < 2147483648) ∧ (Q ((10 * ((m5 4 v6) / 6)) + ((m5 4 v6) % 6)) m5)) ∧ ((m5 4 v6) = (-1) → Q (-9) m5)))))) ∧ (v2 = 0 → Q (-1) m1))))) : er_SI K mi_R_partnerOf [.inr 1, .inl p1, .inl p2] m Q := by
  refine er_start (by decide) (Nat.le_of_ble_eq_true rfl) ?_
  show er_WP K mi_R_partnerOf 0 0 er_SH m 0 [some (.inr 1), some (.inl p1), some (.inl p2), none] [] _
  refine er_aload_n rfl rfl d_R_partnerOf_0 ?_
  refine er_getR fl_R_12 sh_1 (by decide) rfl (by decide) d_R_partnerOf_1 ?_
  refine er_iload_n rfl rfl d_R_partnerOf_4 ?_
  refine er_iload_n rfl rfl d_R_partnerOf_5 ?_
  refine er_cVI (As := [.inl p1, .inl p2]) (st := []) ml_R_85 mw_B_has md_B_has ⟨rfl, rfl⟩ rfl (Nat.le_of_ble_eq_true rfl) sh_2 rfl ⟨(Nat.le_of_ble_eq_true rfl), (Nat.le_of_ble_eq_true rfl)⟩ rfl d_R_partnerOf_6 h (fun v2 m1 h => ?_)
  obtain ⟨a3, h⟩ := h
  refine er_if_ne (tgt := 14) (by decide) a3 d_R_partnerOf_9 (fun c4 => ?_) (fun c4 => ?_)
  · have h := h.1 c4
    refine er_aload_n rfl rfl d_R_partnerOf_14 ?_
    refine er_getR fl_R_12 sh_1 (by decide) rfl (by decide) d_R_partnerOf_15 ?_
    refine er_getR fl_R_124 sh_2 (by decide) rfl (by decide) d_R_partnerOf_18 ?_
    refine er_iload_n rfl rfl d_R_partnerOf_21 ?_
    refine er_iload_n rfl rfl d_R_partnerOf_22 ?_
    refine er_cS (As := [.inl p1, .inl p2]) (st := [.inr 4]) ml_R_89 rfl mw_R_placeOf md_R_placeOf ⟨rfl, rfl⟩ rfl (Nat.le_of_ble_eq_true rfl) ⟨(Nat.le_of_ble_eq_true rfl), (Nat.le_of_ble_eq_true rfl)⟩ rfl d_R_partnerOf_23 h (fun v6 m5 h => ?_)
    obtain ⟨a7, a8, h⟩ := h
    refine er_iald sh_4 (by decide) a7 a8 d_R_partnerOf_26 ?_
    refine er_istE 3 rfl (Nat.le_of_ble_eq_true rfl) (ls2 := [some (.inr 1), some (.inl p1), some (.inl p2), some (.inl (m5 4 v6))]) rfl d_R_partnerOf_27 ?_
    refine er_iload_n rfl rfl d_R_partnerOf_28 ?_
    refine er_iconst d_R_partnerOf_29 ?_
    obtain ⟨a9, h⟩ := h
    refine er_icmp_ne (tgt := 36) (by decide) a9 (by decide) d_R_partnerOf_30 (fun c10 => ?_) (fun c10 => ?_)
    · have h := h.1 c10
      refine er_bipush (by decide) d_R_partnerOf_36 ?_
      refine er_iload_n rfl rfl d_R_partnerOf_38 ?_
      refine er_bipush (by decide) d_R_partnerOf_39 ?_
      obtain ⟨a11, a12, h⟩ := h
      refine er_idiv a11 a12 (by decide) (by decide) d_R_partnerOf_41 ?_
      refine er_imul d_R_partnerOf_42 ?_
      refine er_iload_n rfl rfl d_R_partnerOf_43 ?_
      refine er_bipush (by decide) d_R_partnerOf_44 ?_
      refine er_irem a11 a12 (by decide) (by decide) d_R_partnerOf_46 ?_
      refine er_iadd d_R_partnerOf_47 ?_
      exact er_iretE rfl rfl d_R_partnerOf_48 h
    · have h := h.2 c10
      refine er_bipush (by decide) d_R_partnerOf_33 ?_
      exact er_iretE rfl rfl d_R_partnerOf_35 h
  · have h := h.2 c4
    refine er_iconst d_R_partnerOf_12 ?_
    exact er_iretE rfl rfl d_R_partnerOf_13 h
theorem vc_R_select {K : er_K} {p1 p2 : Int} {m : er_M} {Q : Int → er_M → Prop}  (h : er_SI K mi_B_has [.inr 2, .inl p1, .inl p2] m (fun v2 m1 => (er_in v2) ∧ (((v2 ≠ 0 → er_SI K mi_R_placeOf [.inl p1, .inl p2] m1 (fun v6 m5 => (0 ≤ v6) ∧ (v6 < 36) ∧ ((er_in (m5 3 v6)) ∧ ((((m5 3 v6) ≠ 1 → Q (-2) m5) ∧ ((m5 3 v6) = 1 → (er_in (m5 5 v6)) ∧ ((((m5 5 v6) = 0 → er_SV K mi_R_beginEdit [.inr 1] m5 (fun m13 => ∀ m14 : er_M, m14 = er_st m13 5 v6 1 → er_SI K mi_B_countSelected [.inr 2] m14 (fun v16 m15 => Q v16 m15))) ∧ ((m5 5 v6) ≠ 0 → Q (-2) m5))))))))) ∧ (v2 = 0 → Q (-1) m1))))) : er_SI K mi_R_select [.inr 1, .inl p1, .inl p2] m Q := by
  refine er_start (by decide) (Nat.le_of_ble_eq_true rfl) ?_
  show er_WP K mi_R_select 0 0 er_SH m 0 [some (.inr 1), some (.inl p1), some (.inl p2), none] [] _
  refine er_aload_n rfl rfl d_R_select_0 ?_
  refine er_getR fl_R_12 sh_1 (by decide) rfl (by decide) d_R_select_1 ?_
  refine er_iload_n rfl rfl d_R_select_4 ?_
  refine er_iload_n rfl rfl d_R_select_5 ?_
  refine er_cVI (As := [.inl p1, .inl p2]) (st := []) ml_R_85 mw_B_has md_B_has ⟨rfl, rfl⟩ rfl (Nat.le_of_ble_eq_true rfl) sh_2 rfl ⟨(Nat.le_of_ble_eq_true rfl), (Nat.le_of_ble_eq_true rfl)⟩ rfl d_R_select_6 h (fun v2 m1 h => ?_)
  obtain ⟨a3, h⟩ := h
  refine er_if_ne (tgt := 14) (by decide) a3 d_R_select_9 (fun c4 => ?_) (fun c4 => ?_)
  · have h := h.1 c4
    refine er_iload_n rfl rfl d_R_select_14 ?_
    refine er_iload_n rfl rfl d_R_select_15 ?_
    refine er_cS (As := [.inl p1, .inl p2]) (st := []) ml_R_89 rfl mw_R_placeOf md_R_placeOf ⟨rfl, rfl⟩ rfl (Nat.le_of_ble_eq_true rfl) ⟨(Nat.le_of_ble_eq_true rfl), (Nat.le_of_ble_eq_true rfl)⟩ rfl d_R_select_16 h (fun v6 m5 h => ?_)
    refine er_istE 3 rfl (Nat.le_of_ble_eq_true rfl) (ls2 := [some (.inr 1), some (.inl p1), some (.inl p2), some (.inl v6)]) rfl d_R_select_19 ?_
    refine er_aload_n rfl rfl d_R_select_20 ?_
    refine er_getR fl_R_12 sh_1 (by decide) rfl (by decide) d_R_select_21 ?_
    refine er_getR fl_R_93 sh_2 (by decide) rfl (by decide) d_R_select_24 ?_
    refine er_iload_n rfl rfl d_R_select_27 ?_
    obtain ⟨a7, a8, h⟩ := h
    refine er_iald sh_3 (by decide) a7 a8 d_R_select_28 ?_
    refine er_iconst d_R_select_29 ?_
    obtain ⟨a9, h⟩ := h
    refine er_icmp_ne (tgt := 45) (by decide) a9 (by decide) d_R_select_30 (fun c10 => ?_) (fun c10 => ?_)
    · have h := h.1 c10
      refine er_bipush (by decide) d_R_select_45 ?_
      exact er_iretE rfl rfl d_R_select_47 h
    · have h := h.2 c10
      refine er_aload_n rfl rfl d_R_select_33 ?_
      refine er_getR fl_R_12 sh_1 (by decide) rfl (by decide) d_R_select_34 ?_
      refine er_getR fl_R_100 sh_2 (by decide) rfl (by decide) d_R_select_37 ?_
      refine er_iload_n rfl rfl d_R_select_40 ?_
      refine er_zald sh_5 (by decide) a7 a8 d_R_select_41 ?_
      obtain ⟨a11, h⟩ := h
      refine er_if_eq (tgt := 48) (by decide) a11 d_R_select_42 (fun c12 => ?_) (fun c12 => ?_)
      · have h := h.1 c12
        refine er_aload_n rfl rfl d_R_select_48 ?_
        refine er_cVV (As := []) (st := []) ml_R_75 mw_R_beginEdit md_R_beginEdit ⟨rfl, rfl⟩ rfl (Nat.le_of_ble_eq_true rfl) sh_1 rfl ⟨(Nat.le_of_ble_eq_true rfl), (Nat.le_of_ble_eq_true rfl)⟩ rfl d_R_select_49 h (fun m13 h => ?_)
        refine er_aload_n rfl rfl d_R_select_52 ?_
        refine er_getR fl_R_12 sh_1 (by decide) rfl (by decide) d_R_select_53 ?_
        refine er_getR fl_R_100 sh_2 (by decide) rfl (by decide) d_R_select_56 ?_
        refine er_iload_n rfl rfl d_R_select_59 ?_
        refine er_iconst d_R_select_60 ?_
        refine er_zastE sh_5 (by decide) a7 a8 (Or.inr rfl) d_R_select_61 (fun m14 hm => ?_)
        have h := h m14 hm
        refine er_aload_n rfl rfl d_R_select_62 ?_
        refine er_getR fl_R_12 sh_1 (by decide) rfl (by decide) d_R_select_63 ?_
        refine er_cVI (As := []) (st := []) ml_R_130 mw_B_countSelected md_B_countSelected ⟨rfl, rfl⟩ rfl (Nat.le_of_ble_eq_true rfl) sh_2 rfl ⟨(Nat.le_of_ble_eq_true rfl), (Nat.le_of_ble_eq_true rfl)⟩ rfl d_R_select_66 h (fun v16 m15 h => ?_)
        exact er_iretE rfl rfl d_R_select_69 h
      · have h := h.2 c12
        refine er_bipush (by decide) d_R_select_45 ?_
        exact er_iretE rfl rfl d_R_select_47 h
  · have h := h.2 c4
    refine er_iconst d_R_select_12 ?_
    exact er_iretE rfl rfl d_R_select_13 h
theorem vc_R_deselect {K : er_K} {p1 p2 : Int} {m : er_M} {Q : Int → er_M → Prop}  (h : er_SI K mi_B_has [.inr 2, .inl p1, .inl p2] m (fun v2 m1 => (er_in v2) ∧ (((v2 ≠ 0 → er_SI K mi_R_placeOf [.inl p1, .inl p2] m1 (fun v6 m5 => (0 ≤ v6) ∧ (v6 < 36) ∧ ((er_in (m5 5 v6)) ∧ ((((m5 5 v6) ≠ 0 → er_SV K mi_R_beginEdit [.inr 1] m5 (fun m11 => ∀ m12 : er_M, m12 = er_st m11 5 v6 0 → er_SI K mi_B_countSelected [.inr 2] m12 (fun v14 m13 => Q v14 m13))) ∧ ((m5 5 v6) = 0 → Q (-2) m5)))))) ∧ (v2 = 0 → Q (-1) m1))))) : er_SI K mi_R_deselect [.inr 1, .inl p1, .inl p2] m Q := by
  refine er_start (by decide) (Nat.le_of_ble_eq_true rfl) ?_
  show er_WP K mi_R_deselect 0 0 er_SH m 0 [some (.inr 1), some (.inl p1), some (.inl p2), none] [] _
  refine er_aload_n rfl rfl d_R_deselect_0 ?_
  refine er_getR fl_R_12 sh_1 (by decide) rfl (by decide) d_R_deselect_1 ?_
  refine er_iload_n rfl rfl d_R_deselect_4 ?_
  refine er_iload_n rfl rfl d_R_deselect_5 ?_
  refine er_cVI (As := [.inl p1, .inl p2]) (st := []) ml_R_85 mw_B_has md_B_has ⟨rfl, rfl⟩ rfl (Nat.le_of_ble_eq_true rfl) sh_2 rfl ⟨(Nat.le_of_ble_eq_true rfl), (Nat.le_of_ble_eq_true rfl)⟩ rfl d_R_deselect_6 h (fun v2 m1 h => ?_)
  obtain ⟨a3, h⟩ := h
  refine er_if_ne (tgt := 14) (by decide) a3 d_R_deselect_9 (fun c4 => ?_) (fun c4 => ?_)
  · have h := h.1 c4
    refine er_iload_n rfl rfl d_R_deselect_14 ?_
    refine er_iload_n rfl rfl d_R_deselect_15 ?_
    refine er_cS (As := [.inl p1, .inl p2]) (st := []) ml_R_89 rfl mw_R_placeOf md_R_placeOf ⟨rfl, rfl⟩ rfl (Nat.le_of_ble_eq_true rfl) ⟨(Nat.le_of_ble_eq_true rfl), (Nat.le_of_ble_eq_true rfl)⟩ rfl d_R_deselect_16 h (fun v6 m5 h => ?_)
    refine er_istE 3 rfl (Nat.le_of_ble_eq_true rfl) (ls2 := [some (.inr 1), some (.inl p1), some (.inl p2), some (.inl v6)]) rfl d_R_deselect_19 ?_
    refine er_aload_n rfl rfl d_R_deselect_20 ?_
    refine er_getR fl_R_12 sh_1 (by decide) rfl (by decide) d_R_deselect_21 ?_
    refine er_getR fl_R_100 sh_2 (by decide) rfl (by decide) d_R_deselect_24 ?_
    refine er_iload_n rfl rfl d_R_deselect_27 ?_
    obtain ⟨a7, a8, h⟩ := h
    refine er_zald sh_5 (by decide) a7 a8 d_R_deselect_28 ?_
    obtain ⟨a9, h⟩ := h
    refine er_if_ne (tgt := 35) (by decide) a9 d_R_deselect_29 (fun c10 => ?_) (fun c10 => ?_)
    · have h := h.1 c10
      refine er_aload_n rfl rfl d_R_deselect_35 ?_
      refine er_cVV (As := []) (st := []) ml_R_75 mw_R_beginEdit md_R_beginEdit ⟨rfl, rfl⟩ rfl (Nat.le_of_ble_eq_true rfl) sh_1 rfl ⟨(Nat.le_of_ble_eq_true rfl), (Nat.le_of_ble_eq_true rfl)⟩ rfl d_R_deselect_36 h (fun m11 h => ?_)
      refine er_aload_n rfl rfl d_R_deselect_39 ?_
      refine er_getR fl_R_12 sh_1 (by decide) rfl (by decide) d_R_deselect_40 ?_
      refine er_getR fl_R_100 sh_2 (by decide) rfl (by decide) d_R_deselect_43 ?_
      refine er_iload_n rfl rfl d_R_deselect_46 ?_
      refine er_iconst d_R_deselect_47 ?_
      refine er_zastE sh_5 (by decide) a7 a8 (Or.inl rfl) d_R_deselect_48 (fun m12 hm => ?_)
      have h := h m12 hm
      refine er_aload_n rfl rfl d_R_deselect_49 ?_
      refine er_getR fl_R_12 sh_1 (by decide) rfl (by decide) d_R_deselect_50 ?_
      refine er_cVI (As := []) (st := []) ml_R_130 mw_B_countSelected md_B_countSelected ⟨rfl, rfl⟩ rfl (Nat.le_of_ble_eq_true rfl) sh_2 rfl ⟨(Nat.le_of_ble_eq_true rfl), (Nat.le_of_ble_eq_true rfl)⟩ rfl d_R_deselect_53 h (fun v14 m13 h => ?_)
      exact er_iretE rfl rfl d_R_deselect_56 h
    · have h := h.2 c10
      refine er_bipush (by decide) d_R_deselect_32 ?_
      exact er_iretE rfl rfl d_R_deselect_34 h
  · have h := h.2 c4
    refine er_iconst d_R_deselect_12 ?_
    exact er_iretE rfl rfl d_R_deselect_13 h
def wp_R_clearSelection_21 (K : er_K) (x1 : Int) (x2 : Int) (m : er_M) (Q : Int → er_M → Prop) : Prop := er_WP K mi_R_clearSelection 0 0 er_SH m 21 [some (.inr 1), some (.inl x1), some (.inl x2)] [] (er_Z K mi_R_clearSelection (er_PI Q))
theorem vc_R_clearSelection_21 {K : er_K} {x1 : Int} {x2 : Int} {m : er_M} {Q : Int → er_M → Prop}  (h : (er_in x2) ∧ (((36 ≤ x2 → Q x1 m) ∧ (x2 < 36 → (0 ≤ x2) ∧ (x2 < 36) ∧ (∀ m5 : er_M, m5 = er_st m 5 x2 0 → wp_R_clearSelection_21 K x1 (x2 + 1) m5 Q))))) : wp_R_clearSelection_21 K x1 x2 m Q := by
  show er_WP K mi_R_clearSelection 0 0 er_SH m 21 [some (.inr 1), some (.inl x1), some (.inl x2)] [] _
  refine er_iload_n rfl rfl d_R_clearSelection_21 ?_
  refine er_bipush (by decide) d_R_clearSelection_22 ?_
  obtain ⟨a1, h⟩ := h
  refine er_icmp_ge (tgt := 43) (by decide) a1 (by decide) d_R_clearSelection_24 (fun c2 => ?_) (fun c2 => ?_)
  · have h := h.1 c2
    refine er_iload_n rfl rfl d_R_clearSelection_43 ?_
    exact er_iretE rfl rfl d_R_clearSelection_44 h
  · have h := h.2 c2
    refine er_aload_n rfl rfl d_R_clearSelection_27 ?_
    refine er_getR fl_R_12 sh_1 (by decide) rfl (by decide) d_R_clearSelection_28 ?_
    refine er_getR fl_R_100 sh_2 (by decide) rfl (by decide) d_R_clearSelection_31 ?_
    refine er_iload_n rfl rfl d_R_clearSelection_34 ?_
    refine er_iconst d_R_clearSelection_35 ?_
    obtain ⟨a3, a4, h⟩ := h
    refine er_zastE sh_5 (by decide) a3 a4 (Or.inl rfl) d_R_clearSelection_36 (fun m5 hm => ?_)
    have h := h m5 hm
    refine er_incE (ls2 := [some (.inr 1), some (.inl x1), some (.inl (x2 + 1))]) rfl (Nat.le_of_ble_eq_true rfl) rfl d_R_clearSelection_37 ?_
    refine er_goto (tgt := 21) (by decide) d_R_clearSelection_40 ?_
    exact er_forget [some (.inr 1), some (.inl x1), some (.inl (x2 + 1))] (And.intro rfl (And.intro rfl (And.intro rfl trivial))) h
theorem vc_R_clearSelection {K : er_K} {m : er_M} {Q : Int → er_M → Prop}  (h : er_SI K mi_B_countSelected [.inr 2] m (fun v2 m1 => (er_in v2) ∧ (((v2 ≠ 0 → er_SV K mi_R_beginEdit [.inr 1] m1 (fun m5 => wp_R_clearSelection_21 K v2 0 m5 Q)) ∧ (v2 = 0 → Q (-2) m1))))) : er_SI K mi_R_clearSelection [.inr 1] m Q := by
  refine er_start (by decide) (Nat.le_of_ble_eq_true rfl) ?_
  show er_WP K mi_R_clearSelection 0 0 er_SH m 0 [some (.inr 1), none, none] [] _
  refine er_aload_n rfl rfl d_R_clearSelection_0 ?_
  refine er_getR fl_R_12 sh_1 (by decide) rfl (by decide) d_R_clearSelection_1 ?_
  refine er_cVI (As := []) (st := []) ml_R_130 mw_B_countSelected md_B_countSelected ⟨rfl, rfl⟩ rfl (Nat.le_of_ble_eq_true rfl) sh_2 rfl ⟨(Nat.le_of_ble_eq_true rfl), (Nat.le_of_ble_eq_true rfl)⟩ rfl d_R_clearSelection_4 h (fun v2 m1 h => ?_)
  refine er_istE 1 rfl (Nat.le_of_ble_eq_true rfl) (ls2 := [some (.inr 1), some (.inl v2), none]) rfl d_R_clearSelection_7 ?_
  refine er_iload_n rfl rfl d_R_clearSelection_8 ?_
  obtain ⟨a3, h⟩ := h
  refine er_if_ne (tgt := 15) (by decide) a3 d_R_clearSelection_9 (fun c4 => ?_) (fun c4 => ?_)
  · have h := h.1 c4
    refine er_aload_n rfl rfl d_R_clearSelection_15 ?_
    refine er_cVV (As := []) (st := []) ml_R_75 mw_R_beginEdit md_R_beginEdit ⟨rfl, rfl⟩ rfl (Nat.le_of_ble_eq_true rfl) sh_1 rfl ⟨(Nat.le_of_ble_eq_true rfl), (Nat.le_of_ble_eq_true rfl)⟩ rfl d_R_clearSelection_16 h (fun m5 h => ?_)
    refine er_iconst d_R_clearSelection_19 ?_
    refine er_istE 2 rfl (Nat.le_of_ble_eq_true rfl) (ls2 := [some (.inr 1), some (.inl v2), some (.inl 0)]) rfl d_R_clearSelection_20 ?_
    exact er_forget [some (.inr 1), some (.inl v2), some (.inl 0)] (And.intro rfl (And.intro rfl (And.intro rfl trivial))) h
  · have h := h.2 c4
    refine er_bipush (by decide) d_R_clearSelection_12 ?_
    exact er_iretE rfl rfl d_R_clearSelection_14 h
theorem vc_R_escapeCount {K : er_K} {m : er_M} {Q : Int → er_M → Prop}  (h : er_SV K mi_R_solveSelection [.inr 1] m (fun m1 => Q (m1 1 8) m1)) : er_SI K mi_R_escapeCount [.inr 1] m Q := by
  refine er_start (by decide) (Nat.le_of_ble_eq_true rfl) ?_
  show er_WP K mi_R_escapeCount 0 0 er_SH m 0 [some (.inr 1)] [] _
  refine er_aload_n rfl rfl d_R_escapeCount_0 ?_
  refine er_cVV (As := []) (st := []) ml_R_133 mw_R_solveSelection md_R_solveSelection ⟨rfl, rfl⟩ rfl (Nat.le_of_ble_eq_true rfl) sh_1 rfl ⟨(Nat.le_of_ble_eq_true rfl), (Nat.le_of_ble_eq_true rfl)⟩ rfl d_R_escapeCount_1 h (fun m1 h => ?_)
  refine er_aload_n rfl rfl d_R_escapeCount_4 ?_
  refine er_getIE 8 rfl fl_R_57 sh_1 (by decide) rfl d_R_escapeCount_5 ?_
  exact er_iretE rfl rfl d_R_escapeCount_8 h
theorem vc_R_tileSide {K : er_K} {p1 p2 : Int} {m : er_M} {Q : Int → er_M → Prop}  (h : (er_in p1) ∧ (((p1 < 0 → Q (-1) m) ∧ (0 ≤ p1 → (er_in (m 2 0)) ∧ ((((m 2 0) < p1 → Q (-1) m) ∧ (p1 ≤ (m 2 0) → (er_in p2) ∧ (((p2 < 0 → Q (-1) m) ∧ (0 ≤ p2 → (er_in (m 2 1)) ∧ (((p2 ≤ (m 2 1) → er_SV K mi_R_solveSelection [.inr 1] m (fun m9 => er_SI K mi_R_tileAt [.inl p1, .inl p2] m9 (fun v11 m10 => er_SI K mi_N_sideOf [.inr 43, .inl v11] m10 (fun v13 m12 => Q v13 m12)))) ∧ ((m 2 1) < p2 → Q (-1) m))))))))))))) : er_SI K mi_R_tileSide [.inr 1, .inl p1, .inl p2] m Q := by
  refine er_start (by decide) (Nat.le_of_ble_eq_true rfl) ?_
  show er_WP K mi_R_tileSide 0 0 er_SH m 0 [some (.inr 1), some (.inl p1), some (.inl p2)] [] _
  refine er_iload_n rfl rfl d_R_tileSide_0 ?_
  obtain ⟨a1, h⟩ := h
  refine er_if_lt (tgt := 30) (by decide) a1 d_R_tileSide_1 (fun c2 => ?_) (fun c2 => ?_)
  · have h := h.1 c2
    refine er_iconst d_R_tileSide_30 ?_
    exact er_iretE rfl rfl d_R_tileSide_31 h
  · have h := h.2 c2
    refine er_iload_n rfl rfl d_R_tileSide_4 ?_
    refine er_aload_n rfl rfl d_R_tileSide_5 ?_
    refine er_getR fl_R_12 sh_1 (by decide) rfl (by decide) d_R_tileSide_6 ?_
    refine er_getIE 0 rfl fl_R_109 sh_2 (by decide) rfl d_R_tileSide_9 ?_
    obtain ⟨a3, h⟩ := h
    refine er_icmp_gt (tgt := 30) (by decide) a1 a3 d_R_tileSide_12 (fun c4 => ?_) (fun c4 => ?_)
    · have h := h.1 c4
      refine er_iconst d_R_tileSide_30 ?_
      exact er_iretE rfl rfl d_R_tileSide_31 h
    · have h := h.2 c4
      refine er_iload_n rfl rfl d_R_tileSide_15 ?_
      obtain ⟨a5, h⟩ := h
      refine er_if_lt (tgt := 30) (by decide) a5 d_R_tileSide_16 (fun c6 => ?_) (fun c6 => ?_)
      · have h := h.1 c6
        refine er_iconst d_R_tileSide_30 ?_
        exact er_iretE rfl rfl d_R_tileSide_31 h
      · have h := h.2 c6
        refine er_iload_n rfl rfl d_R_tileSide_19 ?_
        refine er_aload_n rfl rfl d_R_tileSide_20 ?_
        refine er_getR fl_R_12 sh_1 (by decide) rfl (by decide) d_R_tileSide_21 ?_
        refine er_getIE 1 rfl fl_R_112 sh_2 (by decide) rfl d_R_tileSide_24 ?_
        obtain ⟨a7, h⟩ := h
        refine er_icmp_le (tgt := 32) (by decide) a5 a7 d_R_tileSide_27 (fun c8 => ?_) (fun c8 => ?_)
        · have h := h.1 c8
          refine er_aload_n rfl rfl d_R_tileSide_32 ?_
          refine er_cVV (As := []) (st := []) ml_R_133 mw_R_solveSelection md_R_solveSelection ⟨rfl, rfl⟩ rfl (Nat.le_of_ble_eq_true rfl) sh_1 rfl ⟨(Nat.le_of_ble_eq_true rfl), (Nat.le_of_ble_eq_true rfl)⟩ rfl d_R_tileSide_33 h (fun m9 h => ?_)
          refine er_aload_n rfl rfl d_R_tileSide_36 ?_
          refine er_getR fl_R_33 sh_1 (by decide) rfl (by decide) d_R_tileSide_37 ?_
          refine er_iload_n rfl rfl d_R_tileSide_40 ?_
          refine er_iload_n rfl rfl d_R_tileSide_41 ?_
          refine er_cS (As := [.inl p1, .inl p2]) (st := [.inr 43]) ml_R_136 rfl mw_R_tileAt md_R_tileAt ⟨rfl, rfl⟩ rfl (Nat.le_of_ble_eq_true rfl) ⟨(Nat.le_of_ble_eq_true rfl), (Nat.le_of_ble_eq_true rfl)⟩ rfl d_R_tileSide_42 h (fun v11 m10 h => ?_)
          refine er_cVI (As := [.inl v11]) (st := []) ml_R_139 mw_N_sideOf md_N_sideOf ⟨rfl, rfl⟩ rfl (Nat.le_of_ble_eq_true rfl) sh_43 rfl ⟨(Nat.le_of_ble_eq_true rfl), (Nat.le_of_ble_eq_true rfl)⟩ rfl d_R_tileSide_45 h (fun v13 m12 h => ?_)
          exact er_iretE rfl rfl d_R_tileSide_48 h
        · have h := h.2 c8
          refine er_iconst d_R_tileSide_30 ?_
          exact er_iretE rfl rfl d_R_tileSide_31 h
theorem vc_R_cutChannels {K : er_K} {m : er_M} {Q : Int → er_M → Prop}  (h : er_SV K mi_R_solveSelection [.inr 1] m (fun m1 => er_SI K mi_N_countCutChannels [.inr 43] m1 (fun v3 m2 => Q v3 m2))) : er_SI K mi_R_cutChannels [.inr 1] m Q := by
  refine er_start (by decide) (Nat.le_of_ble_eq_true rfl) ?_
  show er_WP K mi_R_cutChannels 0 0 er_SH m 0 [some (.inr 1)] [] _
  refine er_aload_n rfl rfl d_R_cutChannels_0 ?_
  refine er_cVV (As := []) (st := []) ml_R_133 mw_R_solveSelection md_R_solveSelection ⟨rfl, rfl⟩ rfl (Nat.le_of_ble_eq_true rfl) sh_1 rfl ⟨(Nat.le_of_ble_eq_true rfl), (Nat.le_of_ble_eq_true rfl)⟩ rfl d_R_cutChannels_1 h (fun m1 h => ?_)
  refine er_aload_n rfl rfl d_R_cutChannels_4 ?_
  refine er_getR fl_R_33 sh_1 (by decide) rfl (by decide) d_R_cutChannels_5 ?_
  refine er_cVI (As := []) (st := []) ml_R_142 mw_N_countCutChannels md_N_countCutChannels ⟨rfl, rfl⟩ rfl (Nat.le_of_ble_eq_true rfl) sh_43 rfl ⟨(Nat.le_of_ble_eq_true rfl), (Nat.le_of_ble_eq_true rfl)⟩ rfl d_R_cutChannels_8 h (fun v3 m2 h => ?_)
  exact er_iretE rfl rfl d_R_cutChannels_11 h
theorem vc_R_layerCount {K : er_K} {p1 : Int} {m : er_M} {Q : Int → er_M → Prop}  (h : er_SI K mi_R_isStrategy [.inl p1] m (fun v2 m1 => (er_in v2) ∧ (((v2 ≠ 0 → (0 ≤ p1) ∧ (p1 < 4) ∧ (∃ w7 : Nat, m1 61 p1 = (w7 : Int) ∧ er_isY w7 ∧ (er_SR K mi_Y_refresh [.inr w7, .inr 2, .inr 52] m1 (fun w11 m10 => er_isY w11 ∧ ((er_in (m10 w11 7)) ∧ ((((m10 w11 7) = 0 → Q (-9) m10) ∧ ((m10 w11 7) ≠ 0 → Q (m10 w11 6) m10)))))))) ∧ (v2 = 0 → Q (-1) m1))))) : er_SI K mi_R_layerCount [.inr 1, .inl p1] m Q := by
  refine er_start (by decide) (Nat.le_of_ble_eq_true rfl) ?_
  show er_WP K mi_R_layerCount 0 0 er_SH m 0 [some (.inr 1), some (.inl p1), none] [] _
  refine er_iload_n rfl rfl d_R_layerCount_0 ?_
  refine er_cS (As := [.inl p1]) (st := []) ml_R_145 rfl mw_R_isStrategy md_R_isStrategy ⟨rfl, rfl⟩ rfl (Nat.le_of_ble_eq_true rfl) ⟨(Nat.le_of_ble_eq_true rfl), (Nat.le_of_ble_eq_true rfl)⟩ rfl d_R_layerCount_1 h (fun v2 m1 h => ?_)
  obtain ⟨a3, h⟩ := h
  refine er_if_ne (tgt := 9) (by decide) a3 d_R_layerCount_4 (fun c4 => ?_) (fun c4 => ?_)
  · have h := h.1 c4
    refine er_aload_n rfl rfl d_R_layerCount_9 ?_
    refine er_getR fl_R_42 sh_1 (by decide) rfl (by decide) d_R_layerCount_10 ?_
    refine er_iload_n rfl rfl d_R_layerCount_13 ?_
    obtain ⟨a5, a6, h⟩ := h
    obtain ⟨w7, e8, k9, h⟩ := h
    refine er_aald sh_61 (by decide) (by decide) a5 a6 e8 (shY_ne k9) d_R_layerCount_14 ?_
    refine er_aload_n rfl rfl d_R_layerCount_15 ?_
    refine er_getR fl_R_12 sh_1 (by decide) rfl (by decide) d_R_layerCount_16 ?_
    refine er_aload_n rfl rfl d_R_layerCount_19 ?_
    refine er_getR fl_R_37 sh_1 (by decide) rfl (by decide) d_R_layerCount_20 ?_
    refine er_cVR (As := [.inr 2, .inr 52]) (st := []) ml_R_148 mw_Y_refresh md_Y_refresh ⟨rfl, rfl⟩ rfl (Nat.le_of_ble_eq_true rfl) (shY_0 k9) rfl ⟨(Nat.le_of_ble_eq_true rfl), (Nat.le_of_ble_eq_true rfl)⟩ rfl d_R_layerCount_23 h (fun w11 m10 h => ?_)
    obtain ⟨w11k, h⟩ := h
    refine er_astE 2 rfl (Nat.le_of_ble_eq_true rfl) (ls2 := [some (.inr 1), some (.inl p1), some (.inr w11)]) rfl d_R_layerCount_26 ?_
    refine er_aload_n rfl rfl d_R_layerCount_27 ?_
    refine er_getIE 7 rfl fl_R_152 (shY_0 w11k) (by decide) rfl d_R_layerCount_28 ?_
    obtain ⟨a12, h⟩ := h
    refine er_if_eq (tgt := 41) (by decide) a12 d_R_layerCount_31 (fun c13 => ?_) (fun c13 => ?_)
    · have h := h.1 c13
      refine er_bipush (by decide) d_R_layerCount_41 ?_
      exact er_iretE rfl rfl d_R_layerCount_43 h
    · have h := h.2 c13
      refine er_aload_n rfl rfl d_R_layerCount_34 ?_
      refine er_getIE 6 rfl fl_R_155 (shY_0 w11k) (by decide) rfl d_R_layerCount_35 ?_
      refine er_goto (tgt := 43) (by decide) d_R_layerCount_38 ?_
      exact er_iretE rfl rfl d_R_layerCount_43 h
  · have h := h.2 c4
    refine er_iconst d_R_layerCount_7 ?_
    exact er_iretE rfl rfl d_R_layerCount_8 h
theorem vc_R_layerLoad {K : er_K} {p1 p2 : Int} {m : er_M} {Q : Int → er_M → Prop}  (h : er_SI K mi_R_isStrategy [.inl p1] m (fun v2 m1 => (er_in v2) ∧ (((v2 = 0 → Q (-1) m1) ∧ (v2 ≠ 0 → (er_in p2) ∧ (((1 ≤ p2 → (0 ≤ p1) ∧ (p1 < 4) ∧ (∃ w9 : Nat, m1 61 p1 = (w9 : Int) ∧ er_isY w9 ∧ (er_SR K mi_Y_refresh [.inr w9, .inr 2, .inr 52] m1 (fun w13 m12 => er_isY w13 ∧ (er_SI K mi_Y_countOn [.inr w13, .inl p2] m12 (fun v15 m14 => Q v15 m14)))))) ∧ (p2 < 1 → Q (-1) m1)))))))) : er_SI K mi_R_layerLoad [.inr 1, .inl p1, .inl p2] m Q := by
  refine er_start (by decide) (Nat.le_of_ble_eq_true rfl) ?_
  show er_WP K mi_R_layerLoad 0 0 er_SH m 0 [some (.inr 1), some (.inl p1), some (.inl p2)] [] _
  refine er_iload_n rfl rfl d_R_layerLoad_0 ?_
  refine er_cS (As := [.inl p1]) (st := []) ml_R_145 rfl mw_R_isStrategy md_R_isStrategy ⟨rfl, rfl⟩ rfl (Nat.le_of_ble_eq_true rfl) ⟨(Nat.le_of_ble_eq_true rfl), (Nat.le_of_ble_eq_true rfl)⟩ rfl d_R_layerLoad_1 h (fun v2 m1 h => ?_)
  obtain ⟨a3, h⟩ := h
  refine er_if_eq (tgt := 12) (by decide) a3 d_R_layerLoad_4 (fun c4 => ?_) (fun c4 => ?_)
  · have h := h.1 c4
    refine er_iconst d_R_layerLoad_12 ?_
    exact er_iretE rfl rfl d_R_layerLoad_13 h
  · have h := h.2 c4
    refine er_iload_n rfl rfl d_R_layerLoad_7 ?_
    refine er_iconst d_R_layerLoad_8 ?_
    obtain ⟨a5, h⟩ := h
    refine er_icmp_ge (tgt := 14) (by decide) a5 (by decide) d_R_layerLoad_9 (fun c6 => ?_) (fun c6 => ?_)
    · have h := h.1 c6
      refine er_aload_n rfl rfl d_R_layerLoad_14 ?_
      refine er_getR fl_R_42 sh_1 (by decide) rfl (by decide) d_R_layerLoad_15 ?_
      refine er_iload_n rfl rfl d_R_layerLoad_18 ?_
      obtain ⟨a7, a8, h⟩ := h
      obtain ⟨w9, e10, k11, h⟩ := h
      refine er_aald sh_61 (by decide) (by decide) a7 a8 e10 (shY_ne k11) d_R_layerLoad_19 ?_
      refine er_aload_n rfl rfl d_R_layerLoad_20 ?_
      refine er_getR fl_R_12 sh_1 (by decide) rfl (by decide) d_R_layerLoad_21 ?_
      refine er_aload_n rfl rfl d_R_layerLoad_24 ?_
      refine er_getR fl_R_37 sh_1 (by decide) rfl (by decide) d_R_layerLoad_25 ?_
      refine er_cVR (As := [.inr 2, .inr 52]) (st := []) ml_R_148 mw_Y_refresh md_Y_refresh ⟨rfl, rfl⟩ rfl (Nat.le_of_ble_eq_true rfl) (shY_0 k11) rfl ⟨(Nat.le_of_ble_eq_true rfl), (Nat.le_of_ble_eq_true rfl)⟩ rfl d_R_layerLoad_28 h (fun w13 m12 h => ?_)
      obtain ⟨w13k, h⟩ := h
      refine er_iload_n rfl rfl d_R_layerLoad_31 ?_
      refine er_cVI (As := [.inl p2]) (st := []) ml_R_161 mw_Y_countOn md_Y_countOn ⟨rfl, rfl⟩ rfl (Nat.le_of_ble_eq_true rfl) (shY_0 w13k) rfl ⟨(Nat.le_of_ble_eq_true rfl), (Nat.le_of_ble_eq_true rfl)⟩ rfl d_R_layerLoad_32 h (fun v15 m14 h => ?_)
      exact er_iretE rfl rfl d_R_layerLoad_35 h
    · have h := h.2 c6
      refine er_iconst d_R_layerLoad_12 ?_
      exact er_iretE rfl rfl d_R_layerLoad_13 h
def wp_R_throughput_11 (K : er_K) (x1 : Int) (m : er_M) (Q : Int → er_M → Prop) : Prop := er_WP K mi_R_throughput 0 0 er_SH m 11 [some (.inr 1), some (.inl x1)] [] (er_Z K mi_R_throughput (er_PI Q))
def wp_R_throughput_66 (K : er_K) (x1 : Int) (m : er_M) (Q : Int → er_M → Prop) : Prop := er_WP K mi_R_throughput 0 0 er_SH m 66 [some (.inr 1), some (.inl x1)] [] (er_Z K mi_R_throughput (er_PI Q))
theorem vc_R_throughput_11 {K : er_K} {x1 : Int} {m : er_M} {Q : Int → er_M → Prop}  (h : (er_in x1) ∧ (((36 ≤ x1 → er_SV K mi_N_build [.inr 52, .inr 2, .inr 82, .inl 1000000] m (fun m3 => wp_R_throughput_66 K 0 m3 Q)) ∧ (x1 < 36 → (0 ≤ x1) ∧ (x1 < 36) ∧ ((er_in (m 3 x1)) ∧ ((((m 3 x1) = 2 → ∀ m8 : er_M, m8 = er_st m 82 x1 0 → wp_R_throughput_11 K (x1 + 1) m8 Q) ∧ ((m 3 x1) ≠ 2 → ∀ m9 : er_M, m9 = er_st m 82 x1 1 → wp_R_throughput_11 K (x1 + 1) m9 Q)))))))) : wp_R_throughput_11 K x1 m Q := by
  show er_WP K mi_R_throughput 0 0 er_SH m 11 [some (.inr 1), some (.inl x1)] [] _
  refine er_iload_n rfl rfl d_R_throughput_11 ?_
  refine er_bipush (by decide) d_R_throughput_12 ?_
  obtain ⟨a1, h⟩ := h
  refine er_icmp_ge (tgt := 47) (by decide) a1 (by decide) d_R_throughput_14 (fun c2 => ?_) (fun c2 => ?_)
  · have h := h.1 c2
    refine er_aload_n rfl rfl d_R_throughput_47 ?_
    refine er_getR fl_R_37 sh_1 (by decide) rfl (by decide) d_R_throughput_48 ?_
    refine er_aload_n rfl rfl d_R_throughput_51 ?_
    refine er_getR fl_R_12 sh_1 (by decide) rfl (by decide) d_R_throughput_52 ?_
    refine er_aload_n rfl rfl d_R_throughput_55 ?_
    refine er_getR fl_R_49 sh_1 (by decide) rfl (by decide) d_R_throughput_56 ?_
    refine er_ldc kc_R_164 d_R_throughput_59 ?_
    refine er_cVV (As := [.inr 2, .inr 82, .inl 1000000]) (st := []) ml_R_165 mw_N_build md_N_build ⟨rfl, rfl⟩ rfl (Nat.le_of_ble_eq_true rfl) sh_52 rfl ⟨(Nat.le_of_ble_eq_true rfl), (Nat.le_of_ble_eq_true rfl)⟩ rfl d_R_throughput_61 h (fun m3 h => ?_)
    refine er_iconst d_R_throughput_64 ?_
    refine er_istE 1 rfl (Nat.le_of_ble_eq_true rfl) (ls2 := [some (.inr 1), some (.inl 0)]) rfl d_R_throughput_65 ?_
    exact er_forget [some (.inr 1), some (.inl 0)] (And.intro rfl (And.intro rfl trivial)) h
  · have h := h.2 c2
    refine er_aload_n rfl rfl d_R_throughput_17 ?_
    refine er_getR fl_R_49 sh_1 (by decide) rfl (by decide) d_R_throughput_18 ?_
    refine er_iload_n rfl rfl d_R_throughput_21 ?_
    refine er_aload_n rfl rfl d_R_throughput_22 ?_
    refine er_getR fl_R_12 sh_1 (by decide) rfl (by decide) d_R_throughput_23 ?_
    refine er_getR fl_R_93 sh_2 (by decide) rfl (by decide) d_R_throughput_26 ?_
    refine er_iload_n rfl rfl d_R_throughput_29 ?_
    obtain ⟨a4, a5, h⟩ := h
    refine er_iald sh_3 (by decide) a4 a5 d_R_throughput_30 ?_
    refine er_iconst d_R_throughput_31 ?_
    obtain ⟨a6, h⟩ := h
    refine er_icmp_eq (tgt := 39) (by decide) a6 (by decide) d_R_throughput_32 (fun c7 => ?_) (fun c7 => ?_)
    · have h := h.1 c7
      refine er_iconst d_R_throughput_39 ?_
      refine er_zastE sh_82 (by decide) a4 a5 (Or.inl rfl) d_R_throughput_40 (fun m8 hm => ?_)
      have h := h m8 hm
      refine er_incE (ls2 := [some (.inr 1), some (.inl (x1 + 1))]) rfl (Nat.le_of_ble_eq_true rfl) rfl d_R_throughput_41 ?_
      refine er_goto (tgt := 11) (by decide) d_R_throughput_44 ?_
      exact er_forget [some (.inr 1), some (.inl (x1 + 1))] (And.intro rfl (And.intro rfl trivial)) h
    · have h := h.2 c7
      refine er_iconst d_R_throughput_35 ?_
      refine er_goto (tgt := 40) (by decide) d_R_throughput_36 ?_
      refine er_zastE sh_82 (by decide) a4 a5 (Or.inr rfl) d_R_throughput_40 (fun m9 hm => ?_)
      have h := h m9 hm
      refine er_incE (ls2 := [some (.inr 1), some (.inl (x1 + 1))]) rfl (Nat.le_of_ble_eq_true rfl) rfl d_R_throughput_41 ?_
      refine er_goto (tgt := 11) (by decide) d_R_throughput_44 ?_
      exact er_forget [some (.inr 1), some (.inl (x1 + 1))] (And.intro rfl (And.intro rfl trivial)) h
theorem vc_R_throughput_66 {K : er_K} {x1 : Int} {m : er_M} {Q : Int → er_M → Prop}  (h : (er_in x1) ∧ (((36 ≤ x1 → er_SI K mi_N_pushAll [.inr 52] m (fun v4 m3 => ∀ m5 : er_M, m5 = er_st m3 1 9 v4 → Q (m5 1 9) m5)) ∧ (x1 < 36 → (0 ≤ x1) ∧ (x1 < 36) ∧ ((er_in (m 3 x1)) ∧ ((((m 3 x1) ≠ 1 → wp_R_throughput_66 K (x1 + 1) m Q) ∧ ((m 3 x1) = 1 → er_SV K mi_N_supply [.inr 52, .inl x1, .inl 1000000] m (fun m10 => wp_R_throughput_66 K (x1 + 1) m10 Q))))))))) : wp_R_throughput_66 K x1 m Q := by
  show er_WP K mi_R_throughput 0 0 er_SH m 66 [some (.inr 1), some (.inl x1)] [] _
  refine er_iload_n rfl rfl d_R_throughput_66 ?_
  refine er_bipush (by decide) d_R_throughput_67 ?_
  obtain ⟨a1, h⟩ := h
  refine er_icmp_ge (tgt := 101) (by decide) a1 (by decide) d_R_throughput_69 (fun c2 => ?_) (fun c2 => ?_)
  · have h := h.1 c2
    refine er_aload_n rfl rfl d_R_throughput_101 ?_
    refine er_aload_n rfl rfl d_R_throughput_102 ?_
    refine er_getR fl_R_37 sh_1 (by decide) rfl (by decide) d_R_throughput_103 ?_
    refine er_cVI (As := []) (st := [.inr 1]) ml_R_173 mw_N_pushAll md_N_pushAll ⟨rfl, rfl⟩ rfl (Nat.le_of_ble_eq_true rfl) sh_52 rfl ⟨(Nat.le_of_ble_eq_true rfl), (Nat.le_of_ble_eq_true rfl)⟩ rfl d_R_throughput_106 h (fun v4 m3 h => ?_)
    refine er_putIE 9 rfl fl_R_61 sh_1 (by decide) rfl d_R_throughput_109 (fun m5 hm => ?_)
    have h := h m5 hm
    refine er_aload_n rfl rfl d_R_throughput_112 ?_
    refine er_getIE 9 rfl fl_R_61 sh_1 (by decide) rfl d_R_throughput_113 ?_
    exact er_iretE rfl rfl d_R_throughput_116 h
  · have h := h.2 c2
    refine er_aload_n rfl rfl d_R_throughput_72 ?_
    refine er_getR fl_R_12 sh_1 (by decide) rfl (by decide) d_R_throughput_73 ?_
    refine er_getR fl_R_93 sh_2 (by decide) rfl (by decide) d_R_throughput_76 ?_
    refine er_iload_n rfl rfl d_R_throughput_79 ?_
    obtain ⟨a6, a7, h⟩ := h
    refine er_iald sh_3 (by decide) a6 a7 d_R_throughput_80 ?_
    refine er_iconst d_R_throughput_81 ?_
    obtain ⟨a8, h⟩ := h
    refine er_icmp_ne (tgt := 95) (by decide) a8 (by decide) d_R_throughput_82 (fun c9 => ?_) (fun c9 => ?_)
    · have h := h.1 c9
      refine er_incE (ls2 := [some (.inr 1), some (.inl (x1 + 1))]) rfl (Nat.le_of_ble_eq_true rfl) rfl d_R_throughput_95 ?_
      refine er_goto (tgt := 66) (by decide) d_R_throughput_98 ?_
      exact er_forget [some (.inr 1), some (.inl (x1 + 1))] (And.intro rfl (And.intro rfl trivial)) h
    · have h := h.2 c9
      refine er_aload_n rfl rfl d_R_throughput_85 ?_
      refine er_getR fl_R_37 sh_1 (by decide) rfl (by decide) d_R_throughput_86 ?_
      refine er_iload_n rfl rfl d_R_throughput_89 ?_
      refine er_ldc kc_R_164 d_R_throughput_90 ?_
      refine er_cVV (As := [.inl x1, .inl 1000000]) (st := []) ml_R_169 mw_N_supply md_N_supply ⟨rfl, rfl⟩ rfl (Nat.le_of_ble_eq_true rfl) sh_52 rfl ⟨(Nat.le_of_ble_eq_true rfl), (Nat.le_of_ble_eq_true rfl)⟩ rfl d_R_throughput_92 h (fun m10 h => ?_)
      refine er_incE (ls2 := [some (.inr 1), some (.inl (x1 + 1))]) rfl (Nat.le_of_ble_eq_true rfl) rfl d_R_throughput_95 ?_
      refine er_goto (tgt := 66) (by decide) d_R_throughput_98 ?_
      exact er_forget [some (.inr 1), some (.inl (x1 + 1))] (And.intro rfl (And.intro rfl trivial)) h
theorem vc_R_throughput {K : er_K} {m : er_M} {Q : Int → er_M → Prop}  (h : (er_in (m 1 9)) ∧ ((((m 1 9) ≠ (-9) → Q (m 1 9) m) ∧ ((m 1 9) = (-9) → wp_R_throughput_11 K 0 m Q)))) : er_SI K mi_R_throughput [.inr 1] m Q := by
  refine er_start (by decide) (Nat.le_of_ble_eq_true rfl) ?_
  show er_WP K mi_R_throughput 0 0 er_SH m 0 [some (.inr 1), none] [] _
  refine er_aload_n rfl rfl d_R_throughput_0 ?_
  refine er_getIE 9 rfl fl_R_61 sh_1 (by decide) rfl d_R_throughput_1 ?_
  refine er_bipush (by decide) d_R_throughput_4 ?_
  obtain ⟨a1, h⟩ := h
  refine er_icmp_ne (tgt := 112) (by decide) a1 (by decide) d_R_throughput_6 (fun c2 => ?_) (fun c2 => ?_)
  · have h := h.1 c2
    refine er_aload_n rfl rfl d_R_throughput_112 ?_
    refine er_getIE 9 rfl fl_R_61 sh_1 (by decide) rfl d_R_throughput_113 ?_
    exact er_iretE rfl rfl d_R_throughput_116 h
  · have h := h.2 c2
    refine er_iconst d_R_throughput_9 ?_
    refine er_istE 1 rfl (Nat.le_of_ble_eq_true rfl) (ls2 := [some (.inr 1), some (.inl 0)]) rfl d_R_throughput_10 ?_
    exact er_forget [some (.inr 1), some (.inl 0)] (And.intro rfl (And.intro rfl trivial)) h
theorem vc_R_lowerBound {K : er_K} {m : er_M} {Q : Int → er_M → Prop}  (h : er_SI K mi_B_countSignals [.inr 2] m (fun v2 m1 => (er_in v2) ∧ (((v2 ≠ 0 → er_SI K mi_R_throughput [.inr 1] m1 (fun v6 m5 => (er_in v6) ∧ (((0 < v6 → (0 ≤ ((v2 + v6) - 1)) ∧ (((v2 + v6) - 1) < 2147483648) ∧ (0 < v6) ∧ (v6 < 2147483648) ∧ (Q (((v2 + v6) - 1) / v6) m5)) ∧ (v6 ≤ 0 → Q (-9) m5))))) ∧ (v2 = 0 → Q 0 m1))))) : er_SI K mi_R_lowerBound [.inr 1] m Q := by
  refine er_start (by decide) (Nat.le_of_ble_eq_true rfl) ?_
  show er_WP K mi_R_lowerBound 0 0 er_SH m 0 [some (.inr 1), none, none] [] _
  refine er_aload_n rfl rfl d_R_lowerBound_0 ?_
  refine er_getR fl_R_12 sh_1 (by decide) rfl (by decide) d_R_lowerBound_1 ?_
  refine er_cVI (As := []) (st := []) ml_R_82 mw_B_countSignals md_B_countSignals ⟨rfl, rfl⟩ rfl (Nat.le_of_ble_eq_true rfl) sh_2 rfl ⟨(Nat.le_of_ble_eq_true rfl), (Nat.le_of_ble_eq_true rfl)⟩ rfl d_R_lowerBound_4 h (fun v2 m1 h => ?_)
  refine er_istE 1 rfl (Nat.le_of_ble_eq_true rfl) (ls2 := [some (.inr 1), some (.inl v2), none]) rfl d_R_lowerBound_7 ?_
  refine er_iload_n rfl rfl d_R_lowerBound_8 ?_
  obtain ⟨a3, h⟩ := h
  refine er_if_ne (tgt := 14) (by decide) a3 d_R_lowerBound_9 (fun c4 => ?_) (fun c4 => ?_)
  · have h := h.1 c4
    refine er_aload_n rfl rfl d_R_lowerBound_14 ?_
    refine er_cVI (As := []) (st := []) ml_R_176 mw_R_throughput md_R_throughput ⟨rfl, rfl⟩ rfl (Nat.le_of_ble_eq_true rfl) sh_1 rfl ⟨(Nat.le_of_ble_eq_true rfl), (Nat.le_of_ble_eq_true rfl)⟩ rfl d_R_lowerBound_15 h (fun v6 m5 h => ?_)
    refine er_istE 2 rfl (Nat.le_of_ble_eq_true rfl) (ls2 := [some (.inr 1), some (.inl v2), some (.inl v6)]) rfl d_R_lowerBound_18 ?_
    refine er_iload_n rfl rfl d_R_lowerBound_19 ?_
    obtain ⟨a7, h⟩ := h
    refine er_if_gt (tgt := 26) (by decide) a7 d_R_lowerBound_20 (fun c8 => ?_) (fun c8 => ?_)
    · have h := h.1 c8
      refine er_iload_n rfl rfl d_R_lowerBound_26 ?_
      refine er_iload_n rfl rfl d_R_lowerBound_27 ?_
      refine er_iadd d_R_lowerBound_28 ?_
      refine er_iconst d_R_lowerBound_29 ?_
      refine er_isub d_R_lowerBound_30 ?_
      refine er_iload_n rfl rfl d_R_lowerBound_31 ?_
      obtain ⟨a9, a10, a11, a12, h⟩ := h
      refine er_idiv a9 a10 a11 a12 d_R_lowerBound_32 ?_
      exact er_iretE rfl rfl d_R_lowerBound_33 h
    · have h := h.2 c8
      refine er_bipush (by decide) d_R_lowerBound_23 ?_
      exact er_iretE rfl rfl d_R_lowerBound_25 h
  · have h := h.2 c4
    refine er_iconst d_R_lowerBound_12 ?_
    exact er_iretE rfl rfl d_R_lowerBound_13 h
theorem vc_R_undo {K : er_K} {m : er_M} {Q : Int → er_M → Prop}  (h : (er_in (m 6 1)) ∧ ((((m 6 1) ≠ 0 → er_SV K mi_H_giveBack [.inr 6, .inr 2] m (fun m3 => er_SV K mi_R_forgetResults [.inr 1] m3 (fun m4 => Q (m4 6 1) m4))) ∧ ((m 6 1) = 0 → Q (-2) m)))) : er_SI K mi_R_undo [.inr 1] m Q := by
  refine er_start (by decide) (Nat.le_of_ble_eq_true rfl) ?_
  show er_WP K mi_R_undo 0 0 er_SH m 0 [some (.inr 1)] [] _
  refine er_aload_n rfl rfl d_R_undo_0 ?_
  refine er_getR fl_R_19 sh_1 (by decide) rfl (by decide) d_R_undo_1 ?_
  refine er_getIE 1 rfl fl_R_179 sh_6 (by decide) rfl d_R_undo_4 ?_
  obtain ⟨a1, h⟩ := h
  refine er_if_ne (tgt := 13) (by decide) a1 d_R_undo_7 (fun c2 => ?_) (fun c2 => ?_)
  · have h := h.1 c2
    refine er_aload_n rfl rfl d_R_undo_13 ?_
    refine er_getR fl_R_19 sh_1 (by decide) rfl (by decide) d_R_undo_14 ?_
    refine er_aload_n rfl rfl d_R_undo_17 ?_
    refine er_getR fl_R_12 sh_1 (by decide) rfl (by decide) d_R_undo_18 ?_
    refine er_cVV (As := [.inr 2]) (st := []) ml_R_182 mw_H_giveBack md_H_giveBack ⟨rfl, rfl⟩ rfl (Nat.le_of_ble_eq_true rfl) sh_6 rfl ⟨(Nat.le_of_ble_eq_true rfl), (Nat.le_of_ble_eq_true rfl)⟩ rfl d_R_undo_21 h (fun m3 h => ?_)
    refine er_aload_n rfl rfl d_R_undo_24 ?_
    refine er_cVV (As := []) (st := []) ml_R_186 mw_R_forgetResults md_R_forgetResults ⟨rfl, rfl⟩ rfl (Nat.le_of_ble_eq_true rfl) sh_1 rfl ⟨(Nat.le_of_ble_eq_true rfl), (Nat.le_of_ble_eq_true rfl)⟩ rfl d_R_undo_25 h (fun m4 h => ?_)
    refine er_aload_n rfl rfl d_R_undo_28 ?_
    refine er_getR fl_R_19 sh_1 (by decide) rfl (by decide) d_R_undo_29 ?_
    refine er_getIE 1 rfl fl_R_179 sh_6 (by decide) rfl d_R_undo_32 ?_
    exact er_iretE rfl rfl d_R_undo_35 h
  · have h := h.2 c2
    refine er_bipush (by decide) d_R_undo_10 ?_
    exact er_iretE rfl rfl d_R_undo_12 h
theorem vc_R_placeOf {K : er_K} {p0 p1 : Int} {m : er_M} {Q : Int → er_M → Prop}  (h : Q ((p0 * 6) + p1) m) : er_SI K mi_R_placeOf [.inl p0, .inl p1] m Q := by
  refine er_start (by decide) (Nat.le_of_ble_eq_true rfl) ?_
  show er_WP K mi_R_placeOf 0 0 er_SH m 0 [some (.inl p0), some (.inl p1)] [] _
  refine er_iload_n rfl rfl d_R_placeOf_0 ?_
  refine er_bipush (by decide) d_R_placeOf_1 ?_
  refine er_imul d_R_placeOf_3 ?_
  refine er_iload_n rfl rfl d_R_placeOf_4 ?_
  refine er_iadd d_R_placeOf_5 ?_
  exact er_iretE rfl rfl d_R_placeOf_6 h
theorem vc_R_tileAt {K : er_K} {p0 p1 : Int} {m : er_M} {Q : Int → er_M → Prop}  (h : Q ((p0 * 7) + p1) m) : er_SI K mi_R_tileAt [.inl p0, .inl p1] m Q := by
  refine er_start (by decide) (Nat.le_of_ble_eq_true rfl) ?_
  show er_WP K mi_R_tileAt 0 0 er_SH m 0 [some (.inl p0), some (.inl p1)] [] _
  refine er_iload_n rfl rfl d_R_tileAt_0 ?_
  refine er_bipush (by decide) d_R_tileAt_1 ?_
  refine er_imul d_R_tileAt_3 ?_
  refine er_iload_n rfl rfl d_R_tileAt_4 ?_
  refine er_iadd d_R_tileAt_5 ?_
  exact er_iretE rfl rfl d_R_tileAt_6 h
theorem vc_R_isStrategy {K : er_K} {p0 : Int} {m : er_M} {Q : Int → er_M → Prop}  (h : (er_in p0) ∧ (((p0 < 0 → Q 0 m) ∧ (0 ≤ p0 → ((4 ≤ p0 → Q 0 m) ∧ (p0 < 4 → Q 1 m)))))) : er_SI K mi_R_isStrategy [.inl p0] m Q := by
  refine er_start (by decide) (Nat.le_of_ble_eq_true rfl) ?_
  show er_WP K mi_R_isStrategy 0 0 er_SH m 0 [some (.inl p0)] [] _
  refine er_iload_n rfl rfl d_R_isStrategy_0 ?_
  obtain ⟨a1, h⟩ := h
  refine er_if_lt (tgt := 13) (by decide) a1 d_R_isStrategy_1 (fun c2 => ?_) (fun c2 => ?_)
  · have h := h.1 c2
    refine er_iconst d_R_isStrategy_13 ?_
    exact er_zretE rfl (Or.inl rfl) rfl d_R_isStrategy_14 h
  · have h := h.2 c2
    refine er_iload_n rfl rfl d_R_isStrategy_4 ?_
    refine er_iconst d_R_isStrategy_5 ?_
    refine er_icmp_ge (tgt := 13) (by decide) a1 (by decide) d_R_isStrategy_6 (fun c3 => ?_) (fun c3 => ?_)
    · have h := h.1 c3
      refine er_iconst d_R_isStrategy_13 ?_
      exact er_zretE rfl (Or.inl rfl) rfl d_R_isStrategy_14 h
    · have h := h.2 c3
      refine er_iconst d_R_isStrategy_9 ?_
      refine er_goto (tgt := 14) (by decide) d_R_isStrategy_10 ?_
      exact er_zretE rfl (Or.inr rfl) rfl d_R_isStrategy_14 h
theorem vc_R_beginEdit {K : er_K} {m : er_M} {Q : er_M → Prop}  (h : er_SV K mi_H_keep [.inr 6, .inr 2] m (fun m1 => er_SV K mi_R_forgetResults [.inr 1] m1 (fun m2 => Q m2))) : er_SV K mi_R_beginEdit [.inr 1] m Q := by
  refine er_start (by decide) (Nat.le_of_ble_eq_true rfl) ?_
  show er_WP K mi_R_beginEdit 0 0 er_SH m 0 [some (.inr 1)] [] _
  refine er_aload_n rfl rfl d_R_beginEdit_0 ?_
  refine er_getR fl_R_19 sh_1 (by decide) rfl (by decide) d_R_beginEdit_1 ?_
  refine er_aload_n rfl rfl d_R_beginEdit_4 ?_
  refine er_getR fl_R_12 sh_1 (by decide) rfl (by decide) d_R_beginEdit_5 ?_
  refine er_cVV (As := [.inr 2]) (st := []) ml_R_189 mw_H_keep md_H_keep ⟨rfl, rfl⟩ rfl (Nat.le_of_ble_eq_true rfl) sh_6 rfl ⟨(Nat.le_of_ble_eq_true rfl), (Nat.le_of_ble_eq_true rfl)⟩ rfl d_R_beginEdit_8 h (fun m1 h => ?_)
  refine er_aload_n rfl rfl d_R_beginEdit_11 ?_
  refine er_cVV (As := []) (st := []) ml_R_186 mw_R_forgetResults md_R_forgetResults ⟨rfl, rfl⟩ rfl (Nat.le_of_ble_eq_true rfl) sh_1 rfl ⟨(Nat.le_of_ble_eq_true rfl), (Nat.le_of_ble_eq_true rfl)⟩ rfl d_R_beginEdit_12 h (fun m2 h => ?_)
  exact er_vretE rfl rfl d_R_beginEdit_15 h
def wp_R_forgetResults_13 (K : er_K) (x1 : Int) (m : er_M) (Q : er_M → Prop) : Prop := er_WP K mi_R_forgetResults 0 0 er_SH m 13 [some (.inr 1), some (.inl x1)] [] (er_Z K mi_R_forgetResults (er_PV Q))
theorem vc_R_forgetResults_13 {K : er_K} {x1 : Int} {m : er_M} {Q : er_M → Prop}  (h : (er_in x1) ∧ (((4 ≤ x1 → Q m) ∧ (x1 < 4 → (0 ≤ x1) ∧ (x1 < 4) ∧ (∃ w5 : Nat, m 61 x1 = (w5 : Int) ∧ er_isY w5 ∧ (∀ m8 : er_M, m8 = er_st m w5 8 0 → wp_R_forgetResults_13 K (x1 + 1) m8 Q)))))) : wp_R_forgetResults_13 K x1 m Q := by
  show er_WP K mi_R_forgetResults 0 0 er_SH m 13 [some (.inr 1), some (.inl x1)] [] _
  refine er_iload_n rfl rfl d_R_forgetResults_13 ?_
  refine er_iconst d_R_forgetResults_14 ?_
  obtain ⟨a1, h⟩ := h
  refine er_icmp_ge (tgt := 34) (by decide) a1 (by decide) d_R_forgetResults_15 (fun c2 => ?_) (fun c2 => ?_)
  · have h := h.1 c2
    exact er_vretE rfl rfl d_R_forgetResults_34 h
  · have h := h.2 c2
    refine er_aload_n rfl rfl d_R_forgetResults_18 ?_
    refine er_getR fl_R_42 sh_1 (by decide) rfl (by decide) d_R_forgetResults_19 ?_
    refine er_iload_n rfl rfl d_R_forgetResults_22 ?_
    obtain ⟨a3, a4, h⟩ := h
    obtain ⟨w5, e6, k7, h⟩ := h
    refine er_aald sh_61 (by decide) (by decide) a3 a4 e6 (shY_ne k7) d_R_forgetResults_23 ?_
    refine er_iconst d_R_forgetResults_24 ?_
    refine er_putZE 8 rfl fl_R_192 (shY_0 k7) (by decide) rfl (Or.inl rfl) d_R_forgetResults_25 (fun m8 hm => ?_)
    have h := h m8 hm
    refine er_incE (ls2 := [some (.inr 1), some (.inl (x1 + 1))]) rfl (Nat.le_of_ble_eq_true rfl) rfl d_R_forgetResults_28 ?_
    refine er_goto (tgt := 13) (by decide) d_R_forgetResults_31 ?_
    exact er_forget [some (.inr 1), some (.inl (x1 + 1))] (And.intro rfl (And.intro rfl trivial)) h
theorem vc_R_forgetResults {K : er_K} {m : er_M} {Q : er_M → Prop}  (h : ∀ m1 : er_M, m1 = er_st m 1 7 0 → ∀ m2 : er_M, m2 = er_st m1 1 9 (-9) → wp_R_forgetResults_13 K 0 m2 Q) : er_SV K mi_R_forgetResults [.inr 1] m Q := by
  refine er_start (by decide) (Nat.le_of_ble_eq_true rfl) ?_
  show er_WP K mi_R_forgetResults 0 0 er_SH m 0 [some (.inr 1), none] [] _
  refine er_aload_n rfl rfl d_R_forgetResults_0 ?_
  refine er_iconst d_R_forgetResults_1 ?_
  refine er_putZE 7 rfl fl_R_53 sh_1 (by decide) rfl (Or.inl rfl) d_R_forgetResults_2 (fun m1 hm => ?_)
  have h := h m1 hm
  refine er_aload_n rfl rfl d_R_forgetResults_5 ?_
  refine er_bipush (by decide) d_R_forgetResults_6 ?_
  refine er_putIE 9 rfl fl_R_61 sh_1 (by decide) rfl d_R_forgetResults_8 (fun m2 hm => ?_)
  have h := h m2 hm
  refine er_iconst d_R_forgetResults_11 ?_
  refine er_istE 1 rfl (Nat.le_of_ble_eq_true rfl) (ls2 := [some (.inr 1), some (.inl 0)]) rfl d_R_forgetResults_12 ?_
  exact er_forget [some (.inr 1), some (.inl 0)] (And.intro rfl (And.intro rfl trivial)) h
def wp_R_solveSelection_10 (K : er_K) (x1 : Int) (m : er_M) (Q : er_M → Prop) : Prop := er_WP K mi_R_solveSelection 0 0 er_SH m 10 [some (.inr 1), some (.inl x1)] [] (er_Z K mi_R_solveSelection (er_PV Q))
def wp_R_solveSelection_63 (K : er_K) (x1 : Int) (m : er_M) (Q : er_M → Prop) : Prop := er_WP K mi_R_solveSelection 0 0 er_SH m 63 [some (.inr 1), some (.inl x1)] [] (er_Z K mi_R_solveSelection (er_PV Q))
theorem vc_R_solveSelection_10 {K : er_K} {x1 : Int} {m : er_M} {Q : er_M → Prop}  (h : (er_in x1) ∧ (((36 ≤ x1 → er_SV K mi_N_build [.inr 43, .inr 2, .inr 82, .inl 1] m (fun m3 => wp_R_solveSelection_63 K 0 m3 Q)) ∧ (x1 < 36 → (0 ≤ x1) ∧ (x1 < 36) ∧ ((er_in (m 3 x1)) ∧ ((((m 3 x1) ≠ 0 → ∀ m8 : er_M, m8 = er_st m 82 x1 0 → wp_R_solveSelection_10 K (x1 + 1) m8 Q) ∧ ((m 3 x1) = 0 → ∀ m9 : er_M, m9 = er_st m 82 x1 1 → wp_R_solveSelection_10 K (x1 + 1) m9 Q)))))))) : wp_R_solveSelection_10 K x1 m Q := by
  show er_WP K mi_R_solveSelection 0 0 er_SH m 10 [some (.inr 1), some (.inl x1)] [] _
  refine er_iload_n rfl rfl d_R_solveSelection_10 ?_
  refine er_bipush (by decide) d_R_solveSelection_11 ?_
  obtain ⟨a1, h⟩ := h
  refine er_icmp_ge (tgt := 45) (by decide) a1 (by decide) d_R_solveSelection_13 (fun c2 => ?_) (fun c2 => ?_)
  · have h := h.1 c2
    refine er_aload_n rfl rfl d_R_solveSelection_45 ?_
    refine er_getR fl_R_33 sh_1 (by decide) rfl (by decide) d_R_solveSelection_46 ?_
    refine er_aload_n rfl rfl d_R_solveSelection_49 ?_
    refine er_getR fl_R_12 sh_1 (by decide) rfl (by decide) d_R_solveSelection_50 ?_
    refine er_aload_n rfl rfl d_R_solveSelection_53 ?_
    refine er_getR fl_R_49 sh_1 (by decide) rfl (by decide) d_R_solveSelection_54 ?_
    refine er_iconst d_R_solveSelection_57 ?_
    refine er_cVV (As := [.inr 2, .inr 82, .inl 1]) (st := []) ml_R_165 mw_N_build md_N_build ⟨rfl, rfl⟩ rfl (Nat.le_of_ble_eq_true rfl) sh_43 rfl ⟨(Nat.le_of_ble_eq_true rfl), (Nat.le_of_ble_eq_true rfl)⟩ rfl d_R_solveSelection_58 h (fun m3 h => ?_)
    refine er_iconst d_R_solveSelection_61 ?_
    refine er_istE 1 rfl (Nat.le_of_ble_eq_true rfl) (ls2 := [some (.inr 1), some (.inl 0)]) rfl d_R_solveSelection_62 ?_
    exact er_forget [some (.inr 1), some (.inl 0)] (And.intro rfl (And.intro rfl trivial)) h
  · have h := h.2 c2
    refine er_aload_n rfl rfl d_R_solveSelection_16 ?_
    refine er_getR fl_R_49 sh_1 (by decide) rfl (by decide) d_R_solveSelection_17 ?_
    refine er_iload_n rfl rfl d_R_solveSelection_20 ?_
    refine er_aload_n rfl rfl d_R_solveSelection_21 ?_
    refine er_getR fl_R_12 sh_1 (by decide) rfl (by decide) d_R_solveSelection_22 ?_
    refine er_getR fl_R_93 sh_2 (by decide) rfl (by decide) d_R_solveSelection_25 ?_
    refine er_iload_n rfl rfl d_R_solveSelection_28 ?_
    obtain ⟨a4, a5, h⟩ := h
    refine er_iald sh_3 (by decide) a4 a5 d_R_solveSelection_29 ?_
    obtain ⟨a6, h⟩ := h
    refine er_if_ne (tgt := 37) (by decide) a6 d_R_solveSelection_30 (fun c7 => ?_) (fun c7 => ?_)
    · have h := h.1 c7
      refine er_iconst d_R_solveSelection_37 ?_
      refine er_zastE sh_82 (by decide) a4 a5 (Or.inl rfl) d_R_solveSelection_38 (fun m8 hm => ?_)
      have h := h m8 hm
      refine er_incE (ls2 := [some (.inr 1), some (.inl (x1 + 1))]) rfl (Nat.le_of_ble_eq_true rfl) rfl d_R_solveSelection_39 ?_
      refine er_goto (tgt := 10) (by decide) d_R_solveSelection_42 ?_
      exact er_forget [some (.inr 1), some (.inl (x1 + 1))] (And.intro rfl (And.intro rfl trivial)) h
    · have h := h.2 c7
      refine er_iconst d_R_solveSelection_33 ?_
      refine er_goto (tgt := 38) (by decide) d_R_solveSelection_34 ?_
      refine er_zastE sh_82 (by decide) a4 a5 (Or.inr rfl) d_R_solveSelection_38 (fun m9 hm => ?_)
      have h := h m9 hm
      refine er_incE (ls2 := [some (.inr 1), some (.inl (x1 + 1))]) rfl (Nat.le_of_ble_eq_true rfl) rfl d_R_solveSelection_39 ?_
      refine er_goto (tgt := 10) (by decide) d_R_solveSelection_42 ?_
      exact er_forget [some (.inr 1), some (.inl (x1 + 1))] (And.intro rfl (And.intro rfl trivial)) h
theorem vc_R_solveSelection_63 {K : er_K} {x1 : Int} {m : er_M} {Q : er_M → Prop}  (h : (er_in x1) ∧ (((36 ≤ x1 → er_SI K mi_N_pushAll [.inr 43] m (fun v4 m3 => ∀ m5 : er_M, m5 = er_st m3 1 8 v4 → ∀ m6 : er_M, m6 = er_st m5 1 7 1 → Q m6)) ∧ (x1 < 36 → (0 ≤ x1) ∧ (x1 < 36) ∧ ((er_in (m 5 x1)) ∧ ((((m 5 x1) = 0 → wp_R_solveSelection_63 K (x1 + 1) m Q) ∧ ((m 5 x1) ≠ 0 → er_SV K mi_N_supply [.inr 43, .inl x1, .inl 1] m (fun m11 => wp_R_solveSelection_63 K (x1 + 1) m11 Q))))))))) : wp_R_solveSelection_63 K x1 m Q := by
  show er_WP K mi_R_solveSelection 0 0 er_SH m 63 [some (.inr 1), some (.inl x1)] [] _
  refine er_iload_n rfl rfl d_R_solveSelection_63 ?_
  refine er_bipush (by decide) d_R_solveSelection_64 ?_
  obtain ⟨a1, h⟩ := h
  refine er_icmp_ge (tgt := 96) (by decide) a1 (by decide) d_R_solveSelection_66 (fun c2 => ?_) (fun c2 => ?_)
  · have h := h.1 c2
    refine er_aload_n rfl rfl d_R_solveSelection_96 ?_
    refine er_aload_n rfl rfl d_R_solveSelection_97 ?_
    refine er_getR fl_R_33 sh_1 (by decide) rfl (by decide) d_R_solveSelection_98 ?_
    refine er_cVI (As := []) (st := [.inr 1]) ml_R_173 mw_N_pushAll md_N_pushAll ⟨rfl, rfl⟩ rfl (Nat.le_of_ble_eq_true rfl) sh_43 rfl ⟨(Nat.le_of_ble_eq_true rfl), (Nat.le_of_ble_eq_true rfl)⟩ rfl d_R_solveSelection_101 h (fun v4 m3 h => ?_)
    refine er_putIE 8 rfl fl_R_57 sh_1 (by decide) rfl d_R_solveSelection_104 (fun m5 hm => ?_)
    have h := h m5 hm
    refine er_aload_n rfl rfl d_R_solveSelection_107 ?_
    refine er_iconst d_R_solveSelection_108 ?_
    refine er_putZE 7 rfl fl_R_53 sh_1 (by decide) rfl (Or.inr rfl) d_R_solveSelection_109 (fun m6 hm => ?_)
    have h := h m6 hm
    exact er_vretE rfl rfl d_R_solveSelection_112 h
  · have h := h.2 c2
    refine er_aload_n rfl rfl d_R_solveSelection_69 ?_
    refine er_getR fl_R_12 sh_1 (by decide) rfl (by decide) d_R_solveSelection_70 ?_
    refine er_getR fl_R_100 sh_2 (by decide) rfl (by decide) d_R_solveSelection_73 ?_
    refine er_iload_n rfl rfl d_R_solveSelection_76 ?_
    obtain ⟨a7, a8, h⟩ := h
    refine er_zald sh_5 (by decide) a7 a8 d_R_solveSelection_77 ?_
    obtain ⟨a9, h⟩ := h
    refine er_if_eq (tgt := 90) (by decide) a9 d_R_solveSelection_78 (fun c10 => ?_) (fun c10 => ?_)
    · have h := h.1 c10
      refine er_incE (ls2 := [some (.inr 1), some (.inl (x1 + 1))]) rfl (Nat.le_of_ble_eq_true rfl) rfl d_R_solveSelection_90 ?_
      refine er_goto (tgt := 63) (by decide) d_R_solveSelection_93 ?_
      exact er_forget [some (.inr 1), some (.inl (x1 + 1))] (And.intro rfl (And.intro rfl trivial)) h
    · have h := h.2 c10
      refine er_aload_n rfl rfl d_R_solveSelection_81 ?_
      refine er_getR fl_R_33 sh_1 (by decide) rfl (by decide) d_R_solveSelection_82 ?_
      refine er_iload_n rfl rfl d_R_solveSelection_85 ?_
      refine er_iconst d_R_solveSelection_86 ?_
      refine er_cVV (As := [.inl x1, .inl 1]) (st := []) ml_R_169 mw_N_supply md_N_supply ⟨rfl, rfl⟩ rfl (Nat.le_of_ble_eq_true rfl) sh_43 rfl ⟨(Nat.le_of_ble_eq_true rfl), (Nat.le_of_ble_eq_true rfl)⟩ rfl d_R_solveSelection_87 h (fun m11 h => ?_)
      refine er_incE (ls2 := [some (.inr 1), some (.inl (x1 + 1))]) rfl (Nat.le_of_ble_eq_true rfl) rfl d_R_solveSelection_90 ?_
      refine er_goto (tgt := 63) (by decide) d_R_solveSelection_93 ?_
      exact er_forget [some (.inr 1), some (.inl (x1 + 1))] (And.intro rfl (And.intro rfl trivial)) h
theorem vc_R_solveSelection {K : er_K} {m : er_M} {Q : er_M → Prop}  (h : (er_in (m 1 7)) ∧ ((((m 1 7) = 0 → wp_R_solveSelection_10 K 0 m Q) ∧ ((m 1 7) ≠ 0 → Q m)))) : er_SV K mi_R_solveSelection [.inr 1] m Q := by
  refine er_start (by decide) (Nat.le_of_ble_eq_true rfl) ?_
  show er_WP K mi_R_solveSelection 0 0 er_SH m 0 [some (.inr 1), none] [] _
  refine er_aload_n rfl rfl d_R_solveSelection_0 ?_
  refine er_getIE 7 rfl fl_R_53 sh_1 (by decide) rfl d_R_solveSelection_1 ?_
  obtain ⟨a1, h⟩ := h
  refine er_if_eq (tgt := 8) (by decide) a1 d_R_solveSelection_4 (fun c2 => ?_) (fun c2 => ?_)
  · have h := h.1 c2
    refine er_iconst d_R_solveSelection_8 ?_
    refine er_istE 1 rfl (Nat.le_of_ble_eq_true rfl) (ls2 := [some (.inr 1), some (.inl 0)]) rfl d_R_solveSelection_9 ?_
    exact er_forget [some (.inr 1), some (.inl 0)] (And.intro rfl (And.intro rfl trivial)) h
  · have h := h.2 c2
    exact er_vretE rfl rfl d_R_solveSelection_7 h
