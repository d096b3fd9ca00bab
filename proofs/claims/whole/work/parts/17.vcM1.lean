/-! conditions of the walks: printed by wip/whole/gen13.py -/
theorem vc_M_in {K : er_K} {p0 p1 p2 : Int} {m : er_M} {Q : Int → er_M → Prop}  (h : (er_in p0) ∧ (er_in p1) ∧ (((p0 < p1 → Q 0 m) ∧ (p1 ≤ p0 → (er_in p2) ∧ (((p2 < p0 → Q 0 m) ∧ (p0 ≤ p2 → Q 1 m))))))) : er_SI K mi_M_in [.inl p0, .inl p1, .inl p2] m Q := by
  refine er_start (by decide) (Nat.le_of_ble_eq_true rfl) ?_
  show er_WP K mi_M_in 0 0 er_SH m 0 [some (.inl p0), some (.inl p1), some (.inl p2)] [] _
  refine er_iload_n rfl rfl d_M_in_0 ?_
  refine er_iload_n rfl rfl d_M_in_1 ?_
  obtain ⟨a1, a2, h⟩ := h
  refine er_icmp_lt (tgt := 14) (by decide) a1 a2 d_M_in_2 (fun c3 => ?_) (fun c3 => ?_)
  · have h := h.1 c3
    refine er_iconst d_M_in_14 ?_
    exact er_zretE rfl (Or.inl rfl) rfl d_M_in_15 h
  · have h := h.2 c3
    refine er_iload_n rfl rfl d_M_in_5 ?_
    refine er_iload_n rfl rfl d_M_in_6 ?_
    obtain ⟨a4, h⟩ := h
    refine er_icmp_gt (tgt := 14) (by decide) a1 a4 d_M_in_7 (fun c5 => ?_) (fun c5 => ?_)
    · have h := h.1 c5
      refine er_iconst d_M_in_14 ?_
      exact er_zretE rfl (Or.inl rfl) rfl d_M_in_15 h
    · have h := h.2 c5
      refine er_iconst d_M_in_10 ?_
      refine er_goto (tgt := 15) (by decide) d_M_in_11 ?_
      exact er_zretE rfl (Or.inr rfl) rfl d_M_in_15 h
def wp_M_edit_11 (K : er_K) (x1 : Int) (m : er_M) (Q : er_M → Prop) : Prop := er_WP K mi_M_edit 0 0 er_SH m 11 [some (.inr 83), some (.inl x1)] [] (er_Z K mi_M_edit (er_PV Q))
def wp_M_edit_51 (K : er_K) (x1 : Int) (m : er_M) (Q : er_M → Prop) : Prop := er_WP K mi_M_edit 0 0 er_SH m 51 [some (.inr 83), some (.inl x1)] [] (er_Z K mi_M_edit (er_PV Q))
theorem vc_M_edit_11 {K : er_K} {x1 : Int} {m : er_M} {Q : er_M → Prop}  (h : (er_in x1) ∧ (((784 ≤ x1 → ∀ m3 : er_M, m3 = er_st m 83 2 ((m 83 2) - 1) → wp_M_edit_51 K 0 m3 Q) ∧ (x1 < 784 → (0 ≤ (x1 + 112)) ∧ ((x1 + 112) < 896) ∧ ((0 ≤ x1) ∧ (x1 < 896) ∧ (∀ m8 : er_M, m8 = er_st m 85 x1 (m 85 (x1 + 112)) → wp_M_edit_11 K (x1 + 1) m8 Q)))))) : wp_M_edit_11 K x1 m Q := by
  show er_WP K mi_M_edit 0 0 er_SH m 11 [some (.inr 83), some (.inl x1)] [] _
  refine er_iload_n rfl rfl d_M_edit_11 ?_
  refine er_sipush (by decide) d_M_edit_12 ?_
  obtain ⟨a1, h⟩ := h
  refine er_icmp_ge (tgt := 39) (by decide) a1 (by decide) d_M_edit_15 (fun c2 => ?_) (fun c2 => ?_)
  · have h := h.1 c2
    refine er_aload_n rfl rfl d_M_edit_39 ?_
    refine er_dup d_M_edit_40 ?_
    refine er_getIE 2 rfl fl_M_60 sh_83 (by decide) rfl d_M_edit_41 ?_
    refine er_iconst d_M_edit_44 ?_
    refine er_isub d_M_edit_45 ?_
    refine er_putIE 2 rfl fl_M_60 sh_83 (by decide) rfl d_M_edit_46 (fun m3 hm => ?_)
    have h := h m3 hm
    refine er_iconst d_M_edit_49 ?_
    refine er_istE 1 rfl (Nat.le_of_ble_eq_true rfl) (ls2 := [some (.inr 83), some (.inl 0)]) rfl d_M_edit_50 ?_
    exact er_forget [some (.inr 83), some (.inl 0)] (And.intro rfl (And.intro rfl trivial)) h
  · have h := h.2 c2
    refine er_aload_n rfl rfl d_M_edit_18 ?_
    refine er_getR fl_M_13 sh_83 (by decide) rfl (by decide) d_M_edit_19 ?_
    refine er_iload_n rfl rfl d_M_edit_22 ?_
    refine er_aload_n rfl rfl d_M_edit_23 ?_
    refine er_getR fl_M_13 sh_83 (by decide) rfl (by decide) d_M_edit_24 ?_
    refine er_iload_n rfl rfl d_M_edit_27 ?_
    refine er_bipush (by decide) d_M_edit_28 ?_
    refine er_iadd d_M_edit_30 ?_
    obtain ⟨a4, a5, h⟩ := h
    refine er_iald sh_85 (by decide) a4 a5 d_M_edit_31 ?_
    obtain ⟨a6, a7, h⟩ := h
    refine er_iastE sh_85 (by decide) a6 a7 d_M_edit_32 (fun m8 hm => ?_)
    have h := h m8 hm
    refine er_incE (ls2 := [some (.inr 83), some (.inl (x1 + 1))]) rfl (Nat.le_of_ble_eq_true rfl) rfl d_M_edit_33 ?_
    refine er_goto (tgt := 11) (by decide) d_M_edit_36 ?_
    exact er_forget [some (.inr 83), some (.inl (x1 + 1))] (And.intro rfl (And.intro rfl trivial)) h
theorem vc_M_edit_51 {K : er_K} {x1 : Int} {m : er_M} {Q : er_M → Prop}  (h : (er_in x1) ∧ (((112 ≤ x1 → ∀ m3 : er_M, m3 = er_st m 83 2 ((m 83 2) + 1) → Q m3) ∧ (x1 < 112 → (0 ≤ x1) ∧ (x1 < 112) ∧ ((0 ≤ ((112 * (m 83 2)) + x1)) ∧ (((112 * (m 83 2)) + x1) < 896) ∧ (∀ m8 : er_M, m8 = er_st m 85 ((112 * (m 83 2)) + x1) (m 84 x1) → wp_M_edit_51 K (x1 + 1) m8 Q)))))) : wp_M_edit_51 K x1 m Q := by
  show er_WP K mi_M_edit 0 0 er_SH m 51 [some (.inr 83), some (.inl x1)] [] _
  refine er_iload_n rfl rfl d_M_edit_51 ?_
  refine er_bipush (by decide) d_M_edit_52 ?_
  obtain ⟨a1, h⟩ := h
  refine er_icmp_ge (tgt := 83) (by decide) a1 (by decide) d_M_edit_54 (fun c2 => ?_) (fun c2 => ?_)
  · have h := h.1 c2
    refine er_aload_n rfl rfl d_M_edit_83 ?_
    refine er_dup d_M_edit_84 ?_
    refine er_getIE 2 rfl fl_M_60 sh_83 (by decide) rfl d_M_edit_85 ?_
    refine er_iconst d_M_edit_88 ?_
    refine er_iadd d_M_edit_89 ?_
    refine er_putIE 2 rfl fl_M_60 sh_83 (by decide) rfl d_M_edit_90 (fun m3 hm => ?_)
    have h := h m3 hm
    exact er_vretE rfl rfl d_M_edit_93 h
  · have h := h.2 c2
    refine er_aload_n rfl rfl d_M_edit_57 ?_
    refine er_getR fl_M_13 sh_83 (by decide) rfl (by decide) d_M_edit_58 ?_
    refine er_bipush (by decide) d_M_edit_61 ?_
    refine er_aload_n rfl rfl d_M_edit_63 ?_
    refine er_getIE 2 rfl fl_M_60 sh_83 (by decide) rfl d_M_edit_64 ?_
    refine er_imul d_M_edit_67 ?_
    refine er_iload_n rfl rfl d_M_edit_68 ?_
    refine er_iadd d_M_edit_69 ?_
    refine er_aload_n rfl rfl d_M_edit_70 ?_
    refine er_getR fl_M_7 sh_83 (by decide) rfl (by decide) d_M_edit_71 ?_
    refine er_iload_n rfl rfl d_M_edit_74 ?_
    obtain ⟨a4, a5, h⟩ := h
    refine er_iald sh_84 (by decide) a4 a5 d_M_edit_75 ?_
    obtain ⟨a6, a7, h⟩ := h
    refine er_iastE sh_85 (by decide) a6 a7 d_M_edit_76 (fun m8 hm => ?_)
    have h := h m8 hm
    refine er_incE (ls2 := [some (.inr 83), some (.inl (x1 + 1))]) rfl (Nat.le_of_ble_eq_true rfl) rfl d_M_edit_77 ?_
    refine er_goto (tgt := 51) (by decide) d_M_edit_80 ?_
    exact er_forget [some (.inr 83), some (.inl (x1 + 1))] (And.intro rfl (And.intro rfl trivial)) h
theorem vc_M_edit {K : er_K} {m : er_M} {Q : er_M → Prop}  (h : (er_in (m 83 2)) ∧ ((((m 83 2) ≠ 8 → wp_M_edit_51 K 0 m Q) ∧ ((m 83 2) = 8 → wp_M_edit_11 K 0 m Q)))) : er_SV K mi_M_edit [.inr 83] m Q := by
  refine er_start (by decide) (Nat.le_of_ble_eq_true rfl) ?_
  show er_WP K mi_M_edit 0 0 er_SH m 0 [some (.inr 83), none] [] _
  refine er_aload_n rfl rfl d_M_edit_0 ?_
  refine er_getIE 2 rfl fl_M_60 sh_83 (by decide) rfl d_M_edit_1 ?_
  refine er_bipush (by decide) d_M_edit_4 ?_
  obtain ⟨a1, h⟩ := h
  refine er_icmp_ne (tgt := 49) (by decide) a1 (by decide) d_M_edit_6 (fun c2 => ?_) (fun c2 => ?_)
  · have h := h.1 c2
    refine er_iconst d_M_edit_49 ?_
    refine er_istE 1 rfl (Nat.le_of_ble_eq_true rfl) (ls2 := [some (.inr 83), some (.inl 0)]) rfl d_M_edit_50 ?_
    exact er_forget [some (.inr 83), some (.inl 0)] (And.intro rfl (And.intro rfl trivial)) h
  · have h := h.2 c2
    refine er_iconst d_M_edit_9 ?_
    refine er_istE 1 rfl (Nat.le_of_ble_eq_true rfl) (ls2 := [some (.inr 83), some (.inl 0)]) rfl d_M_edit_10 ?_
    exact er_forget [some (.inr 83), some (.inl 0)] (And.intro rfl (And.intro rfl trivial)) h
def wp_M_undo_22 (K : er_K) (x1 : Int) (m : er_M) (Q : Int → er_M → Prop) : Prop := er_WP K mi_M_undo 0 0 er_SH m 22 [some (.inr 83), some (.inl x1)] [] (er_Z K mi_M_undo (er_PI Q))
theorem vc_M_undo_22 {K : er_K} {x1 : Int} {m : er_M} {Q : Int → er_M → Prop}  (h : (er_in x1) ∧ (((112 ≤ x1 → Q (m 83 2) m) ∧ (x1 < 112 → (0 ≤ ((112 * (m 83 2)) + x1)) ∧ (((112 * (m 83 2)) + x1) < 896) ∧ ((0 ≤ x1) ∧ (x1 < 112) ∧ (∀ m7 : er_M, m7 = er_st m 84 x1 (m 85 ((112 * (m 83 2)) + x1)) → wp_M_undo_22 K (x1 + 1) m7 Q)))))) : wp_M_undo_22 K x1 m Q := by
  show er_WP K mi_M_undo 0 0 er_SH m 22 [some (.inr 83), some (.inl x1)] [] _
  refine er_iload_n rfl rfl d_M_undo_22 ?_
  refine er_bipush (by decide) d_M_undo_23 ?_
  obtain ⟨a1, h⟩ := h
  refine er_icmp_ge (tgt := 54) (by decide) a1 (by decide) d_M_undo_25 (fun c2 => ?_) (fun c2 => ?_)
  · have h := h.1 c2
    refine er_aload_n rfl rfl d_M_undo_54 ?_
    refine er_getIE 2 rfl fl_M_60 sh_83 (by decide) rfl d_M_undo_55 ?_
    exact er_iretE rfl rfl d_M_undo_58 h
  · have h := h.2 c2
    refine er_aload_n rfl rfl d_M_undo_28 ?_
    refine er_getR fl_M_7 sh_83 (by decide) rfl (by decide) d_M_undo_29 ?_
    refine er_iload_n rfl rfl d_M_undo_32 ?_
    refine er_aload_n rfl rfl d_M_undo_33 ?_
    refine er_getR fl_M_13 sh_83 (by decide) rfl (by decide) d_M_undo_34 ?_
    refine er_bipush (by decide) d_M_undo_37 ?_
    refine er_aload_n rfl rfl d_M_undo_39 ?_
    refine er_getIE 2 rfl fl_M_60 sh_83 (by decide) rfl d_M_undo_40 ?_
    refine er_imul d_M_undo_43 ?_
    refine er_iload_n rfl rfl d_M_undo_44 ?_
    refine er_iadd d_M_undo_45 ?_
    obtain ⟨a3, a4, h⟩ := h
    refine er_iald sh_85 (by decide) a3 a4 d_M_undo_46 ?_
    obtain ⟨a5, a6, h⟩ := h
    refine er_iastE sh_84 (by decide) a5 a6 d_M_undo_47 (fun m7 hm => ?_)
    have h := h m7 hm
    refine er_incE (ls2 := [some (.inr 83), some (.inl (x1 + 1))]) rfl (Nat.le_of_ble_eq_true rfl) rfl d_M_undo_48 ?_
    refine er_goto (tgt := 22) (by decide) d_M_undo_51 ?_
    exact er_forget [some (.inr 83), some (.inl (x1 + 1))] (And.intro rfl (And.intro rfl trivial)) h
theorem vc_M_undo {K : er_K} {m : er_M} {Q : Int → er_M → Prop}  (h : (er_in (m 83 2)) ∧ ((((m 83 2) ≠ 0 → ∀ m3 : er_M, m3 = er_st m 83 2 ((m 83 2) - 1) → wp_M_undo_22 K 0 m3 Q) ∧ ((m 83 2) = 0 → Q (-2) m)))) : er_SI K mi_M_undo [.inr 83] m Q := by
  refine er_start (by decide) (Nat.le_of_ble_eq_true rfl) ?_
  show er_WP K mi_M_undo 0 0 er_SH m 0 [some (.inr 83), none] [] _
  refine er_aload_n rfl rfl d_M_undo_0 ?_
  refine er_getIE 2 rfl fl_M_60 sh_83 (by decide) rfl d_M_undo_1 ?_
  obtain ⟨a1, h⟩ := h
  refine er_if_ne (tgt := 10) (by decide) a1 d_M_undo_4 (fun c2 => ?_) (fun c2 => ?_)
  · have h := h.1 c2
    refine er_aload_n rfl rfl d_M_undo_10 ?_
    refine er_dup d_M_undo_11 ?_
    refine er_getIE 2 rfl fl_M_60 sh_83 (by decide) rfl d_M_undo_12 ?_
    refine er_iconst d_M_undo_15 ?_
    refine er_isub d_M_undo_16 ?_
    refine er_putIE 2 rfl fl_M_60 sh_83 (by decide) rfl d_M_undo_17 (fun m3 hm => ?_)
    have h := h m3 hm
    refine er_iconst d_M_undo_20 ?_
    refine er_istE 1 rfl (Nat.le_of_ble_eq_true rfl) (ls2 := [some (.inr 83), some (.inl 0)]) rfl d_M_undo_21 ?_
    exact er_forget [some (.inr 83), some (.inl 0)] (And.intro rfl (And.intro rfl trivial)) h
  · have h := h.2 c2
    refine er_bipush (by decide) d_M_undo_7 ?_
    exact er_iretE rfl rfl d_M_undo_9 h
theorem vc_M_appendCharacter {K : er_K} {p1 : Int} {m : er_M} {Q : Int → er_M → Prop}  (h : er_SI K mi_M_in [.inl p1, .inl 0, .inl 255] m (fun v2 m1 => (er_in v2) ∧ (((v2 ≠ 0 → (er_in (m1 83 4)) ∧ ((((m1 83 4) ≠ 60 → (0 ≤ p1) ∧ (p1 < 256) ∧ ((0 ≤ (m1 83 4)) ∧ ((m1 83 4) < 60) ∧ (∀ m11 : er_M, m11 = er_st m1 86 (m1 83 4) ((p1 + 128) % 256 - 128) → ∀ m12 : er_M, m12 = er_st m11 83 4 ((m11 83 4) + 1) → Q (m12 83 4) m12))) ∧ ((m1 83 4) = 60 → Q (-3) m1)))) ∧ (v2 = 0 → Q (-1) m1))))) : er_SI K mi_M_appendCharacter [.inr 83, .inl p1] m Q := by
  refine er_start (by decide) (Nat.le_of_ble_eq_true rfl) ?_
  show er_WP K mi_M_appendCharacter 0 0 er_SH m 0 [some (.inr 83), some (.inl p1)] [] _
  refine er_iload_n rfl rfl d_M_appendCharacter_0 ?_
  refine er_iconst d_M_appendCharacter_1 ?_
  refine er_sipush (by decide) d_M_appendCharacter_2 ?_
  refine er_cS (As := [.inl p1, .inl 0, .inl 255]) (st := []) ml_M_64 rfl mw_M_in md_M_in ⟨rfl, rfl⟩ rfl (Nat.le_of_ble_eq_true rfl) ⟨(Nat.le_of_ble_eq_true rfl), (Nat.le_of_ble_eq_true rfl)⟩ rfl d_M_appendCharacter_5 h (fun v2 m1 h => ?_)
  obtain ⟨a3, h⟩ := h
  refine er_if_ne (tgt := 13) (by decide) a3 d_M_appendCharacter_8 (fun c4 => ?_) (fun c4 => ?_)
  · have h := h.1 c4
    refine er_aload_n rfl rfl d_M_appendCharacter_13 ?_
    refine er_getIE 4 rfl fl_M_68 sh_83 (by decide) rfl d_M_appendCharacter_14 ?_
    refine er_bipush (by decide) d_M_appendCharacter_17 ?_
    obtain ⟨a5, h⟩ := h
    refine er_icmp_ne (tgt := 25) (by decide) a5 (by decide) d_M_appendCharacter_19 (fun c6 => ?_) (fun c6 => ?_)
    · have h := h.1 c6
      refine er_aload_n rfl rfl d_M_appendCharacter_25 ?_
      refine er_getR fl_M_16 sh_83 (by decide) rfl (by decide) d_M_appendCharacter_26 ?_
      refine er_aload_n rfl rfl d_M_appendCharacter_29 ?_
      refine er_getIE 4 rfl fl_M_68 sh_83 (by decide) rfl d_M_appendCharacter_30 ?_
      refine er_iload_n rfl rfl d_M_appendCharacter_33 ?_
      obtain ⟨a7, a8, h⟩ := h
      refine er_i2b a7 a8 d_M_appendCharacter_34 ?_
      obtain ⟨a9, a10, h⟩ := h
      refine er_bastE sh_86 (by decide) a9 a10 (by omega) (by omega) d_M_appendCharacter_35 (fun m11 hm => ?_)
      have h := h m11 hm
      refine er_aload_n rfl rfl d_M_appendCharacter_36 ?_
      refine er_dup d_M_appendCharacter_37 ?_
      refine er_getIE 4 rfl fl_M_68 sh_83 (by decide) rfl d_M_appendCharacter_38 ?_
      refine er_iconst d_M_appendCharacter_41 ?_
      refine er_iadd d_M_appendCharacter_42 ?_
      refine er_putIE 4 rfl fl_M_68 sh_83 (by decide) rfl d_M_appendCharacter_43 (fun m12 hm => ?_)
      have h := h m12 hm
      refine er_aload_n rfl rfl d_M_appendCharacter_46 ?_
      refine er_getIE 4 rfl fl_M_68 sh_83 (by decide) rfl d_M_appendCharacter_47 ?_
      exact er_iretE rfl rfl d_M_appendCharacter_50 h
    · have h := h.2 c6
      refine er_bipush (by decide) d_M_appendCharacter_22 ?_
      exact er_iretE rfl rfl d_M_appendCharacter_24 h
  · have h := h.2 c4
    refine er_iconst d_M_appendCharacter_11 ?_
    exact er_iretE rfl rfl d_M_appendCharacter_12 h
theorem vc_M_clearText {K : er_K} {m : er_M} {Q : Int → er_M → Prop}  (h : ∀ m1 : er_M, m1 = er_st m 83 4 0 → Q (m 83 4) m1) : er_SI K mi_M_clearText [.inr 83] m Q := by
  refine er_start (by decide) (Nat.le_of_ble_eq_true rfl) ?_
  show er_WP K mi_M_clearText 0 0 er_SH m 0 [some (.inr 83), none] [] _
  refine er_aload_n rfl rfl d_M_clearText_0 ?_
  refine er_getIE 4 rfl fl_M_68 sh_83 (by decide) rfl d_M_clearText_1 ?_
  refine er_istE 1 rfl (Nat.le_of_ble_eq_true rfl) (ls2 := [some (.inr 83), some (.inl (m 83 4))]) rfl d_M_clearText_4 ?_
  refine er_aload_n rfl rfl d_M_clearText_5 ?_
  refine er_iconst d_M_clearText_6 ?_
  refine er_putIE 4 rfl fl_M_68 sh_83 (by decide) rfl d_M_clearText_7 (fun m1 hm => ?_)
  have h := h m1 hm
  refine er_iload_n rfl rfl d_M_clearText_10 ?_
  exact er_iretE rfl rfl d_M_clearText_11 h
def wp_M_readGrid_2 (K : er_K) (x1 : Int) (m : er_M) (Q : Int → er_M → Prop) : Prop := er_WP K mi_M_readGrid 0 0 er_SH m 2 [some (.inr 83), some (.inl x1), none, none, none, none] [] (er_Z K mi_M_readGrid (er_PI Q))
def wp_M_readGrid_35 (K : er_K) (x1 : Int) (x2 : Int) (m : er_M) (Q : Int → er_M → Prop) : Prop := er_WP K mi_M_readGrid 0 0 er_SH m 35 [some (.inr 83), some (.inl x1), some (.inl x2), none, none, none] [] (er_Z K mi_M_readGrid (er_PI Q))
def wp_M_readGrid_86 (K : er_K) (x1 : Int) (x2 : Int) (x3 : Int) (x4 : Int) (m : er_M) (Q : Int → er_M → Prop) : Prop := er_WP K mi_M_readGrid 0 0 er_SH m 86 [some (.inr 83), some (.inl x1), some (.inl x2), some (.inl x3), some (.inl x4), none] [] (er_Z K mi_M_readGrid (er_PI Q))
def wp_M_readGrid_118 (K : er_K) (x1 : Int) (x2 : Int) (x3 : Int) (x4 : Int) (x5 : Int) (m : er_M) (Q : Int → er_M → Prop) : Prop := er_WP K mi_M_readGrid 0 0 er_SH m 118 [some (.inr 83), some (.inl x1), some (.inl x2), some (.inl x3), some (.inl x4), some (.inl x5)] [] (er_Z K mi_M_readGrid (er_PI Q))
def wp_M_readGrid_138 (K : er_K) (x1 : Int) (x2 : Int) (x3 : Int) (x5 : Int) (m : er_M) (Q : Int → er_M → Prop) : Prop := er_WP K mi_M_readGrid 0 0 er_SH m 138 [some (.inr 83), some (.inl x1), some (.inl x2), some (.inl x3), none, some (.inl x5)] [] (er_Z K mi_M_readGrid (er_PI Q))
def wp_M_readGrid_155 (K : er_K) (x2 : Int) (m : er_M) (Q : Int → er_M → Prop) : Prop := er_WP K mi_M_readGrid 0 0 er_SH m 155 [none, none, some (.inl x2), none, none, none] [] (er_Z K mi_M_readGrid (er_PI Q))
def wp_M_readGrid_157 (K : er_K) (x1 : Int) (x2 : Int) (x3 : Int) (x5 : Int) (m : er_M) (Q : Int → er_M → Prop) : Prop := er_WP K mi_M_readGrid 0 0 er_SH m 157 [some (.inr 83), some (.inl x1), some (.inl x2), some (.inl x3), none, some (.inl x5)] [] (er_Z K mi_M_readGrid (er_PI Q))
theorem vc_M_readGrid_2 {K : er_K} {x1 : Int} {m : er_M} {Q : Int → er_M → Prop}  (h : (er_in x1) ∧ (((36 ≤ x1 → ∀ m3 : er_M, m3 = er_st m 83 6 0 → ∀ m4 : er_M, m4 = er_st m3 83 7 0 → wp_M_readGrid_35 K 0 0 m4 Q) ∧ (x1 < 36 → (0 ≤ x1) ∧ (x1 < 36) ∧ (∀ m7 : er_M, m7 = er_st m 87 x1 0 → wp_M_readGrid_2 K (x1 + 1) m7 Q))))) : wp_M_readGrid_2 K x1 m Q := by
  show er_WP K mi_M_readGrid 0 0 er_SH m 2 [some (.inr 83), some (.inl x1), none, none, none, none] [] _
  refine er_iload_n rfl rfl d_M_readGrid_2 ?_
  refine er_bipush (by decide) d_M_readGrid_3 ?_
  obtain ⟨a1, h⟩ := h
  refine er_icmp_ge (tgt := 21) (by decide) a1 (by decide) d_M_readGrid_5 (fun c2 => ?_) (fun c2 => ?_)
  · have h := h.1 c2
    refine er_aload_n rfl rfl d_M_readGrid_21 ?_
    refine er_iconst d_M_readGrid_22 ?_
    refine er_putIE 6 rfl fl_M_71 sh_83 (by decide) rfl d_M_readGrid_23 (fun m3 hm => ?_)
    have h := h m3 hm
    refine er_aload_n rfl rfl d_M_readGrid_26 ?_
    refine er_iconst d_M_readGrid_27 ?_
    refine er_putIE 7 rfl fl_M_74 sh_83 (by decide) rfl d_M_readGrid_28 (fun m4 hm => ?_)
    have h := h m4 hm
    refine er_iconst d_M_readGrid_31 ?_
    refine er_istE 1 rfl (Nat.le_of_ble_eq_true rfl) (ls2 := [some (.inr 83), some (.inl 0), none, none, none, none]) rfl d_M_readGrid_32 ?_
    refine er_iconst d_M_readGrid_33 ?_
    refine er_istE 2 rfl (Nat.le_of_ble_eq_true rfl) (ls2 := [some (.inr 83), some (.inl 0), some (.inl 0), none, none, none]) rfl d_M_readGrid_34 ?_
    exact er_forget [some (.inr 83), some (.inl 0), some (.inl 0), none, none, none] (And.intro rfl (And.intro rfl (And.intro rfl trivial))) h
  · have h := h.2 c2
    refine er_aload_n rfl rfl d_M_readGrid_8 ?_
    refine er_getR fl_M_20 sh_83 (by decide) rfl (by decide) d_M_readGrid_9 ?_
    refine er_iload_n rfl rfl d_M_readGrid_12 ?_
    refine er_iconst d_M_readGrid_13 ?_
    obtain ⟨a5, a6, h⟩ := h
    refine er_iastE sh_87 (by decide) a5 a6 d_M_readGrid_14 (fun m7 hm => ?_)
    have h := h m7 hm
    refine er_incE (ls2 := [some (.inr 83), some (.inl (x1 + 1)), none, none, none, none]) rfl (Nat.le_of_ble_eq_true rfl) rfl d_M_readGrid_15 ?_
    refine er_goto (tgt := 2) (by decide) d_M_readGrid_18 ?_
    exact er_forget [some (.inr 83), some (.inl (x1 + 1)), none, none, none, none] (And.intro rfl (And.intro rfl trivial)) h
theorem vc_M_readGrid_35 {K : er_K} {x1 : Int} {x2 : Int} {m : er_M} {Q : Int → er_M → Prop}  (h : (er_in x2) ∧ (er_in (m 83 4)) ∧ ((((m 83 4) ≤ x2 → (er_in x1) ∧ (((0 < x1 → Q (m 83 4) m) ∧ (x1 ≤ 0 → (er_in (m 83 6)) ∧ ((((m 83 6) ≠ 0 → Q (-9) m) ∧ ((m 83 6) = 0 → Q (m 83 4) m))))))) ∧ (x2 < (m 83 4) → (0 ≤ x2) ∧ (x2 < 60) ∧ ((er_in (m 83 6)) ∧ ((((m 83 6) ≠ 0 → (er_in (m 86 x2)) ∧ ((((m 86 x2) = 115 → wp_M_readGrid_86 K x1 x2 (m 86 x2) (m 83 7) m Q) ∧ ((m 86 x2) ≠ 115 → (((m 86 x2) = 112 → wp_M_readGrid_86 K x1 x2 (m 86 x2) (m 83 7) m Q) ∧ ((m 86 x2) ≠ 112 → (((m 86 x2) ≠ 46 → (((m 86 x2) ≠ 59 → wp_M_readGrid_118 K x1 x2 (m 86 x2) (m 83 7) 0 m Q) ∧ ((m 86 x2) = 59 → (er_in x1) ∧ (((x1 = 0 → wp_M_readGrid_155 K x2 m Q) ∧ (x1 ≠ 0 → (((m 83 6) ≤ 0 → wp_M_readGrid_118 K x1 x2 (m 86 x2) (m 83 7) 0 m Q) ∧ (0 < (m 83 6) → (er_in (m 83 7)) ∧ (((x1 < (m 83 7) → wp_M_readGrid_155 K x2 m Q) ∧ ((m 83 7) ≤ x1 → wp_M_readGrid_118 K x1 x2 (m 86 x2) (m 83 7) 0 m Q))))))))))) ∧ ((m 86 x2) = 46 → wp_M_readGrid_86 K x1 x2 (m 86 x2) (m 83 7) m Q)))))))) ∧ ((m 83 6) = 0 → (er_in (m 86 x2)) ∧ ((((m 86 x2) = 115 → wp_M_readGrid_86 K x1 x2 (m 86 x2) 6 m Q) ∧ ((m 86 x2) ≠ 115 → (((m 86 x2) = 112 → wp_M_readGrid_86 K x1 x2 (m 86 x2) 6 m Q) ∧ ((m 86 x2) ≠ 112 → (((m 86 x2) ≠ 46 → (((m 86 x2) ≠ 59 → wp_M_readGrid_118 K x1 x2 (m 86 x2) 6 0 m Q) ∧ ((m 86 x2) = 59 → (er_in x1) ∧ (((x1 = 0 → wp_M_readGrid_155 K x2 m Q) ∧ (x1 ≠ 0 → (((m 83 6) ≤ 0 → wp_M_readGrid_118 K x1 x2 (m 86 x2) 6 0 m Q) ∧ (0 < (m 83 6) → (er_in (m 83 7)) ∧ (((x1 < (m 83 7) → wp_M_readGrid_155 K x2 m Q) ∧ ((m 83 7) ≤ x1 → wp_M_readGrid_118 K x1 x2 (m 86 x2) 6 0 m Q))))))))))) ∧ ((m 86 x2) = 46 → wp_M_readGrid_86 K x1 x2 (m 86 x2) 6 m Q))))))))))))))) : wp_M_readGrid_35 K x1 x2 m Q := by
  show er_WP K mi_M_readGrid 0 0 er_SH m 35 [some (.inr 83), some (.inl x1), some (.inl x2), none, none, none] [] _
  refine er_iload_n rfl rfl d_M_readGrid_35 ?_
  refine er_aload_n rfl rfl d_M_readGrid_36 ?_
  refine er_getIE 4 rfl fl_M_68 sh_83 (by decide) rfl d_M_readGrid_37 ?_
  obtain ⟨a1, a2, h⟩ := h
  refine er_icmp_ge (tgt := 232) (by decide) a1 a2 d_M_readGrid_40 (fun c3 => ?_) (fun c3 => ?_)
  · have h := h.1 c3
    refine er_iload_n rfl rfl d_M_readGrid_232 ?_
    obtain ⟨a4, h⟩ := h
    refine er_if_gt (tgt := 243) (by decide) a4 d_M_readGrid_233 (fun c5 => ?_) (fun c5 => ?_)
    · have h := h.1 c5
      refine er_aload_n rfl rfl d_M_readGrid_243 ?_
      refine er_getIE 4 rfl fl_M_68 sh_83 (by decide) rfl d_M_readGrid_244 ?_
      refine er_goto (tgt := 252) (by decide) d_M_readGrid_247 ?_
      exact er_iretE rfl rfl d_M_readGrid_252 h
    · have h := h.2 c5
      refine er_aload_n rfl rfl d_M_readGrid_236 ?_
      refine er_getIE 6 rfl fl_M_71 sh_83 (by decide) rfl d_M_readGrid_237 ?_
      obtain ⟨a6, h⟩ := h
      refine er_if_ne (tgt := 250) (by decide) a6 d_M_readGrid_240 (fun c7 => ?_) (fun c7 => ?_)
      · have h := h.1 c7
        refine er_bipush (by decide) d_M_readGrid_250 ?_
        exact er_iretE rfl rfl d_M_readGrid_252 h
      · have h := h.2 c7
        refine er_aload_n rfl rfl d_M_readGrid_243 ?_
        refine er_getIE 4 rfl fl_M_68 sh_83 (by decide) rfl d_M_readGrid_244 ?_
        refine er_goto (tgt := 252) (by decide) d_M_readGrid_247 ?_
        exact er_iretE rfl rfl d_M_readGrid_252 h
  · have h := h.2 c3
    refine er_aload_n rfl rfl d_M_readGrid_43 ?_
    refine er_getR fl_M_16 sh_83 (by decide) rfl (by decide) d_M_readGrid_44 ?_
    refine er_iload_n rfl rfl d_M_readGrid_47 ?_
    obtain ⟨a8, a9, h⟩ := h
    refine er_bald sh_86 (by decide) a8 a9 d_M_readGrid_48 ?_
    refine er_istE 3 rfl (Nat.le_of_ble_eq_true rfl) (ls2 := [some (.inr 83), some (.inl x1), some (.inl x2), some (.inl (m 86 x2)), none, none]) rfl d_M_readGrid_49 ?_
    refine er_aload_n rfl rfl d_M_readGrid_50 ?_
    refine er_getIE 6 rfl fl_M_71 sh_83 (by decide) rfl d_M_readGrid_51 ?_
    obtain ⟨a10, h⟩ := h
    refine er_if_ne (tgt := 62) (by decide) a10 d_M_readGrid_54 (fun c11 => ?_) (fun c11 => ?_)
    · have h := h.1 c11
      refine er_aload_n rfl rfl d_M_readGrid_62 ?_
      refine er_getIE 7 rfl fl_M_74 sh_83 (by decide) rfl d_M_readGrid_63 ?_
      refine er_istF (Nat.le_of_ble_eq_true rfl) (ls2 := [some (.inr 83), some (.inl x1), some (.inl x2), some (.inl (m 86 x2)), some (.inl (m 83 7)), none]) rfl d_M_readGrid_66 ?_
      refine er_iload_n rfl rfl d_M_readGrid_68 ?_
      refine er_bipush (by decide) d_M_readGrid_69 ?_
      obtain ⟨a12, h⟩ := h
      refine er_icmp_eq (tgt := 86) (by decide) a12 (by decide) d_M_readGrid_71 (fun c13 => ?_) (fun c13 => ?_)
      · have h := h.1 c13
        exact er_forget [some (.inr 83), some (.inl x1), some (.inl x2), some (.inl (m 86 x2)), some (.inl (m 83 7)), none] (And.intro rfl (And.intro rfl (And.intro rfl (And.intro rfl (And.intro rfl trivial))))) h
      · have h := h.2 c13
        refine er_iload_n rfl rfl d_M_readGrid_74 ?_
        refine er_bipush (by decide) d_M_readGrid_75 ?_
        refine er_icmp_eq (tgt := 86) (by decide) a12 (by decide) d_M_readGrid_77 (fun c14 => ?_) (fun c14 => ?_)
        · have h := h.1 c14
          exact er_forget [some (.inr 83), some (.inl x1), some (.inl x2), some (.inl (m 86 x2)), some (.inl (m 83 7)), none] (And.intro rfl (And.intro rfl (And.intro rfl (And.intro rfl (And.intro rfl trivial))))) h
        · have h := h.2 c14
          refine er_iload_n rfl rfl d_M_readGrid_80 ?_
          refine er_bipush (by decide) d_M_readGrid_81 ?_
          refine er_icmp_ne (tgt := 90) (by decide) a12 (by decide) d_M_readGrid_83 (fun c15 => ?_) (fun c15 => ?_)
          · have h := h.1 c15
            refine er_iconst d_M_readGrid_90 ?_
            refine er_istF (Nat.le_of_ble_eq_true rfl) (ls2 := [some (.inr 83), some (.inl x1), some (.inl x2), some (.inl (m 86 x2)), some (.inl (m 83 7)), some (.inl 0)]) rfl d_M_readGrid_91 ?_
            refine er_iload_n rfl rfl d_M_readGrid_93 ?_
            refine er_bipush (by decide) d_M_readGrid_94 ?_
            refine er_icmp_ne (tgt := 118) (by decide) a12 (by decide) d_M_readGrid_96 (fun c16 => ?_) (fun c16 => ?_)
            · have h := h.1 c16
              exact er_forget [some (.inr 83), some (.inl x1), some (.inl x2), some (.inl (m 86 x2)), some (.inl (m 83 7)), some (.inl 0)] (And.intro rfl (And.intro rfl (And.intro rfl (And.intro rfl (And.intro rfl (And.intro rfl trivial)))))) h
            · have h := h.2 c16
              refine er_iload_n rfl rfl d_M_readGrid_99 ?_
              obtain ⟨a17, h⟩ := h
              refine er_if_eq (tgt := 155) (by decide) a17 d_M_readGrid_100 (fun c18 => ?_) (fun c18 => ?_)
              · have h := h.1 c18
                exact er_forget [none, none, some (.inl x2), none, none, none] (And.intro rfl trivial) h
              · have h := h.2 c18
                refine er_aload_n rfl rfl d_M_readGrid_103 ?_
                refine er_getIE 6 rfl fl_M_71 sh_83 (by decide) rfl d_M_readGrid_104 ?_
                refine er_if_le (tgt := 118) (by decide) a10 d_M_readGrid_107 (fun c19 => ?_) (fun c19 => ?_)
                · have h := h.1 c19
                  exact er_forget [some (.inr 83), some (.inl x1), some (.inl x2), some (.inl (m 86 x2)), some (.inl (m 83 7)), some (.inl 0)] (And.intro rfl (And.intro rfl (And.intro rfl (And.intro rfl (And.intro rfl (And.intro rfl trivial)))))) h
                · have h := h.2 c19
                  refine er_iload_n rfl rfl d_M_readGrid_110 ?_
                  refine er_aload_n rfl rfl d_M_readGrid_111 ?_
                  refine er_getIE 7 rfl fl_M_74 sh_83 (by decide) rfl d_M_readGrid_112 ?_
                  obtain ⟨a20, h⟩ := h
                  refine er_icmp_lt (tgt := 155) (by decide) a17 a20 d_M_readGrid_115 (fun c21 => ?_) (fun c21 => ?_)
                  · have h := h.1 c21
                    exact er_forget [none, none, some (.inl x2), none, none, none] (And.intro rfl trivial) h
                  · have h := h.2 c21
                    exact er_forget [some (.inr 83), some (.inl x1), some (.inl x2), some (.inl (m 86 x2)), some (.inl (m 83 7)), some (.inl 0)] (And.intro rfl (And.intro rfl (And.intro rfl (And.intro rfl (And.intro rfl (And.intro rfl trivial)))))) h
          · have h := h.2 c15
            exact er_forget [some (.inr 83), some (.inl x1), some (.inl x2), some (.inl (m 86 x2)), some (.inl (m 83 7)), none] (And.intro rfl (And.intro rfl (And.intro rfl (And.intro rfl (And.intro rfl trivial))))) h
    · have h := h.2 c11
      refine er_bipush (by decide) d_M_readGrid_57 ?_
      refine er_goto (tgt := 66) (by decide) d_M_readGrid_59 ?_
      refine er_istF (Nat.le_of_ble_eq_true rfl) (ls2 := [some (.inr 83), some (.inl x1), some (.inl x2), some (.inl (m 86 x2)), some (.inl 6), none]) rfl d_M_readGrid_66 ?_
      refine er_iload_n rfl rfl d_M_readGrid_68 ?_
      refine er_bipush (by decide) d_M_readGrid_69 ?_
      obtain ⟨a22, h⟩ := h
      refine er_icmp_eq (tgt := 86) (by decide) a22 (by decide) d_M_readGrid_71 (fun c23 => ?_) (fun c23 => ?_)
      · have h := h.1 c23
        exact er_forget [some (.inr 83), some (.inl x1), some (.inl x2), some (.inl (m 86 x2)), some (.inl 6), none] (And.intro rfl (And.intro rfl (And.intro rfl (And.intro rfl (And.intro rfl trivial))))) h
      · have h := h.2 c23
        refine er_iload_n rfl rfl d_M_readGrid_74 ?_
        refine er_bipush (by decide) d_M_readGrid_75 ?_
        refine er_icmp_eq (tgt := 86) (by decide) a22 (by decide) d_M_readGrid_77 (fun c24 => ?_) (fun c24 => ?_)
        · have h := h.1 c24
          exact er_forget [some (.inr 83), some (.inl x1), some (.inl x2), some (.inl (m 86 x2)), some (.inl 6), none] (And.intro rfl (And.intro rfl (And.intro rfl (And.intro rfl (And.intro rfl trivial))))) h
        · have h := h.2 c24
          refine er_iload_n rfl rfl d_M_readGrid_80 ?_
          refine er_bipush (by decide) d_M_readGrid_81 ?_
          refine er_icmp_ne (tgt := 90) (by decide) a22 (by decide) d_M_readGrid_83 (fun c25 => ?_) (fun c25 => ?_)
          · have h := h.1 c25
            refine er_iconst d_M_readGrid_90 ?_
            refine er_istF (Nat.le_of_ble_eq_true rfl) (ls2 := [some (.inr 83), some (.inl x1), some (.inl x2), some (.inl (m 86 x2)), some (.inl 6), some (.inl 0)]) rfl d_M_readGrid_91 ?_
            refine er_iload_n rfl rfl d_M_readGrid_93 ?_
            refine er_bipush (by decide) d_M_readGrid_94 ?_
            refine er_icmp_ne (tgt := 118) (by decide) a22 (by decide) d_M_readGrid_96 (fun c26 => ?_) (fun c26 => ?_)
            · have h := h.1 c26
              exact er_forget [some (.inr 83), some (.inl x1), some (.inl x2), some (.inl (m 86 x2)), some (.inl 6), some (.inl 0)] (And.intro rfl (And.intro rfl (And.intro rfl (And.intro rfl (And.intro rfl (And.intro rfl trivial)))))) h
            · have h := h.2 c26
              refine er_iload_n rfl rfl d_M_readGrid_99 ?_
              obtain ⟨a27, h⟩ := h
              refine er_if_eq (tgt := 155) (by decide) a27 d_M_readGrid_100 (fun c28 => ?_) (fun c28 => ?_)
              · have h := h.1 c28
                exact er_forget [none, none, some (.inl x2), none, none, none] (And.intro rfl trivial) h
              · have h := h.2 c28
                refine er_aload_n rfl rfl d_M_readGrid_103 ?_
                refine er_getIE 6 rfl fl_M_71 sh_83 (by decide) rfl d_M_readGrid_104 ?_
                refine er_if_le (tgt := 118) (by decide) a10 d_M_readGrid_107 (fun c29 => ?_) (fun c29 => ?_)
                · have h := h.1 c29
                  exact er_forget [some (.inr 83), some (.inl x1), some (.inl x2), some (.inl (m 86 x2)), some (.inl 6), some (.inl 0)] (And.intro rfl (And.intro rfl (And.intro rfl (And.intro rfl (And.intro rfl (And.intro rfl trivial)))))) h
                · have h := h.2 c29
                  refine er_iload_n rfl rfl d_M_readGrid_110 ?_
                  refine er_aload_n rfl rfl d_M_readGrid_111 ?_
                  refine er_getIE 7 rfl fl_M_74 sh_83 (by decide) rfl d_M_readGrid_112 ?_
                  obtain ⟨a30, h⟩ := h
                  refine er_icmp_lt (tgt := 155) (by decide) a27 a30 d_M_readGrid_115 (fun c31 => ?_) (fun c31 => ?_)
                  · have h := h.1 c31
                    exact er_forget [none, none, some (.inl x2), none, none, none] (And.intro rfl trivial) h
                  · have h := h.2 c31
                    exact er_forget [some (.inr 83), some (.inl x1), some (.inl x2), some (.inl (m 86 x2)), some (.inl 6), some (.inl 0)] (And.intro rfl (And.intro rfl (And.intro rfl (And.intro rfl (And.intro rfl (And.intro rfl trivial)))))) h
          · have h := h.2 c25
            exact er_forget [some (.inr 83), some (.inl x1), some (.inl x2), some (.inl (m 86 x2)), some (.inl 6), none] (And.intro rfl (And.intro rfl (And.intro rfl (And.intro rfl (And.intro rfl trivial))))) h
theorem vc_M_readGrid_86 {K : er_K} {x1 : Int} {x2 : Int} {x3 : Int} {x4 : Int} {m : er_M} {Q : Int → er_M → Prop}  (h : (er_in x3) ∧ (((x3 ≠ 59 → wp_M_readGrid_118 K x1 x2 x3 x4 1 m Q) ∧ (x3 = 59 → (er_in x1) ∧ (((x1 = 0 → wp_M_readGrid_155 K x2 m Q) ∧ (x1 ≠ 0 → (er_in (m 83 6)) ∧ ((((m 83 6) ≤ 0 → wp_M_readGrid_118 K x1 x2 x3 x4 1 m Q) ∧ (0 < (m 83 6) → (er_in (m 83 7)) ∧ (((x1 < (m 83 7) → wp_M_readGrid_155 K x2 m Q) ∧ ((m 83 7) ≤ x1 → wp_M_readGrid_118 K x1 x2 x3 x4 1 m Q))))))))))))) : wp_M_readGrid_86 K x1 x2 x3 x4 m Q := by
  show er_WP K mi_M_readGrid 0 0 er_SH m 86 [some (.inr 83), some (.inl x1), some (.inl x2), some (.inl x3), some (.inl x4), none] [] _
  refine er_iconst d_M_readGrid_86 ?_
  refine er_goto (tgt := 91) (by decide) d_M_readGrid_87 ?_
  refine er_istF (Nat.le_of_ble_eq_true rfl) (ls2 := [some (.inr 83), some (.inl x1), some (.inl x2), some (.inl x3), some (.inl x4), some (.inl 1)]) rfl d_M_readGrid_91 ?_
  refine er_iload_n rfl rfl d_M_readGrid_93 ?_
  refine er_bipush (by decide) d_M_readGrid_94 ?_
  obtain ⟨a1, h⟩ := h
  refine er_icmp_ne (tgt := 118) (by decide) a1 (by decide) d_M_readGrid_96 (fun c2 => ?_) (fun c2 => ?_)
  · have h := h.1 c2
    exact er_forget [some (.inr 83), some (.inl x1), some (.inl x2), some (.inl x3), some (.inl x4), some (.inl 1)] (And.intro rfl (And.intro rfl (And.intro rfl (And.intro rfl (And.intro rfl (And.intro rfl trivial)))))) h
  · have h := h.2 c2
    refine er_iload_n rfl rfl d_M_readGrid_99 ?_
    obtain ⟨a3, h⟩ := h
    refine er_if_eq (tgt := 155) (by decide) a3 d_M_readGrid_100 (fun c4 => ?_) (fun c4 => ?_)
    · have h := h.1 c4
      exact er_forget [none, none, some (.inl x2), none, none, none] (And.intro rfl trivial) h
    · have h := h.2 c4
      refine er_aload_n rfl rfl d_M_readGrid_103 ?_
      refine er_getIE 6 rfl fl_M_71 sh_83 (by decide) rfl d_M_readGrid_104 ?_
      obtain ⟨a5, h⟩ := h
      refine er_if_le (tgt := 118) (by decide) a5 d_M_readGrid_107 (fun c6 => ?_) (fun c6 => ?_)
      · have h := h.1 c6
        exact er_forget [some (.inr 83), some (.inl x1), some (.inl x2), some (.inl x3), some (.inl x4), some (.inl 1)] (And.intro rfl (And.intro rfl (And.intro rfl (And.intro rfl (And.intro rfl (And.intro rfl trivial)))))) h
      · have h := h.2 c6
        refine er_iload_n rfl rfl d_M_readGrid_110 ?_
        refine er_aload_n rfl rfl d_M_readGrid_111 ?_
        refine er_getIE 7 rfl fl_M_74 sh_83 (by decide) rfl d_M_readGrid_112 ?_
        obtain ⟨a7, h⟩ := h
        refine er_icmp_lt (tgt := 155) (by decide) a3 a7 d_M_readGrid_115 (fun c8 => ?_) (fun c8 => ?_)
        · have h := h.1 c8
          exact er_forget [none, none, some (.inl x2), none, none, none] (And.intro rfl trivial) h
        · have h := h.2 c8
          exact er_forget [some (.inr 83), some (.inl x1), some (.inl x2), some (.inl x3), some (.inl x4), some (.inl 1)] (And.intro rfl (And.intro rfl (And.intro rfl (And.intro rfl (And.intro rfl (And.intro rfl trivial)))))) h
theorem vc_M_readGrid_118 {K : er_K} {x1 : Int} {x2 : Int} {x3 : Int} {x4 : Int} {x5 : Int} {m : er_M} {Q : Int → er_M → Prop}  (h : (er_in x5) ∧ (((x5 = 0 → wp_M_readGrid_138 K x1 x2 x3 x5 m Q) ∧ (x5 ≠ 0 → (er_in (m 83 6)) ∧ ((((m 83 6) = 6 → wp_M_readGrid_155 K x2 m Q) ∧ ((m 83 6) ≠ 6 → (er_in x1) ∧ (er_in x4) ∧ (((x1 = x4 → wp_M_readGrid_155 K x2 m Q) ∧ (x1 ≠ x4 → wp_M_readGrid_138 K x1 x2 x3 x5 m Q)))))))))) : wp_M_readGrid_118 K x1 x2 x3 x4 x5 m Q := by
  show er_WP K mi_M_readGrid 0 0 er_SH m 118 [some (.inr 83), some (.inl x1), some (.inl x2), some (.inl x3), some (.inl x4), some (.inl x5)] [] _
  refine er_iload rfl d_M_readGrid_118 ?_
  obtain ⟨a1, h⟩ := h
  refine er_if_eq (tgt := 138) (by decide) a1 d_M_readGrid_120 (fun c2 => ?_) (fun c2 => ?_)
  · have h := h.1 c2
    exact er_forget [some (.inr 83), some (.inl x1), some (.inl x2), some (.inl x3), none, some (.inl x5)] (And.intro rfl (And.intro rfl (And.intro rfl (And.intro rfl (And.intro rfl trivial))))) h
  · have h := h.2 c2
    refine er_aload_n rfl rfl d_M_readGrid_123 ?_
    refine er_getIE 6 rfl fl_M_71 sh_83 (by decide) rfl d_M_readGrid_124 ?_
    refine er_bipush (by decide) d_M_readGrid_127 ?_
    obtain ⟨a3, h⟩ := h
    refine er_icmp_eq (tgt := 155) (by decide) a3 (by decide) d_M_readGrid_129 (fun c4 => ?_) (fun c4 => ?_)
    · have h := h.1 c4
      exact er_forget [none, none, some (.inl x2), none, none, none] (And.intro rfl trivial) h
    · have h := h.2 c4
      refine er_iload_n rfl rfl d_M_readGrid_132 ?_
      refine er_iload rfl d_M_readGrid_133 ?_
      obtain ⟨a5, a6, h⟩ := h
      refine er_icmp_eq (tgt := 155) (by decide) a5 a6 d_M_readGrid_135 (fun c7 => ?_) (fun c7 => ?_)
      · have h := h.1 c7
        exact er_forget [none, none, some (.inl x2), none, none, none] (And.intro rfl trivial) h
      · have h := h.2 c7
        exact er_forget [some (.inr 83), some (.inl x1), some (.inl x2), some (.inl x3), none, some (.inl x5)] (And.intro rfl (And.intro rfl (And.intro rfl (And.intro rfl (And.intro rfl trivial))))) h
theorem vc_M_readGrid_138 {K : er_K} {x1 : Int} {x2 : Int} {x3 : Int} {x5 : Int} {m : er_M} {Q : Int → er_M → Prop}  (h : (er_in x5) ∧ (((x5 ≠ 0 → wp_M_readGrid_157 K x1 x2 x3 x5 m Q) ∧ (x5 = 0 → (er_in x3) ∧ (((x3 = 59 → wp_M_readGrid_157 K x1 x2 x3 x5 m Q) ∧ (x3 ≠ 59 → ((x3 = 32 → wp_M_readGrid_157 K x1 x2 x3 x5 m Q) ∧ (x3 ≠ 32 → wp_M_readGrid_155 K x2 m Q))))))))) : wp_M_readGrid_138 K x1 x2 x3 x5 m Q := by
  show er_WP K mi_M_readGrid 0 0 er_SH m 138 [some (.inr 83), some (.inl x1), some (.inl x2), some (.inl x3), none, some (.inl x5)] [] _
  refine er_iload rfl d_M_readGrid_138 ?_
  obtain ⟨a1, h⟩ := h
  refine er_if_ne (tgt := 157) (by decide) a1 d_M_readGrid_140 (fun c2 => ?_) (fun c2 => ?_)
  · have h := h.1 c2
    exact er_forget [some (.inr 83), some (.inl x1), some (.inl x2), some (.inl x3), none, some (.inl x5)] (And.intro rfl (And.intro rfl (And.intro rfl (And.intro rfl (And.intro rfl trivial))))) h
  · have h := h.2 c2
    refine er_iload_n rfl rfl d_M_readGrid_143 ?_
    refine er_bipush (by decide) d_M_readGrid_144 ?_
    obtain ⟨a3, h⟩ := h
    refine er_icmp_eq (tgt := 157) (by decide) a3 (by decide) d_M_readGrid_146 (fun c4 => ?_) (fun c4 => ?_)
    · have h := h.1 c4
      exact er_forget [some (.inr 83), some (.inl x1), some (.inl x2), some (.inl x3), none, some (.inl x5)] (And.intro rfl (And.intro rfl (And.intro rfl (And.intro rfl (And.intro rfl trivial))))) h
    · have h := h.2 c4
      refine er_iload_n rfl rfl d_M_readGrid_149 ?_
      refine er_bipush (by decide) d_M_readGrid_150 ?_
      refine er_icmp_eq (tgt := 157) (by decide) a3 (by decide) d_M_readGrid_152 (fun c5 => ?_) (fun c5 => ?_)
      · have h := h.1 c5
        exact er_forget [some (.inr 83), some (.inl x1), some (.inl x2), some (.inl x3), none, some (.inl x5)] (And.intro rfl (And.intro rfl (And.intro rfl (And.intro rfl (And.intro rfl trivial))))) h
      · have h := h.2 c5
        exact er_forget [none, none, some (.inl x2), none, none, none] (And.intro rfl trivial) h
theorem vc_M_readGrid_155 {K : er_K} {x2 : Int} {m : er_M} {Q : Int → er_M → Prop}  (h : Q x2 m) : wp_M_readGrid_155 K x2 m Q := by
  show er_WP K mi_M_readGrid 0 0 er_SH m 155 [none, none, some (.inl x2), none, none, none] [] _
  refine er_iload_n rfl rfl d_M_readGrid_155 ?_
  exact er_iretE rfl rfl d_M_readGrid_156 h
theorem vc_M_readGrid_157 {K : er_K} {x1 : Int} {x2 : Int} {x3 : Int} {x5 : Int} {m : er_M} {Q : Int → er_M → Prop}  (h : (er_in x5) ∧ (((x5 = 0 → (er_in x3) ∧ (((x3 ≠ 59 → wp_M_readGrid_35 K x1 (x2 + 1) m Q) ∧ (x3 = 59 → ∀ m5 : er_M, m5 = er_st m 83 7 x1 → ∀ m6 : er_M, m6 = er_st m5 83 6 ((m5 83 6) + 1) → wp_M_readGrid_35 K 0 (x2 + 1) m6 Q)))) ∧ (x5 ≠ 0 → (er_in x3) ∧ (((x3 ≠ 115 → ((x3 ≠ 112 → (0 ≤ ((6 * (m 83 6)) + x1)) ∧ (((6 * (m 83 6)) + x1) < 36) ∧ (∀ m12 : er_M, m12 = er_st m 87 ((6 * (m 83 6)) + x1) 0 → wp_M_readGrid_35 K (x1 + 1) (x2 + 1) m12 Q)) ∧ (x3 = 112 → (0 ≤ ((6 * (m 83 6)) + x1)) ∧ (((6 * (m 83 6)) + x1) < 36) ∧ (∀ m15 : er_M, m15 = er_st m 87 ((6 * (m 83 6)) + x1) 2 → wp_M_readGrid_35 K (x1 + 1) (x2 + 1) m15 Q)))) ∧ (x3 = 115 → (0 ≤ ((6 * (m 83 6)) + x1)) ∧ (((6 * (m 83 6)) + x1) < 36) ∧ (∀ m18 : er_M, m18 = er_st m 87 ((6 * (m 83 6)) + x1) 1 → wp_M_readGrid_35 K (x1 + 1) (x2 + 1) m18 Q)))))))) : wp_M_readGrid_157 K x1 x2 x3 x5 m Q := by
  show er_WP K mi_M_readGrid 0 0 er_SH m 157 [some (.inr 83), some (.inl x1), some (.inl x2), some (.inl x3), none, some (.inl x5)] [] _
  refine er_iload rfl d_M_readGrid_157 ?_
  obtain ⟨a1, h⟩ := h
  refine er_if_eq (tgt := 203) (by decide) a1 d_M_readGrid_159 (fun c2 => ?_) (fun c2 => ?_)
  · have h := h.1 c2
    refine er_iload_n rfl rfl d_M_readGrid_203 ?_
    refine er_bipush (by decide) d_M_readGrid_204 ?_
    obtain ⟨a3, h⟩ := h
    refine er_icmp_ne (tgt := 226) (by decide) a3 (by decide) d_M_readGrid_206 (fun c4 => ?_) (fun c4 => ?_)
    · have h := h.1 c4
      refine er_incE (ls2 := [some (.inr 83), some (.inl x1), some (.inl (x2 + 1)), some (.inl x3), none, some (.inl x5)]) rfl (Nat.le_of_ble_eq_true rfl) rfl d_M_readGrid_226 ?_
      refine er_goto (tgt := 35) (by decide) d_M_readGrid_229 ?_
      exact er_forget [some (.inr 83), some (.inl x1), some (.inl (x2 + 1)), none, none, none] (And.intro rfl (And.intro rfl (And.intro rfl trivial))) h
    · have h := h.2 c4
      refine er_aload_n rfl rfl d_M_readGrid_209 ?_
      refine er_iload_n rfl rfl d_M_readGrid_210 ?_
      refine er_putIE 7 rfl fl_M_74 sh_83 (by decide) rfl d_M_readGrid_211 (fun m5 hm => ?_)
      have h := h m5 hm
      refine er_aload_n rfl rfl d_M_readGrid_214 ?_
      refine er_dup d_M_readGrid_215 ?_
      refine er_getIE 6 rfl fl_M_71 sh_83 (by decide) rfl d_M_readGrid_216 ?_
      refine er_iconst d_M_readGrid_219 ?_
      refine er_iadd d_M_readGrid_220 ?_
      refine er_putIE 6 rfl fl_M_71 sh_83 (by decide) rfl d_M_readGrid_221 (fun m6 hm => ?_)
      have h := h m6 hm
      refine er_iconst d_M_readGrid_224 ?_
      refine er_istE 1 rfl (Nat.le_of_ble_eq_true rfl) (ls2 := [some (.inr 83), some (.inl 0), some (.inl x2), some (.inl x3), none, some (.inl x5)]) rfl d_M_readGrid_225 ?_
      refine er_incE (ls2 := [some (.inr 83), some (.inl 0), some (.inl (x2 + 1)), some (.inl x3), none, some (.inl x5)]) rfl (Nat.le_of_ble_eq_true rfl) rfl d_M_readGrid_226 ?_
      refine er_goto (tgt := 35) (by decide) d_M_readGrid_229 ?_
      exact er_forget [some (.inr 83), some (.inl 0), some (.inl (x2 + 1)), none, none, none] (And.intro rfl (And.intro rfl (And.intro rfl trivial))) h
  · have h := h.2 c2
    refine er_aload_n rfl rfl d_M_readGrid_162 ?_
    refine er_getR fl_M_20 sh_83 (by decide) rfl (by decide) d_M_readGrid_163 ?_
    refine er_bipush (by decide) d_M_readGrid_166 ?_
    refine er_aload_n rfl rfl d_M_readGrid_168 ?_
    refine er_getIE 6 rfl fl_M_71 sh_83 (by decide) rfl d_M_readGrid_169 ?_
    refine er_imul d_M_readGrid_172 ?_
    refine er_iload_n rfl rfl d_M_readGrid_173 ?_
    refine er_iadd d_M_readGrid_174 ?_
    refine er_iload_n rfl rfl d_M_readGrid_175 ?_
    refine er_bipush (by decide) d_M_readGrid_176 ?_
    obtain ⟨a7, h⟩ := h
    refine er_icmp_ne (tgt := 185) (by decide) a7 (by decide) d_M_readGrid_178 (fun c8 => ?_) (fun c8 => ?_)
    · have h := h.1 c8
      refine er_iload_n rfl rfl d_M_readGrid_185 ?_
      refine er_bipush (by decide) d_M_readGrid_186 ?_
      refine er_icmp_ne (tgt := 195) (by decide) a7 (by decide) d_M_readGrid_188 (fun c9 => ?_) (fun c9 => ?_)
      · have h := h.1 c9
        refine er_iconst d_M_readGrid_195 ?_
        obtain ⟨a10, a11, h⟩ := h
        refine er_iastE sh_87 (by decide) a10 a11 d_M_readGrid_196 (fun m12 hm => ?_)
        have h := h m12 hm
        refine er_incE (ls2 := [some (.inr 83), some (.inl (x1 + 1)), some (.inl x2), some (.inl x3), none, some (.inl x5)]) rfl (Nat.le_of_ble_eq_true rfl) rfl d_M_readGrid_197 ?_
        refine er_goto (tgt := 226) (by decide) d_M_readGrid_200 ?_
        refine er_incE (ls2 := [some (.inr 83), some (.inl (x1 + 1)), some (.inl (x2 + 1)), some (.inl x3), none, some (.inl x5)]) rfl (Nat.le_of_ble_eq_true rfl) rfl d_M_readGrid_226 ?_
        refine er_goto (tgt := 35) (by decide) d_M_readGrid_229 ?_
        exact er_forget [some (.inr 83), some (.inl (x1 + 1)), some (.inl (x2 + 1)), none, none, none] (And.intro rfl (And.intro rfl (And.intro rfl trivial))) h
      · have h := h.2 c9
        refine er_iconst d_M_readGrid_191 ?_
        refine er_goto (tgt := 196) (by decide) d_M_readGrid_192 ?_
        obtain ⟨a13, a14, h⟩ := h
        refine er_iastE sh_87 (by decide) a13 a14 d_M_readGrid_196 (fun m15 hm => ?_)
        have h := h m15 hm
        refine er_incE (ls2 := [some (.inr 83), some (.inl (x1 + 1)), some (.inl x2), some (.inl x3), none, some (.inl x5)]) rfl (Nat.le_of_ble_eq_true rfl) rfl d_M_readGrid_197 ?_
        refine er_goto (tgt := 226) (by decide) d_M_readGrid_200 ?_
        refine er_incE (ls2 := [some (.inr 83), some (.inl (x1 + 1)), some (.inl (x2 + 1)), some (.inl x3), none, some (.inl x5)]) rfl (Nat.le_of_ble_eq_true rfl) rfl d_M_readGrid_226 ?_
        refine er_goto (tgt := 35) (by decide) d_M_readGrid_229 ?_
        exact er_forget [some (.inr 83), some (.inl (x1 + 1)), some (.inl (x2 + 1)), none, none, none] (And.intro rfl (And.intro rfl (And.intro rfl trivial))) h
    · have h := h.2 c8
      refine er_iconst d_M_readGrid_181 ?_
      refine er_goto (tgt := 196) (by decide) d_M_readGrid_182 ?_
      obtain ⟨a16, a17, h⟩ := h
      refine er_iastE sh_87 (by decide) a16 a17 d_M_readGrid_196 (fun m18 hm => ?_)
      have h := h m18 hm
      refine er_incE (ls2 := [some (.inr 83), some (.inl (x1 + 1)), some (.inl x2), some (.inl x3), none, some (.inl x5)]) rfl (Nat.le_of_ble_eq_true rfl) rfl d_M_readGrid_197 ?_
      refine er_goto (tgt := 226) (by decide) d_M_readGrid_200 ?_
      refine er_incE (ls2 := [some (.inr 83), some (.inl (x1 + 1)), some (.inl (x2 + 1)), some (.inl x3), none, some (.inl x5)]) rfl (Nat.le_of_ble_eq_true rfl) rfl d_M_readGrid_226 ?_
      refine er_goto (tgt := 35) (by decide) d_M_readGrid_229 ?_
      exact er_forget [some (.inr 83), some (.inl (x1 + 1)), some (.inl (x2 + 1)), none, none, none] (And.intro rfl (And.intro rfl (And.intro rfl trivial))) h
theorem vc_M_readGrid {K : er_K} {m : er_M} {Q : Int → er_M → Prop}  (h : wp_M_readGrid_2 K 0 m Q) : er_SI K mi_M_readGrid [.inr 83] m Q := by
  refine er_start (by decide) (Nat.le_of_ble_eq_true rfl) ?_
  show er_WP K mi_M_readGrid 0 0 er_SH m 0 [some (.inr 83), none, none, none, none, none] [] _
  refine er_iconst d_M_readGrid_0 ?_
  refine er_istE 1 rfl (Nat.le_of_ble_eq_true rfl) (ls2 := [some (.inr 83), some (.inl 0), none, none, none, none]) rfl d_M_readGrid_1 ?_
  exact er_forget [some (.inr 83), some (.inl 0), none, none, none, none] (And.intro rfl (And.intro rfl trivial)) h
def wp_M_loadGrid_42 (K : er_K) (x2 : Int) (m : er_M) (Q : Int → er_M → Prop) : Prop := er_WP K mi_M_loadGrid 0 0 er_SH m 42 [some (.inr 83), none, some (.inl x2)] [] (er_Z K mi_M_loadGrid (er_PI Q))
theorem vc_M_loadGrid_42 {K : er_K} {x2 : Int} {m : er_M} {Q : Int → er_M → Prop}  (h : (er_in x2) ∧ (((36 ≤ x2 → ∀ m3 : er_M, m3 = er_st m 83 4 0 → er_SI K mi_M_signals [.inr 83] m3 (fun v5 m4 => Q v5 m4)) ∧ (x2 < 36 → (0 ≤ x2) ∧ (x2 < 36) ∧ ((0 ≤ (4 + x2)) ∧ ((4 + x2) < 112) ∧ (∀ m10 : er_M, m10 = er_st m 84 (4 + x2) (m 87 x2) → (0 ≤ (40 + x2)) ∧ ((40 + x2) < 112) ∧ (∀ m13 : er_M, m13 = er_st m10 84 (40 + x2) 0 → (0 ≤ (76 + x2)) ∧ ((76 + x2) < 112) ∧ (∀ m16 : er_M, m16 = er_st m13 84 (76 + x2) 0 → wp_M_loadGrid_42 K (x2 + 1) m16 Q)))))))) : wp_M_loadGrid_42 K x2 m Q := by
  show er_WP K mi_M_loadGrid 0 0 er_SH m 42 [some (.inr 83), none, some (.inl x2)] [] _
  refine er_iload_n rfl rfl d_M_loadGrid_42 ?_
  refine er_bipush (by decide) d_M_loadGrid_43 ?_
  obtain ⟨a1, h⟩ := h
  refine er_icmp_ge (tgt := 88) (by decide) a1 (by decide) d_M_loadGrid_45 (fun c2 => ?_) (fun c2 => ?_)
  · have h := h.1 c2
    refine er_aload_n rfl rfl d_M_loadGrid_88 ?_
    refine er_iconst d_M_loadGrid_89 ?_
    refine er_putIE 4 rfl fl_M_68 sh_83 (by decide) rfl d_M_loadGrid_90 (fun m3 hm => ?_)
    have h := h m3 hm
    refine er_aload_n rfl rfl d_M_loadGrid_93 ?_
    refine er_cVI (As := []) (st := []) ml_M_84 mw_M_signals md_M_signals ⟨rfl, rfl⟩ rfl (Nat.le_of_ble_eq_true rfl) sh_83 rfl ⟨(Nat.le_of_ble_eq_true rfl), (Nat.le_of_ble_eq_true rfl)⟩ rfl d_M_loadGrid_94 h (fun v5 m4 h => ?_)
    exact er_iretE rfl rfl d_M_loadGrid_97 h
  · have h := h.2 c2
    refine er_aload_n rfl rfl d_M_loadGrid_48 ?_
    refine er_getR fl_M_7 sh_83 (by decide) rfl (by decide) d_M_loadGrid_49 ?_
    refine er_iconst d_M_loadGrid_52 ?_
    refine er_iload_n rfl rfl d_M_loadGrid_53 ?_
    refine er_iadd d_M_loadGrid_54 ?_
    refine er_aload_n rfl rfl d_M_loadGrid_55 ?_
    refine er_getR fl_M_20 sh_83 (by decide) rfl (by decide) d_M_loadGrid_56 ?_
    refine er_iload_n rfl rfl d_M_loadGrid_59 ?_
    obtain ⟨a6, a7, h⟩ := h
    refine er_iald sh_87 (by decide) a6 a7 d_M_loadGrid_60 ?_
    obtain ⟨a8, a9, h⟩ := h
    refine er_iastE sh_84 (by decide) a8 a9 d_M_loadGrid_61 (fun m10 hm => ?_)
    have h := h m10 hm
    refine er_aload_n rfl rfl d_M_loadGrid_62 ?_
    refine er_getR fl_M_7 sh_83 (by decide) rfl (by decide) d_M_loadGrid_63 ?_
    refine er_bipush (by decide) d_M_loadGrid_66 ?_
    refine er_iload_n rfl rfl d_M_loadGrid_68 ?_
    refine er_iadd d_M_loadGrid_69 ?_
    refine er_iconst d_M_loadGrid_70 ?_
    obtain ⟨a11, a12, h⟩ := h
    refine er_iastE sh_84 (by decide) a11 a12 d_M_loadGrid_71 (fun m13 hm => ?_)
    have h := h m13 hm
    refine er_aload_n rfl rfl d_M_loadGrid_72 ?_
    refine er_getR fl_M_7 sh_83 (by decide) rfl (by decide) d_M_loadGrid_73 ?_
    refine er_bipush (by decide) d_M_loadGrid_76 ?_
    refine er_iload_n rfl rfl d_M_loadGrid_78 ?_
    refine er_iadd d_M_loadGrid_79 ?_
    refine er_iconst d_M_loadGrid_80 ?_
    obtain ⟨a14, a15, h⟩ := h
    refine er_iastE sh_84 (by decide) a14 a15 d_M_loadGrid_81 (fun m16 hm => ?_)
    have h := h m16 hm
    refine er_incE (ls2 := [some (.inr 83), none, some (.inl (x2 + 1))]) rfl (Nat.le_of_ble_eq_true rfl) rfl d_M_loadGrid_82 ?_
    refine er_goto (tgt := 42) (by decide) d_M_loadGrid_85 ?_
    exact er_forget [some (.inr 83), none, some (.inl (x2 + 1))] (And.intro rfl (And.intro rfl trivial)) h
theorem vc_M_loadGrid {K : er_K} {m : er_M} {Q : Int → er_M → Prop}  (h : er_SI K mi_M_readGrid [.inr 83] m (fun v2 m1 => (er_in v2) ∧ (((v2 = (-9) → er_SV K mi_M_edit [.inr 83] m1 (fun m5 => ∀ m6 : er_M, m6 = er_st m5 84 0 (m5 83 6) → ∀ m7 : er_M, m7 = er_st m6 84 1 (m6 83 7) → wp_M_loadGrid_42 K 0 m7 Q)) ∧ (v2 ≠ (-9) → Q ((-10) - v2) m1))))) : er_SI K mi_M_loadGrid [.inr 83] m Q := by
  refine er_start (by decide) (Nat.le_of_ble_eq_true rfl) ?_
  show er_WP K mi_M_loadGrid 0 0 er_SH m 0 [some (.inr 83), none, none] [] _
  refine er_aload_n rfl rfl d_M_loadGrid_0 ?_
  refine er_cVI (As := []) (st := []) ml_M_77 mw_M_readGrid md_M_readGrid ⟨rfl, rfl⟩ rfl (Nat.le_of_ble_eq_true rfl) sh_83 rfl ⟨(Nat.le_of_ble_eq_true rfl), (Nat.le_of_ble_eq_true rfl)⟩ rfl d_M_loadGrid_1 h (fun v2 m1 h => ?_)
  refine er_istE 1 rfl (Nat.le_of_ble_eq_true rfl) (ls2 := [some (.inr 83), some (.inl v2), none]) rfl d_M_loadGrid_4 ?_
  refine er_iload_n rfl rfl d_M_loadGrid_5 ?_
  refine er_bipush (by decide) d_M_loadGrid_6 ?_
  obtain ⟨a3, h⟩ := h
  refine er_icmp_eq (tgt := 16) (by decide) a3 (by decide) d_M_loadGrid_8 (fun c4 => ?_) (fun c4 => ?_)
  · have h := h.1 c4
    refine er_aload_n rfl rfl d_M_loadGrid_16 ?_
    refine er_cVV (As := []) (st := []) ml_M_81 mw_M_edit md_M_edit ⟨rfl, rfl⟩ rfl (Nat.le_of_ble_eq_true rfl) sh_83 rfl ⟨(Nat.le_of_ble_eq_true rfl), (Nat.le_of_ble_eq_true rfl)⟩ rfl d_M_loadGrid_17 h (fun m5 h => ?_)
    refine er_aload_n rfl rfl d_M_loadGrid_20 ?_
    refine er_getR fl_M_7 sh_83 (by decide) rfl (by decide) d_M_loadGrid_21 ?_
    refine er_iconst d_M_loadGrid_24 ?_
    refine er_aload_n rfl rfl d_M_loadGrid_25 ?_
    refine er_getIE 6 rfl fl_M_71 sh_83 (by decide) rfl d_M_loadGrid_26 ?_
    refine er_iastE sh_84 (by decide) (by decide) (by decide) d_M_loadGrid_29 (fun m6 hm => ?_)
    have h := h m6 hm
    refine er_aload_n rfl rfl d_M_loadGrid_30 ?_
    refine er_getR fl_M_7 sh_83 (by decide) rfl (by decide) d_M_loadGrid_31 ?_
    refine er_iconst d_M_loadGrid_34 ?_
    refine er_aload_n rfl rfl d_M_loadGrid_35 ?_
    refine er_getIE 7 rfl fl_M_74 sh_83 (by decide) rfl d_M_loadGrid_36 ?_
    refine er_iastE sh_84 (by decide) (by decide) (by decide) d_M_loadGrid_39 (fun m7 hm => ?_)
    have h := h m7 hm
    refine er_iconst d_M_loadGrid_40 ?_
    refine er_istE 2 rfl (Nat.le_of_ble_eq_true rfl) (ls2 := [some (.inr 83), some (.inl v2), some (.inl 0)]) rfl d_M_loadGrid_41 ?_
    exact er_forget [some (.inr 83), none, some (.inl 0)] (And.intro rfl (And.intro rfl trivial)) h
  · have h := h.2 c4
    refine er_bipush (by decide) d_M_loadGrid_11 ?_
    refine er_iload_n rfl rfl d_M_loadGrid_13 ?_
    refine er_isub d_M_loadGrid_14 ?_
    exact er_iretE rfl rfl d_M_loadGrid_15 h
theorem vc_M_isPosition {K : er_K} {p1 p2 : Int} {m : er_M} {Q : Int → er_M → Prop}  (h : er_SI K mi_M_in [.inl p1, .inl 0, .inl ((m 84 0) - 1)] m (fun v2 m1 => (er_in v2) ∧ (((v2 = 0 → Q 0 m1) ∧ (v2 ≠ 0 → er_SI K mi_M_in [.inl p2, .inl 0, .inl ((m1 84 1) - 1)] m1 (fun v6 m5 => (er_in v6) ∧ (((v6 = 0 → Q 0 m5) ∧ (v6 ≠ 0 → Q 1 m5))))))))) : er_SI K mi_M_isPosition [.inr 83, .inl p1, .inl p2] m Q := by
  refine er_start (by decide) (Nat.le_of_ble_eq_true rfl) ?_
  show er_WP K mi_M_isPosition 0 0 er_SH m 0 [some (.inr 83), some (.inl p1), some (.inl p2)] [] _
  refine er_iload_n rfl rfl d_M_isPosition_0 ?_
  refine er_iconst d_M_isPosition_1 ?_
  refine er_aload_n rfl rfl d_M_isPosition_2 ?_
  refine er_getR fl_M_7 sh_83 (by decide) rfl (by decide) d_M_isPosition_3 ?_
  refine er_iconst d_M_isPosition_6 ?_
  refine er_iald sh_84 (by decide) (by decide) (by decide) d_M_isPosition_7 ?_
  refine er_iconst d_M_isPosition_8 ?_
  refine er_isub d_M_isPosition_9 ?_
  refine er_cS (As := [.inl p1, .inl 0, .inl ((m 84 0) - 1)]) (st := []) ml_M_64 rfl mw_M_in md_M_in ⟨rfl, rfl⟩ rfl (Nat.le_of_ble_eq_true rfl) ⟨(Nat.le_of_ble_eq_true rfl), (Nat.le_of_ble_eq_true rfl)⟩ rfl d_M_isPosition_10 h (fun v2 m1 h => ?_)
  obtain ⟨a3, h⟩ := h
  refine er_if_eq (tgt := 36) (by decide) a3 d_M_isPosition_13 (fun c4 => ?_) (fun c4 => ?_)
  · have h := h.1 c4
    refine er_iconst d_M_isPosition_36 ?_
    exact er_zretE rfl (Or.inl rfl) rfl d_M_isPosition_37 h
  · have h := h.2 c4
    refine er_iload_n rfl rfl d_M_isPosition_16 ?_
    refine er_iconst d_M_isPosition_17 ?_
    refine er_aload_n rfl rfl d_M_isPosition_18 ?_
    refine er_getR fl_M_7 sh_83 (by decide) rfl (by decide) d_M_isPosition_19 ?_
    refine er_iconst d_M_isPosition_22 ?_
    refine er_iald sh_84 (by decide) (by decide) (by decide) d_M_isPosition_23 ?_
    refine er_iconst d_M_isPosition_24 ?_
    refine er_isub d_M_isPosition_25 ?_
    refine er_cS (As := [.inl p2, .inl 0, .inl ((m1 84 1) - 1)]) (st := []) ml_M_64 rfl mw_M_in md_M_in ⟨rfl, rfl⟩ rfl (Nat.le_of_ble_eq_true rfl) ⟨(Nat.le_of_ble_eq_true rfl), (Nat.le_of_ble_eq_true rfl)⟩ rfl d_M_isPosition_26 h (fun v6 m5 h => ?_)
    obtain ⟨a7, h⟩ := h
    refine er_if_eq (tgt := 36) (by decide) a7 d_M_isPosition_29 (fun c8 => ?_) (fun c8 => ?_)
    · have h := h.1 c8
      refine er_iconst d_M_isPosition_36 ?_
      exact er_zretE rfl (Or.inl rfl) rfl d_M_isPosition_37 h
    · have h := h.2 c8
      refine er_iconst d_M_isPosition_32 ?_
      refine er_goto (tgt := 37) (by decide) d_M_isPosition_33 ?_
      exact er_zretE rfl (Or.inr rfl) rfl d_M_isPosition_37 h
def wp_M_signals_4 (K : er_K) (x1 : Int) (x2 : Int) (m : er_M) (Q : Int → er_M → Prop) : Prop := er_WP K mi_M_signals 0 0 er_SH m 4 [some (.inr 83), some (.inl x1), some (.inl x2)] [] (er_Z K mi_M_signals (er_PI Q))
theorem vc_M_signals_4 {K : er_K} {x1 : Int} {x2 : Int} {m : er_M} {Q : Int → er_M → Prop}  (h : (er_in x2) ∧ (((36 ≤ x2 → Q x1 m) ∧ (x2 < 36 → (0 ≤ (4 + x2)) ∧ ((4 + x2) < 112) ∧ ((er_in (m 84 (4 + x2))) ∧ ((((m 84 (4 + x2)) ≠ 1 → wp_M_signals_4 K (x1 + 0) (x2 + 1) m Q) ∧ ((m 84 (4 + x2)) = 1 → wp_M_signals_4 K (x1 + 1) (x2 + 1) m Q)))))))) : wp_M_signals_4 K x1 x2 m Q := by
  show er_WP K mi_M_signals 0 0 er_SH m 4 [some (.inr 83), some (.inl x1), some (.inl x2)] [] _
  refine er_iload_n rfl rfl d_M_signals_4 ?_
  refine er_bipush (by decide) d_M_signals_5 ?_
  obtain ⟨a1, h⟩ := h
  refine er_icmp_ge (tgt := 36) (by decide) a1 (by decide) d_M_signals_7 (fun c2 => ?_) (fun c2 => ?_)
  · have h := h.1 c2
    refine er_iload_n rfl rfl d_M_signals_36 ?_
    exact er_iretE rfl rfl d_M_signals_37 h
  · have h := h.2 c2
    refine er_iload_n rfl rfl d_M_signals_10 ?_
    refine er_aload_n rfl rfl d_M_signals_11 ?_
    refine er_getR fl_M_7 sh_83 (by decide) rfl (by decide) d_M_signals_12 ?_
    refine er_iconst d_M_signals_15 ?_
    refine er_iload_n rfl rfl d_M_signals_16 ?_
    refine er_iadd d_M_signals_17 ?_
    obtain ⟨a3, a4, h⟩ := h
    refine er_iald sh_84 (by decide) a3 a4 d_M_signals_18 ?_
    refine er_iconst d_M_signals_19 ?_
    obtain ⟨a5, h⟩ := h
    refine er_icmp_ne (tgt := 27) (by decide) a5 (by decide) d_M_signals_20 (fun c6 => ?_) (fun c6 => ?_)
    · have h := h.1 c6
      refine er_iconst d_M_signals_27 ?_
      refine er_iadd d_M_signals_28 ?_
      refine er_istE 1 rfl (Nat.le_of_ble_eq_true rfl) (ls2 := [some (.inr 83), some (.inl (x1 + 0)), some (.inl x2)]) rfl d_M_signals_29 ?_
      refine er_incE (ls2 := [some (.inr 83), some (.inl (x1 + 0)), some (.inl (x2 + 1))]) rfl (Nat.le_of_ble_eq_true rfl) rfl d_M_signals_30 ?_
      refine er_goto (tgt := 4) (by decide) d_M_signals_33 ?_
      exact er_forget [some (.inr 83), some (.inl (x1 + 0)), some (.inl (x2 + 1))] (And.intro rfl (And.intro rfl (And.intro rfl trivial))) h
    · have h := h.2 c6
      refine er_iconst d_M_signals_23 ?_
      refine er_goto (tgt := 28) (by decide) d_M_signals_24 ?_
      refine er_iadd d_M_signals_28 ?_
      refine er_istE 1 rfl (Nat.le_of_ble_eq_true rfl) (ls2 := [some (.inr 83), some (.inl (x1 + 1)), some (.inl x2)]) rfl d_M_signals_29 ?_
      refine er_incE (ls2 := [some (.inr 83), some (.inl (x1 + 1)), some (.inl (x2 + 1))]) rfl (Nat.le_of_ble_eq_true rfl) rfl d_M_signals_30 ?_
      refine er_goto (tgt := 4) (by decide) d_M_signals_33 ?_
      exact er_forget [some (.inr 83), some (.inl (x1 + 1)), some (.inl (x2 + 1))] (And.intro rfl (And.intro rfl (And.intro rfl trivial))) h
theorem vc_M_signals {K : er_K} {m : er_M} {Q : Int → er_M → Prop}  (h : wp_M_signals_4 K 0 0 m Q) : er_SI K mi_M_signals [.inr 83] m Q := by
  refine er_start (by decide) (Nat.le_of_ble_eq_true rfl) ?_
  show er_WP K mi_M_signals 0 0 er_SH m 0 [some (.inr 83), none, none] [] _
  refine er_iconst d_M_signals_0 ?_
  refine er_istE 1 rfl (Nat.le_of_ble_eq_true rfl) (ls2 := [some (.inr 83), some (.inl 0), none]) rfl d_M_signals_1 ?_
  refine er_iconst d_M_signals_2 ?_
  refine er_istE 2 rfl (Nat.le_of_ble_eq_true rfl) (ls2 := [some (.inr 83), some (.inl 0), some (.inl 0)]) rfl d_M_signals_3 ?_
  exact er_forget [some (.inr 83), some (.inl 0), some (.inl 0)] (And.intro rfl (And.intro rfl (And.intro rfl trivial))) h
theorem vc_M_unpair {K : er_K} {p1 : Int} {m : er_M} {Q : er_M → Prop}  (h : (0 ≤ (40 + p1)) ∧ ((40 + p1) < 112) ∧ ((er_in (m 84 (40 + p1))) ∧ ((((m 84 (40 + p1)) ≤ 0 → Q m) ∧ (0 < (m 84 (40 + p1)) → (0 ≤ ((40 + (m 84 (40 + p1))) - 1)) ∧ (((40 + (m 84 (40 + p1))) - 1) < 112) ∧ (∀ m7 : er_M, m7 = er_st m 84 ((40 + (m 84 (40 + p1))) - 1) 0 → ∀ m8 : er_M, m8 = er_st m7 84 (40 + p1) 0 → Q m8)))))) : er_SV K mi_M_unpair [.inr 83, .inl p1] m Q := by
  refine er_start (by decide) (Nat.le_of_ble_eq_true rfl) ?_
  show er_WP K mi_M_unpair 0 0 er_SH m 0 [some (.inr 83), some (.inl p1)] [] _
  refine er_aload_n rfl rfl d_M_unpair_0 ?_
  refine er_getR fl_M_7 sh_83 (by decide) rfl (by decide) d_M_unpair_1 ?_
  refine er_bipush (by decide) d_M_unpair_4 ?_
  refine er_iload_n rfl rfl d_M_unpair_6 ?_
  refine er_iadd d_M_unpair_7 ?_
  obtain ⟨a1, a2, h⟩ := h
  refine er_iald sh_84 (by decide) a1 a2 d_M_unpair_8 ?_
  obtain ⟨a3, h⟩ := h
  refine er_if_le (tgt := 42) (by decide) a3 d_M_unpair_9 (fun c4 => ?_) (fun c4 => ?_)
  · have h := h.1 c4
    exact er_vretE rfl rfl d_M_unpair_42 h
  · have h := h.2 c4
    refine er_aload_n rfl rfl d_M_unpair_12 ?_
    refine er_getR fl_M_7 sh_83 (by decide) rfl (by decide) d_M_unpair_13 ?_
    refine er_bipush (by decide) d_M_unpair_16 ?_
    refine er_aload_n rfl rfl d_M_unpair_18 ?_
    refine er_getR fl_M_7 sh_83 (by decide) rfl (by decide) d_M_unpair_19 ?_
    refine er_bipush (by decide) d_M_unpair_22 ?_
    refine er_iload_n rfl rfl d_M_unpair_24 ?_
    refine er_iadd d_M_unpair_25 ?_
    refine er_iald sh_84 (by decide) a1 a2 d_M_unpair_26 ?_
    refine er_iadd d_M_unpair_27 ?_
    refine er_iconst d_M_unpair_28 ?_
    refine er_isub d_M_unpair_29 ?_
    refine er_iconst d_M_unpair_30 ?_
    obtain ⟨a5, a6, h⟩ := h
    refine er_iastE sh_84 (by decide) a5 a6 d_M_unpair_31 (fun m7 hm => ?_)
    have h := h m7 hm
    refine er_aload_n rfl rfl d_M_unpair_32 ?_
    refine er_getR fl_M_7 sh_83 (by decide) rfl (by decide) d_M_unpair_33 ?_
    refine er_bipush (by decide) d_M_unpair_36 ?_
    refine er_iload_n rfl rfl d_M_unpair_38 ?_
    refine er_iadd d_M_unpair_39 ?_
    refine er_iconst d_M_unpair_40 ?_
    refine er_iastE sh_84 (by decide) a1 a2 d_M_unpair_41 (fun m8 hm => ?_)
    have h := h m8 hm
    exact er_vretE rfl rfl d_M_unpair_42 h
theorem vc_M_setKind {K : er_K} {p1 p2 p3 : Int} {m : er_M} {Q : Int → er_M → Prop}  (h : er_SI K mi_M_isPosition [.inr 83, .inl p1, .inl p2] m (fun v2 m1 => (er_in v2) ∧ (((v2 = 0 → Q (-1) m1) ∧ (v2 ≠ 0 → er_SI K mi_M_in [.inl p3, .inl 0, .inl 2] m1 (fun v6 m5 => (er_in v6) ∧ (((v6 ≠ 0 → (0 ≤ (4 + ((6 * p1) + p2))) ∧ ((4 + ((6 * p1) + p2)) < 112) ∧ ((er_in (m5 84 (4 + ((6 * p1) + p2)))) ∧ (er_in p3) ∧ ((((m5 84 (4 + ((6 * p1) + p2))) ≠ p3 → er_SV K mi_M_edit [.inr 83] m5 (fun m14 => ∀ m15 : er_M, m15 = er_st m14 84 (4 + ((6 * p1) + p2)) p3 → er_SV K mi_M_unpair [.inr 83, .inl ((6 * p1) + p2)] m15 (fun m16 => (0 ≤ (76 + ((6 * p1) + p2))) ∧ ((76 + ((6 * p1) + p2)) < 112) ∧ (∀ m19 : er_M, m19 = er_st m16 84 (76 + ((6 * p1) + p2)) 0 → Q (m5 84 (4 + ((6 * p1) + p2))) m19)))) ∧ ((m5 84 (4 + ((6 * p1) + p2))) = p3 → Q (-2) m5))))) ∧ (v6 = 0 → Q (-1) m5))))))))) : er_SI K mi_M_setKind [.inr 83, .inl p1, .inl p2, .inl p3] m Q := by
  refine er_start (by decide) (Nat.le_of_ble_eq_true rfl) ?_
  show er_WP K mi_M_setKind 0 0 er_SH m 0 [some (.inr 83), some (.inl p1), some (.inl p2), some (.inl p3), none, none] [] _
  refine er_aload_n rfl rfl d_M_setKind_0 ?_
  refine er_iload_n rfl rfl d_M_setKind_1 ?_
  refine er_iload_n rfl rfl d_M_setKind_2 ?_
  refine er_cVI (As := [.inl p1, .inl p2]) (st := []) ml_M_87 mw_M_isPosition md_M_isPosition ⟨rfl, rfl⟩ rfl (Nat.le_of_ble_eq_true rfl) sh_83 rfl ⟨(Nat.le_of_ble_eq_true rfl), (Nat.le_of_ble_eq_true rfl)⟩ rfl d_M_setKind_3 h (fun v2 m1 h => ?_)
  obtain ⟨a3, h⟩ := h
  refine er_if_eq (tgt := 18) (by decide) a3 d_M_setKind_6 (fun c4 => ?_) (fun c4 => ?_)
  · have h := h.1 c4
    refine er_iconst d_M_setKind_18 ?_
    exact er_iretE rfl rfl d_M_setKind_19 h
  · have h := h.2 c4
    refine er_iload_n rfl rfl d_M_setKind_9 ?_
    refine er_iconst d_M_setKind_10 ?_
    refine er_iconst d_M_setKind_11 ?_
    refine er_cS (As := [.inl p3, .inl 0, .inl 2]) (st := []) ml_M_64 rfl mw_M_in md_M_in ⟨rfl, rfl⟩ rfl (Nat.le_of_ble_eq_true rfl) ⟨(Nat.le_of_ble_eq_true rfl), (Nat.le_of_ble_eq_true rfl)⟩ rfl d_M_setKind_12 h (fun v6 m5 h => ?_)
    obtain ⟨a7, h⟩ := h
    refine er_if_ne (tgt := 20) (by decide) a7 d_M_setKind_15 (fun c8 => ?_) (fun c8 => ?_)
    · have h := h.1 c8
      refine er_bipush (by decide) d_M_setKind_20 ?_
      refine er_iload_n rfl rfl d_M_setKind_22 ?_
      refine er_imul d_M_setKind_23 ?_
      refine er_iload_n rfl rfl d_M_setKind_24 ?_
      refine er_iadd d_M_setKind_25 ?_
      refine er_istF (Nat.le_of_ble_eq_true rfl) (ls2 := [some (.inr 83), some (.inl p1), some (.inl p2), some (.inl p3), some (.inl ((6 * p1) + p2)), none]) rfl d_M_setKind_26 ?_
      refine er_aload_n rfl rfl d_M_setKind_28 ?_
      refine er_getR fl_M_7 sh_83 (by decide) rfl (by decide) d_M_setKind_29 ?_
      refine er_iconst d_M_setKind_32 ?_
      refine er_iload rfl d_M_setKind_33 ?_
      refine er_iadd d_M_setKind_35 ?_
      obtain ⟨a9, a10, h⟩ := h
      refine er_iald sh_84 (by decide) a9 a10 d_M_setKind_36 ?_
      refine er_istF (Nat.le_of_ble_eq_true rfl) (ls2 := [some (.inr 83), some (.inl p1), some (.inl p2), some (.inl p3), some (.inl ((6 * p1) + p2)), some (.inl (m5 84 (4 + ((6 * p1) + p2))))]) rfl d_M_setKind_37 ?_
      refine er_iload rfl d_M_setKind_39 ?_
      refine er_iload_n rfl rfl d_M_setKind_41 ?_
      obtain ⟨a11, a12, h⟩ := h
      refine er_icmp_ne (tgt := 48) (by decide) a11 a12 d_M_setKind_42 (fun c13 => ?_) (fun c13 => ?_)
      · have h := h.1 c13
        refine er_aload_n rfl rfl d_M_setKind_48 ?_
        refine er_cVV (As := []) (st := []) ml_M_81 mw_M_edit md_M_edit ⟨rfl, rfl⟩ rfl (Nat.le_of_ble_eq_true rfl) sh_83 rfl ⟨(Nat.le_of_ble_eq_true rfl), (Nat.le_of_ble_eq_true rfl)⟩ rfl d_M_setKind_49 h (fun m14 h => ?_)
        refine er_aload_n rfl rfl d_M_setKind_52 ?_
        refine er_getR fl_M_7 sh_83 (by decide) rfl (by decide) d_M_setKind_53 ?_
        refine er_iconst d_M_setKind_56 ?_
        refine er_iload rfl d_M_setKind_57 ?_
        refine er_iadd d_M_setKind_59 ?_
        refine er_iload_n rfl rfl d_M_setKind_60 ?_
        refine er_iastE sh_84 (by decide) a9 a10 d_M_setKind_61 (fun m15 hm => ?_)
        have h := h m15 hm
        refine er_aload_n rfl rfl d_M_setKind_62 ?_
        refine er_iload rfl d_M_setKind_63 ?_
        refine er_cVV (As := [.inl ((6 * p1) + p2)]) (st := []) ml_M_91 mw_M_unpair md_M_unpair ⟨rfl, rfl⟩ rfl (Nat.le_of_ble_eq_true rfl) sh_83 rfl ⟨(Nat.le_of_ble_eq_true rfl), (Nat.le_of_ble_eq_true rfl)⟩ rfl d_M_setKind_65 h (fun m16 h => ?_)
        refine er_aload_n rfl rfl d_M_setKind_68 ?_
        refine er_getR fl_M_7 sh_83 (by decide) rfl (by decide) d_M_setKind_69 ?_
        refine er_bipush (by decide) d_M_setKind_72 ?_
        refine er_iload rfl d_M_setKind_74 ?_
        refine er_iadd d_M_setKind_76 ?_
        refine er_iconst d_M_setKind_77 ?_
        obtain ⟨a17, a18, h⟩ := h
        refine er_iastE sh_84 (by decide) a17 a18 d_M_setKind_78 (fun m19 hm => ?_)
        have h := h m19 hm
        refine er_iload rfl d_M_setKind_79 ?_
        exact er_iretE rfl rfl d_M_setKind_81 h
      · have h := h.2 c13
        refine er_bipush (by decide) d_M_setKind_45 ?_
        exact er_iretE rfl rfl d_M_setKind_47 h
    · have h := h.2 c8
      refine er_iconst d_M_setKind_18 ?_
      exact er_iretE rfl rfl d_M_setKind_19 h
theorem vc_M_setChannelCapacity {K : er_K} {p1 : Int} {m : er_M} {Q : Int → er_M → Prop}  (h : er_SI K mi_M_in [.inl p1, .inl 0, .inl 5] m (fun v2 m1 => (er_in v2) ∧ (((v2 ≠ 0 → er_SV K mi_M_edit [.inr 83] m1 (fun m5 => ∀ m6 : er_M, m6 = er_st m5 84 2 p1 → Q (m5 84 2) m6)) ∧ (v2 = 0 → Q (-1) m1))))) : er_SI K mi_M_setChannelCapacity [.inr 83, .inl p1] m Q := by
  refine er_start (by decide) (Nat.le_of_ble_eq_true rfl) ?_
  show er_WP K mi_M_setChannelCapacity 0 0 er_SH m 0 [some (.inr 83), some (.inl p1), none] [] _
  refine er_iload_n rfl rfl d_M_setChannelCapacity_0 ?_
  refine er_iconst d_M_setChannelCapacity_1 ?_
  refine er_iconst d_M_setChannelCapacity_2 ?_
  refine er_cS (As := [.inl p1, .inl 0, .inl 5]) (st := []) ml_M_64 rfl mw_M_in md_M_in ⟨rfl, rfl⟩ rfl (Nat.le_of_ble_eq_true rfl) ⟨(Nat.le_of_ble_eq_true rfl), (Nat.le_of_ble_eq_true rfl)⟩ rfl d_M_setChannelCapacity_3 h (fun v2 m1 h => ?_)
  obtain ⟨a3, h⟩ := h
  refine er_if_ne (tgt := 11) (by decide) a3 d_M_setChannelCapacity_6 (fun c4 => ?_) (fun c4 => ?_)
  · have h := h.1 c4
    refine er_aload_n rfl rfl d_M_setChannelCapacity_11 ?_
    refine er_cVV (As := []) (st := []) ml_M_81 mw_M_edit md_M_edit ⟨rfl, rfl⟩ rfl (Nat.le_of_ble_eq_true rfl) sh_83 rfl ⟨(Nat.le_of_ble_eq_true rfl), (Nat.le_of_ble_eq_true rfl)⟩ rfl d_M_setChannelCapacity_12 h (fun m5 h => ?_)
    refine er_aload_n rfl rfl d_M_setChannelCapacity_15 ?_
    refine er_getR fl_M_7 sh_83 (by decide) rfl (by decide) d_M_setChannelCapacity_16 ?_
    refine er_iconst d_M_setChannelCapacity_19 ?_
    refine er_iald sh_84 (by decide) (by decide) (by decide) d_M_setChannelCapacity_20 ?_
    refine er_istE 2 rfl (Nat.le_of_ble_eq_true rfl) (ls2 := [some (.inr 83), some (.inl p1), some (.inl (m5 84 2))]) rfl d_M_setChannelCapacity_21 ?_
    refine er_aload_n rfl rfl d_M_setChannelCapacity_22 ?_
    refine er_getR fl_M_7 sh_83 (by decide) rfl (by decide) d_M_setChannelCapacity_23 ?_
    refine er_iconst d_M_setChannelCapacity_26 ?_
    refine er_iload_n rfl rfl d_M_setChannelCapacity_27 ?_
    refine er_iastE sh_84 (by decide) (by decide) (by decide) d_M_setChannelCapacity_28 (fun m6 hm => ?_)
    have h := h m6 hm
    refine er_iload_n rfl rfl d_M_setChannelCapacity_29 ?_
    exact er_iretE rfl rfl d_M_setChannelCapacity_30 h
  · have h := h.2 c4
    refine er_iconst d_M_setChannelCapacity_9 ?_
    exact er_iretE rfl rfl d_M_setChannelCapacity_10 h
theorem vc_M_setTileCapacity {K : er_K} {p1 : Int} {m : er_M} {Q : Int → er_M → Prop}  (h : er_SI K mi_M_in [.inl p1, .inl 0, .inl 9] m (fun v2 m1 => (er_in v2) ∧ (((v2 ≠ 0 → er_SV K mi_M_edit [.inr 83] m1 (fun m5 => ∀ m6 : er_M, m6 = er_st m5 84 3 p1 → Q (m5 84 3) m6)) ∧ (v2 = 0 → Q (-1) m1))))) : er_SI K mi_M_setTileCapacity [.inr 83, .inl p1] m Q := by
  refine er_start (by decide) (Nat.le_of_ble_eq_true rfl) ?_
  show er_WP K mi_M_setTileCapacity 0 0 er_SH m 0 [some (.inr 83), some (.inl p1), none] [] _
  refine er_iload_n rfl rfl d_M_setTileCapacity_0 ?_
  refine er_iconst d_M_setTileCapacity_1 ?_
  refine er_bipush (by decide) d_M_setTileCapacity_2 ?_
  refine er_cS (As := [.inl p1, .inl 0, .inl 9]) (st := []) ml_M_64 rfl mw_M_in md_M_in ⟨rfl, rfl⟩ rfl (Nat.le_of_ble_eq_true rfl) ⟨(Nat.le_of_ble_eq_true rfl), (Nat.le_of_ble_eq_true rfl)⟩ rfl d_M_setTileCapacity_4 h (fun v2 m1 h => ?_)
  obtain ⟨a3, h⟩ := h
  refine er_if_ne (tgt := 12) (by decide) a3 d_M_setTileCapacity_7 (fun c4 => ?_) (fun c4 => ?_)
  · have h := h.1 c4
    refine er_aload_n rfl rfl d_M_setTileCapacity_12 ?_
    refine er_cVV (As := []) (st := []) ml_M_81 mw_M_edit md_M_edit ⟨rfl, rfl⟩ rfl (Nat.le_of_ble_eq_true rfl) sh_83 rfl ⟨(Nat.le_of_ble_eq_true rfl), (Nat.le_of_ble_eq_true rfl)⟩ rfl d_M_setTileCapacity_13 h (fun m5 h => ?_)
    refine er_aload_n rfl rfl d_M_setTileCapacity_16 ?_
    refine er_getR fl_M_7 sh_83 (by decide) rfl (by decide) d_M_setTileCapacity_17 ?_
    refine er_iconst d_M_setTileCapacity_20 ?_
    refine er_iald sh_84 (by decide) (by decide) (by decide) d_M_setTileCapacity_21 ?_
    refine er_istE 2 rfl (Nat.le_of_ble_eq_true rfl) (ls2 := [some (.inr 83), some (.inl p1), some (.inl (m5 84 3))]) rfl d_M_setTileCapacity_22 ?_
    refine er_aload_n rfl rfl d_M_setTileCapacity_23 ?_
    refine er_getR fl_M_7 sh_83 (by decide) rfl (by decide) d_M_setTileCapacity_24 ?_
    refine er_iconst d_M_setTileCapacity_27 ?_
    refine er_iload_n rfl rfl d_M_setTileCapacity_28 ?_
    refine er_iastE sh_84 (by decide) (by decide) (by decide) d_M_setTileCapacity_29 (fun m6 hm => ?_)
    have h := h m6 hm
    refine er_iload_n rfl rfl d_M_setTileCapacity_30 ?_
    exact er_iretE rfl rfl d_M_setTileCapacity_31 h
  · have h := h.2 c4
    refine er_iconst d_M_setTileCapacity_10 ?_
    exact er_iretE rfl rfl d_M_setTileCapacity_11 h
theorem vc_M_rows {K : er_K} {m : er_M} {Q : Int → er_M → Prop}  (h : Q (m 84 0) m) : er_SI K mi_M_rows [.inr 83] m Q := by
  refine er_start (by decide) (Nat.le_of_ble_eq_true rfl) ?_
  show er_WP K mi_M_rows 0 0 er_SH m 0 [some (.inr 83)] [] _
  refine er_aload_n rfl rfl d_M_rows_0 ?_
  refine er_getR fl_M_7 sh_83 (by decide) rfl (by decide) d_M_rows_1 ?_
  refine er_iconst d_M_rows_4 ?_
  refine er_iald sh_84 (by decide) (by decide) (by decide) d_M_rows_5 ?_
  exact er_iretE rfl rfl d_M_rows_6 h
theorem vc_M_columns {K : er_K} {m : er_M} {Q : Int → er_M → Prop}  (h : Q (m 84 1) m) : er_SI K mi_M_columns [.inr 83] m Q := by
  refine er_start (by decide) (Nat.le_of_ble_eq_true rfl) ?_
  show er_WP K mi_M_columns 0 0 er_SH m 0 [some (.inr 83)] [] _
  refine er_aload_n rfl rfl d_M_columns_0 ?_
  refine er_getR fl_M_7 sh_83 (by decide) rfl (by decide) d_M_columns_1 ?_
  refine er_iconst d_M_columns_4 ?_
  refine er_iald sh_84 (by decide) (by decide) (by decide) d_M_columns_5 ?_
  exact er_iretE rfl rfl d_M_columns_6 h
theorem vc_M_kindAt {K : er_K} {p1 p2 : Int} {m : er_M} {Q : Int → er_M → Prop}  (h : er_SI K mi_M_isPosition [.inr 83, .inl p1, .inl p2] m (fun v2 m1 => (er_in v2) ∧ (((v2 = 0 → Q (-1) m1) ∧ (v2 ≠ 0 → (0 ≤ ((4 + (6 * p1)) + p2)) ∧ (((4 + (6 * p1)) + p2) < 112) ∧ (Q (m1 84 ((4 + (6 * p1)) + p2)) m1)))))) : er_SI K mi_M_kindAt [.inr 83, .inl p1, .inl p2] m Q := by
  refine er_start (by decide) (Nat.le_of_ble_eq_true rfl) ?_
  show er_WP K mi_M_kindAt 0 0 er_SH m 0 [some (.inr 83), some (.inl p1), some (.inl p2)] [] _
  refine er_aload_n rfl rfl d_M_kindAt_0 ?_
  refine er_iload_n rfl rfl d_M_kindAt_1 ?_
  refine er_iload_n rfl rfl d_M_kindAt_2 ?_
  refine er_cVI (As := [.inl p1, .inl p2]) (st := []) ml_M_87 mw_M_isPosition md_M_isPosition ⟨rfl, rfl⟩ rfl (Nat.le_of_ble_eq_true rfl) sh_83 rfl ⟨(Nat.le_of_ble_eq_true rfl), (Nat.le_of_ble_eq_true rfl)⟩ rfl d_M_kindAt_3 h (fun v2 m1 h => ?_)
  obtain ⟨a3, h⟩ := h
  refine er_if_eq (tgt := 25) (by decide) a3 d_M_kindAt_6 (fun c4 => ?_) (fun c4 => ?_)
  · have h := h.1 c4
    refine er_iconst d_M_kindAt_25 ?_
    exact er_iretE rfl rfl d_M_kindAt_26 h
  · have h := h.2 c4
    refine er_aload_n rfl rfl d_M_kindAt_9 ?_
    refine er_getR fl_M_7 sh_83 (by decide) rfl (by decide) d_M_kindAt_10 ?_
    refine er_iconst d_M_kindAt_13 ?_
    refine er_bipush (by decide) d_M_kindAt_14 ?_
    refine er_iload_n rfl rfl d_M_kindAt_16 ?_
    refine er_imul d_M_kindAt_17 ?_
    refine er_iadd d_M_kindAt_18 ?_
    refine er_iload_n rfl rfl d_M_kindAt_19 ?_
    refine er_iadd d_M_kindAt_20 ?_
    obtain ⟨a5, a6, h⟩ := h
    refine er_iald sh_84 (by decide) a5 a6 d_M_kindAt_21 ?_
    refine er_goto (tgt := 26) (by decide) d_M_kindAt_22 ?_
    exact er_iretE rfl rfl d_M_kindAt_26 h
theorem vc_M_signalCount {K : er_K} {m : er_M} {Q : Int → er_M → Prop}  (h : er_SI K mi_M_signals [.inr 83] m (fun v2 m1 => Q v2 m1)) : er_SI K mi_M_signalCount [.inr 83] m Q := by
  refine er_start (by decide) (Nat.le_of_ble_eq_true rfl) ?_
  show er_WP K mi_M_signalCount 0 0 er_SH m 0 [some (.inr 83)] [] _
  refine er_aload_n rfl rfl d_M_signalCount_0 ?_
  refine er_cVI (As := []) (st := []) ml_M_84 mw_M_signals md_M_signals ⟨rfl, rfl⟩ rfl (Nat.le_of_ble_eq_true rfl) sh_83 rfl ⟨(Nat.le_of_ble_eq_true rfl), (Nat.le_of_ble_eq_true rfl)⟩ rfl d_M_signalCount_1 h (fun v2 m1 h => ?_)
  exact er_iretE rfl rfl d_M_signalCount_4 h
def wp_M_pairs_4 (K : er_K) (x1 : Int) (x2 : Int) (m : er_M) (Q : Int → er_M → Prop) : Prop := er_WP K mi_M_pairs 0 0 er_SH m 4 [some (.inr 83), some (.inl x1), some (.inl x2)] [] (er_Z K mi_M_pairs (er_PI Q))
theorem vc_M_pairs_4 {K : er_K} {x1 : Int} {x2 : Int} {m : er_M} {Q : Int → er_M → Prop}  (h : (er_in x2) ∧ (((36 ≤ x2 → (0 ≤ x1) ∧ (x1 < 2147483648) ∧ (Q (x1 / 2) m)) ∧ (x2 < 36 → (0 ≤ (40 + x2)) ∧ ((40 + x2) < 112) ∧ ((er_in (m 84 (40 + x2))) ∧ ((((m 84 (40 + x2)) ≤ 0 → wp_M_pairs_4 K (x1 + 0) (x2 + 1) m Q) ∧ (0 < (m 84 (40 + x2)) → wp_M_pairs_4 K (x1 + 1) (x2 + 1) m Q)))))))) : wp_M_pairs_4 K x1 x2 m Q := by
  show er_WP K mi_M_pairs 0 0 er_SH m 4 [some (.inr 83), some (.inl x1), some (.inl x2)] [] _
  refine er_iload_n rfl rfl d_M_pairs_4 ?_
  refine er_bipush (by decide) d_M_pairs_5 ?_
  obtain ⟨a1, h⟩ := h
  refine er_icmp_ge (tgt := 36) (by decide) a1 (by decide) d_M_pairs_7 (fun c2 => ?_) (fun c2 => ?_)
  · have h := h.1 c2
    refine er_iload_n rfl rfl d_M_pairs_36 ?_
    refine er_iconst d_M_pairs_37 ?_
    obtain ⟨a3, a4, h⟩ := h
    refine er_idiv a3 a4 (by decide) (by decide) d_M_pairs_38 ?_
    exact er_iretE rfl rfl d_M_pairs_39 h
  · have h := h.2 c2
    refine er_iload_n rfl rfl d_M_pairs_10 ?_
    refine er_aload_n rfl rfl d_M_pairs_11 ?_
    refine er_getR fl_M_7 sh_83 (by decide) rfl (by decide) d_M_pairs_12 ?_
    refine er_bipush (by decide) d_M_pairs_15 ?_
    refine er_iload_n rfl rfl d_M_pairs_17 ?_
    refine er_iadd d_M_pairs_18 ?_
    obtain ⟨a5, a6, h⟩ := h
    refine er_iald sh_84 (by decide) a5 a6 d_M_pairs_19 ?_
    obtain ⟨a7, h⟩ := h
    refine er_if_le (tgt := 27) (by decide) a7 d_M_pairs_20 (fun c8 => ?_) (fun c8 => ?_)
    · have h := h.1 c8
      refine er_iconst d_M_pairs_27 ?_
      refine er_iadd d_M_pairs_28 ?_
      refine er_istE 1 rfl (Nat.le_of_ble_eq_true rfl) (ls2 := [some (.inr 83), some (.inl (x1 + 0)), some (.inl x2)]) rfl d_M_pairs_29 ?_
      refine er_incE (ls2 := [some (.inr 83), some (.inl (x1 + 0)), some (.inl (x2 + 1))]) rfl (Nat.le_of_ble_eq_true rfl) rfl d_M_pairs_30 ?_
      refine er_goto (tgt := 4) (by decide) d_M_pairs_33 ?_
      exact er_forget [some (.inr 83), some (.inl (x1 + 0)), some (.inl (x2 + 1))] (And.intro rfl (And.intro rfl (And.intro rfl trivial))) h
    · have h := h.2 c8
      refine er_iconst d_M_pairs_23 ?_
      refine er_goto (tgt := 28) (by decide) d_M_pairs_24 ?_
      refine er_iadd d_M_pairs_28 ?_
      refine er_istE 1 rfl (Nat.le_of_ble_eq_true rfl) (ls2 := [some (.inr 83), some (.inl (x1 + 1)), some (.inl x2)]) rfl d_M_pairs_29 ?_
      refine er_incE (ls2 := [some (.inr 83), some (.inl (x1 + 1)), some (.inl (x2 + 1))]) rfl (Nat.le_of_ble_eq_true rfl) rfl d_M_pairs_30 ?_
      refine er_goto (tgt := 4) (by decide) d_M_pairs_33 ?_
      exact er_forget [some (.inr 83), some (.inl (x1 + 1)), some (.inl (x2 + 1))] (And.intro rfl (And.intro rfl (And.intro rfl trivial))) h
theorem vc_M_pairs {K : er_K} {m : er_M} {Q : Int → er_M → Prop}  (h : wp_M_pairs_4 K 0 0 m Q) : er_SI K mi_M_pairs [.inr 83] m Q := by
  refine er_start (by decide) (Nat.le_of_ble_eq_true rfl) ?_
  show er_WP K mi_M_pairs 0 0 er_SH m 0 [some (.inr 83), none, none] [] _
  refine er_iconst d_M_pairs_0 ?_
  refine er_istE 1 rfl (Nat.le_of_ble_eq_true rfl) (ls2 := [some (.inr 83), some (.inl 0), none]) rfl d_M_pairs_1 ?_
  refine er_iconst d_M_pairs_2 ?_
  refine er_istE 2 rfl (Nat.le_of_ble_eq_true rfl) (ls2 := [some (.inr 83), some (.inl 0), some (.inl 0)]) rfl d_M_pairs_3 ?_
  exact er_forget [some (.inr 83), some (.inl 0), some (.inl 0)] (And.intro rfl (And.intro rfl (And.intro rfl trivial))) h
theorem vc_M_isFree {K : er_K} {p1 : Int} {m : er_M} {Q : Int → er_M → Prop}  (h : (0 ≤ (4 + p1)) ∧ ((4 + p1) < 112) ∧ ((er_in (m 84 (4 + p1))) ∧ ((((m 84 (4 + p1)) ≠ 1 → Q 0 m) ∧ ((m 84 (4 + p1)) = 1 → (0 ≤ (40 + p1)) ∧ ((40 + p1) < 112) ∧ ((er_in (m 84 (40 + p1))) ∧ ((((m 84 (40 + p1)) ≠ 0 → Q 0 m) ∧ ((m 84 (40 + p1)) = 0 → Q 1 m))))))))) : er_SI K mi_M_isFree [.inr 83, .inl p1] m Q := by
  refine er_start (by decide) (Nat.le_of_ble_eq_true rfl) ?_
  show er_WP K mi_M_isFree 0 0 er_SH m 0 [some (.inr 83), some (.inl p1)] [] _
  refine er_aload_n rfl rfl d_M_isFree_0 ?_
  refine er_getR fl_M_7 sh_83 (by decide) rfl (by decide) d_M_isFree_1 ?_
  refine er_iconst d_M_isFree_4 ?_
  refine er_iload_n rfl rfl d_M_isFree_5 ?_
  refine er_iadd d_M_isFree_6 ?_
  obtain ⟨a1, a2, h⟩ := h
  refine er_iald sh_84 (by decide) a1 a2 d_M_isFree_7 ?_
  refine er_iconst d_M_isFree_8 ?_
  obtain ⟨a3, h⟩ := h
  refine er_icmp_ne (tgt := 28) (by decide) a3 (by decide) d_M_isFree_9 (fun c4 => ?_) (fun c4 => ?_)
  · have h := h.1 c4
    refine er_iconst d_M_isFree_28 ?_
    exact er_zretE rfl (Or.inl rfl) rfl d_M_isFree_29 h
  · have h := h.2 c4
    refine er_aload_n rfl rfl d_M_isFree_12 ?_
    refine er_getR fl_M_7 sh_83 (by decide) rfl (by decide) d_M_isFree_13 ?_
    refine er_bipush (by decide) d_M_isFree_16 ?_
    refine er_iload_n rfl rfl d_M_isFree_18 ?_
    refine er_iadd d_M_isFree_19 ?_
    obtain ⟨a5, a6, h⟩ := h
    refine er_iald sh_84 (by decide) a5 a6 d_M_isFree_20 ?_
    obtain ⟨a7, h⟩ := h
    refine er_if_ne (tgt := 28) (by decide) a7 d_M_isFree_21 (fun c8 => ?_) (fun c8 => ?_)
    · have h := h.1 c8
      refine er_iconst d_M_isFree_28 ?_
      exact er_zretE rfl (Or.inl rfl) rfl d_M_isFree_29 h
    · have h := h.2 c8
      refine er_iconst d_M_isFree_24 ?_
      refine er_goto (tgt := 29) (by decide) d_M_isFree_25 ?_
      exact er_zretE rfl (Or.inr rfl) rfl d_M_isFree_29 h
theorem vc_M_makePair {K : er_K} {p1 p2 p3 p4 : Int} {m : er_M} {Q : Int → er_M → Prop}  (h : er_SI K mi_M_isPosition [.inr 83, .inl p1, .inl p2] m (fun v2 m1 => (er_in v2) ∧ (((v2 = 0 → Q (-1) m1) ∧ (v2 ≠ 0 → er_SI K mi_M_isPosition [.inr 83, .inl p3, .inl p4] m1 (fun v6 m5 => (er_in v6) ∧ (((v6 ≠ 0 → (er_in (((p1 - p3) * (p1 - p3)) + ((p2 - p4) * (p2 - p4)))) ∧ ((((((p1 - p3) * (p1 - p3)) + ((p2 - p4) * (p2 - p4))) = 1 → er_SI K mi_M_isFree [.inr 83, .inl ((6 * p1) + p2)] m5 (fun v12 m11 => (er_in v12) ∧ (((v12 = 0 → Q (-2) m11) ∧ (v12 ≠ 0 → er_SI K mi_M_isFree [.inr 83, .inl ((6 * p3) + p4)] m11 (fun v16 m15 => (er_in v16) ∧ (((v16 ≠ 0 → er_SV K mi_M_edit [.inr 83] m15 (fun m19 => (0 ≤ (40 + ((6 * p1) + p2))) ∧ ((40 + ((6 * p1) + p2)) < 112) ∧ (∀ m22 : er_M, m22 = er_st m19 84 (40 + ((6 * p1) + p2)) (((6 * p3) + p4) + 1) → (0 ≤ (40 + ((6 * p3) + p4))) ∧ ((40 + ((6 * p3) + p4)) < 112) ∧ (∀ m25 : er_M, m25 = er_st m22 84 (40 + ((6 * p3) + p4)) (((6 * p1) + p2) + 1) → er_SI K mi_M_pairs [.inr 83] m25 (fun v27 m26 => Q v27 m26))))) ∧ (v16 = 0 → Q (-2) m15))))))))) ∧ ((((p1 - p3) * (p1 - p3)) + ((p2 - p4) * (p2 - p4))) ≠ 1 → Q (-1) m5)))) ∧ (v6 = 0 → Q (-1) m5))))))))) : er_SI K mi_M_makePair [.inr 83, .inl p1, .inl p2, .inl p3, .inl p4] m Q := by
  refine er_start (by decide) (Nat.le_of_ble_eq_true rfl) ?_
  show er_WP K mi_M_makePair 0 0 er_SH m 0 [some (.inr 83), some (.inl p1), some (.inl p2), some (.inl p3), some (.inl p4), none, none, none, none] [] _
  refine er_aload_n rfl rfl d_M_makePair_0 ?_
  refine er_iload_n rfl rfl d_M_makePair_1 ?_
  refine er_iload_n rfl rfl d_M_makePair_2 ?_
  refine er_cVI (As := [.inl p1, .inl p2]) (st := []) ml_M_87 mw_M_isPosition md_M_isPosition ⟨rfl, rfl⟩ rfl (Nat.le_of_ble_eq_true rfl) sh_83 rfl ⟨(Nat.le_of_ble_eq_true rfl), (Nat.le_of_ble_eq_true rfl)⟩ rfl d_M_makePair_3 h (fun v2 m1 h => ?_)
  obtain ⟨a3, h⟩ := h
  refine er_if_eq (tgt := 19) (by decide) a3 d_M_makePair_6 (fun c4 => ?_) (fun c4 => ?_)
  · have h := h.1 c4
    refine er_iconst d_M_makePair_19 ?_
    exact er_iretE rfl rfl d_M_makePair_20 h
  · have h := h.2 c4
    refine er_aload_n rfl rfl d_M_makePair_9 ?_
    refine er_iload_n rfl rfl d_M_makePair_10 ?_
    refine er_iload rfl d_M_makePair_11 ?_
    refine er_cVI (As := [.inl p3, .inl p4]) (st := []) ml_M_87 mw_M_isPosition md_M_isPosition ⟨rfl, rfl⟩ rfl (Nat.le_of_ble_eq_true rfl) sh_83 rfl ⟨(Nat.le_of_ble_eq_true rfl), (Nat.le_of_ble_eq_true rfl)⟩ rfl d_M_makePair_13 h (fun v6 m5 h => ?_)
    obtain ⟨a7, h⟩ := h
    refine er_if_ne (tgt := 21) (by decide) a7 d_M_makePair_16 (fun c8 => ?_) (fun c8 => ?_)
    · have h := h.1 c8
      refine er_iload_n rfl rfl d_M_makePair_21 ?_
      refine er_iload_n rfl rfl d_M_makePair_22 ?_
      refine er_isub d_M_makePair_23 ?_
      refine er_istF (Nat.le_of_ble_eq_true rfl) (ls2 := [some (.inr 83), some (.inl p1), some (.inl p2), some (.inl p3), some (.inl p4), some (.inl (p1 - p3)), none, none, none]) rfl d_M_makePair_24 ?_
      refine er_iload_n rfl rfl d_M_makePair_26 ?_
      refine er_iload rfl d_M_makePair_27 ?_
      refine er_isub d_M_makePair_29 ?_
      refine er_istF (Nat.le_of_ble_eq_true rfl) (ls2 := [some (.inr 83), some (.inl p1), some (.inl p2), some (.inl p3), some (.inl p4), some (.inl (p1 - p3)), some (.inl (p2 - p4)), none, none]) rfl d_M_makePair_30 ?_
      refine er_iload rfl d_M_makePair_32 ?_
      refine er_iload rfl d_M_makePair_34 ?_
      refine er_imul d_M_makePair_36 ?_
      refine er_iload rfl d_M_makePair_37 ?_
      refine er_iload rfl d_M_makePair_39 ?_
      refine er_imul d_M_makePair_41 ?_
      refine er_iadd d_M_makePair_42 ?_
      refine er_iconst d_M_makePair_43 ?_
      obtain ⟨a9, h⟩ := h
      refine er_icmp_eq (tgt := 49) (by decide) a9 (by decide) d_M_makePair_44 (fun c10 => ?_) (fun c10 => ?_)
      · have h := h.1 c10
        refine er_bipush (by decide) d_M_makePair_49 ?_
        refine er_iload_n rfl rfl d_M_makePair_51 ?_
        refine er_imul d_M_makePair_52 ?_
        refine er_iload_n rfl rfl d_M_makePair_53 ?_
        refine er_iadd d_M_makePair_54 ?_
        refine er_istF (Nat.le_of_ble_eq_true rfl) (ls2 := [some (.inr 83), some (.inl p1), some (.inl p2), some (.inl p3), some (.inl p4), some (.inl (p1 - p3)), some (.inl (p2 - p4)), some (.inl ((6 * p1) + p2)), none]) rfl d_M_makePair_55 ?_
        refine er_bipush (by decide) d_M_makePair_57 ?_
        refine er_iload_n rfl rfl d_M_makePair_59 ?_
        refine er_imul d_M_makePair_60 ?_
        refine er_iload rfl d_M_makePair_61 ?_
        refine er_iadd d_M_makePair_63 ?_
        refine er_istF (Nat.le_of_ble_eq_true rfl) (ls2 := [some (.inr 83), some (.inl p1), some (.inl p2), some (.inl p3), some (.inl p4), some (.inl (p1 - p3)), some (.inl (p2 - p4)), some (.inl ((6 * p1) + p2)), some (.inl ((6 * p3) + p4))]) rfl d_M_makePair_64 ?_
        refine er_aload_n rfl rfl d_M_makePair_66 ?_
        refine er_iload rfl d_M_makePair_67 ?_
        refine er_cVI (As := [.inl ((6 * p1) + p2)]) (st := []) ml_M_95 mw_M_isFree md_M_isFree ⟨rfl, rfl⟩ rfl (Nat.le_of_ble_eq_true rfl) sh_83 rfl ⟨(Nat.le_of_ble_eq_true rfl), (Nat.le_of_ble_eq_true rfl)⟩ rfl d_M_makePair_69 h (fun v12 m11 h => ?_)
        obtain ⟨a13, h⟩ := h
        refine er_if_eq (tgt := 84) (by decide) a13 d_M_makePair_72 (fun c14 => ?_) (fun c14 => ?_)
        · have h := h.1 c14
          refine er_bipush (by decide) d_M_makePair_84 ?_
          exact er_iretE rfl rfl d_M_makePair_86 h
        · have h := h.2 c14
          refine er_aload_n rfl rfl d_M_makePair_75 ?_
          refine er_iload rfl d_M_makePair_76 ?_
          refine er_cVI (As := [.inl ((6 * p3) + p4)]) (st := []) ml_M_95 mw_M_isFree md_M_isFree ⟨rfl, rfl⟩ rfl (Nat.le_of_ble_eq_true rfl) sh_83 rfl ⟨(Nat.le_of_ble_eq_true rfl), (Nat.le_of_ble_eq_true rfl)⟩ rfl d_M_makePair_78 h (fun v16 m15 h => ?_)
          obtain ⟨a17, h⟩ := h
          refine er_if_ne (tgt := 87) (by decide) a17 d_M_makePair_81 (fun c18 => ?_) (fun c18 => ?_)
          · have h := h.1 c18
            refine er_aload_n rfl rfl d_M_makePair_87 ?_
            refine er_cVV (As := []) (st := []) ml_M_81 mw_M_edit md_M_edit ⟨rfl, rfl⟩ rfl (Nat.le_of_ble_eq_true rfl) sh_83 rfl ⟨(Nat.le_of_ble_eq_true rfl), (Nat.le_of_ble_eq_true rfl)⟩ rfl d_M_makePair_88 h (fun m19 h => ?_)
            refine er_aload_n rfl rfl d_M_makePair_91 ?_
            refine er_getR fl_M_7 sh_83 (by decide) rfl (by decide) d_M_makePair_92 ?_
            refine er_bipush (by decide) d_M_makePair_95 ?_
            refine er_iload rfl d_M_makePair_97 ?_
            refine er_iadd d_M_makePair_99 ?_
            refine er_iload rfl d_M_makePair_100 ?_
            refine er_iconst d_M_makePair_102 ?_
            refine er_iadd d_M_makePair_103 ?_
            obtain ⟨a20, a21, h⟩ := h
            refine er_iastE sh_84 (by decide) a20 a21 d_M_makePair_104 (fun m22 hm => ?_)
            have h := h m22 hm
            refine er_aload_n rfl rfl d_M_makePair_105 ?_
            refine er_getR fl_M_7 sh_83 (by decide) rfl (by decide) d_M_makePair_106 ?_
            refine er_bipush (by decide) d_M_makePair_109 ?_
            refine er_iload rfl d_M_makePair_111 ?_
            refine er_iadd d_M_makePair_113 ?_
            refine er_iload rfl d_M_makePair_114 ?_
            refine er_iconst d_M_makePair_116 ?_
            refine er_iadd d_M_makePair_117 ?_
            obtain ⟨a23, a24, h⟩ := h
            refine er_iastE sh_84 (by decide) a23 a24 d_M_makePair_118 (fun m25 hm => ?_)
            have h := h m25 hm
            refine er_aload_n rfl rfl d_M_makePair_119 ?_
            refine er_cVI (As := []) (st := []) ml_M_99 mw_M_pairs md_M_pairs ⟨rfl, rfl⟩ rfl (Nat.le_of_ble_eq_true rfl) sh_83 rfl ⟨(Nat.le_of_ble_eq_true rfl), (Nat.le_of_ble_eq_true rfl)⟩ rfl d_M_makePair_120 h (fun v27 m26 h => ?_)
            exact er_iretE rfl rfl d_M_makePair_123 h
          · have h := h.2 c18
            refine er_bipush (by decide) d_M_makePair_84 ?_
            exact er_iretE rfl rfl d_M_makePair_86 h
      · have h := h.2 c10
        refine er_iconst d_M_makePair_47 ?_
        exact er_iretE rfl rfl d_M_makePair_48 h
    · have h := h.2 c8
      refine er_iconst d_M_makePair_19 ?_
      exact er_iretE rfl rfl d_M_makePair_20 h
theorem vc_M_breakPair {K : er_K} {p1 p2 : Int} {m : er_M} {Q : Int → er_M → Prop}  (h : er_SI K mi_M_isPosition [.inr 83, .inl p1, .inl p2] m (fun v2 m1 => (er_in v2) ∧ (((v2 ≠ 0 → (0 ≤ ((40 + (6 * p1)) + p2)) ∧ (((40 + (6 * p1)) + p2) < 112) ∧ ((er_in (m1 84 ((40 + (6 * p1)) + p2))) ∧ ((((m1 84 ((40 + (6 * p1)) + p2)) ≠ 0 → er_SV K mi_M_edit [.inr 83] m1 (fun m9 => er_SV K mi_M_unpair [.inr 83, .inl ((6 * p1) + p2)] m9 (fun m10 => er_SI K mi_M_pairs [.inr 83] m10 (fun v12 m11 => Q v12 m11)))) ∧ ((m1 84 ((40 + (6 * p1)) + p2)) = 0 → Q (-2) m1))))) ∧ (v2 = 0 → Q (-1) m1))))) : er_SI K mi_M_breakPair [.inr 83, .inl p1, .inl p2] m Q := by
  refine er_start (by decide) (Nat.le_of_ble_eq_true rfl) ?_
  show er_WP K mi_M_breakPair 0 0 er_SH m 0 [some (.inr 83), some (.inl p1), some (.inl p2)] [] _
  refine er_aload_n rfl rfl d_M_breakPair_0 ?_
  refine er_iload_n rfl rfl d_M_breakPair_1 ?_
  refine er_iload_n rfl rfl d_M_breakPair_2 ?_
  refine er_cVI (As := [.inl p1, .inl p2]) (st := []) ml_M_87 mw_M_isPosition md_M_isPosition ⟨rfl, rfl⟩ rfl (Nat.le_of_ble_eq_true rfl) sh_83 rfl ⟨(Nat.le_of_ble_eq_true rfl), (Nat.le_of_ble_eq_true rfl)⟩ rfl d_M_breakPair_3 h (fun v2 m1 h => ?_)
  obtain ⟨a3, h⟩ := h
  refine er_if_ne (tgt := 11) (by decide) a3 d_M_breakPair_6 (fun c4 => ?_) (fun c4 => ?_)
  · have h := h.1 c4
    refine er_aload_n rfl rfl d_M_breakPair_11 ?_
    refine er_getR fl_M_7 sh_83 (by decide) rfl (by decide) d_M_breakPair_12 ?_
    refine er_bipush (by decide) d_M_breakPair_15 ?_
    refine er_bipush (by decide) d_M_breakPair_17 ?_
    refine er_iload_n rfl rfl d_M_breakPair_19 ?_
    refine er_imul d_M_breakPair_20 ?_
    refine er_iadd d_M_breakPair_21 ?_
    refine er_iload_n rfl rfl d_M_breakPair_22 ?_
    refine er_iadd d_M_breakPair_23 ?_
    obtain ⟨a5, a6, h⟩ := h
    refine er_iald sh_84 (by decide) a5 a6 d_M_breakPair_24 ?_
    obtain ⟨a7, h⟩ := h
    refine er_if_ne (tgt := 31) (by decide) a7 d_M_breakPair_25 (fun c8 => ?_) (fun c8 => ?_)
    · have h := h.1 c8
      refine er_aload_n rfl rfl d_M_breakPair_31 ?_
      refine er_cVV (As := []) (st := []) ml_M_81 mw_M_edit md_M_edit ⟨rfl, rfl⟩ rfl (Nat.le_of_ble_eq_true rfl) sh_83 rfl ⟨(Nat.le_of_ble_eq_true rfl), (Nat.le_of_ble_eq_true rfl)⟩ rfl d_M_breakPair_32 h (fun m9 h => ?_)
      refine er_aload_n rfl rfl d_M_breakPair_35 ?_
      refine er_bipush (by decide) d_M_breakPair_36 ?_
      refine er_iload_n rfl rfl d_M_breakPair_38 ?_
      refine er_imul d_M_breakPair_39 ?_
      refine er_iload_n rfl rfl d_M_breakPair_40 ?_
      refine er_iadd d_M_breakPair_41 ?_
      refine er_cVV (As := [.inl ((6 * p1) + p2)]) (st := []) ml_M_91 mw_M_unpair md_M_unpair ⟨rfl, rfl⟩ rfl (Nat.le_of_ble_eq_true rfl) sh_83 rfl ⟨(Nat.le_of_ble_eq_true rfl), (Nat.le_of_ble_eq_true rfl)⟩ rfl d_M_breakPair_42 h (fun m10 h => ?_)
      refine er_aload_n rfl rfl d_M_breakPair_45 ?_
      refine er_cVI (As := []) (st := []) ml_M_99 mw_M_pairs md_M_pairs ⟨rfl, rfl⟩ rfl (Nat.le_of_ble_eq_true rfl) sh_83 rfl ⟨(Nat.le_of_ble_eq_true rfl), (Nat.le_of_ble_eq_true rfl)⟩ rfl d_M_breakPair_46 h (fun v12 m11 h => ?_)
      exact er_iretE rfl rfl d_M_breakPair_49 h
    · have h := h.2 c8
      refine er_bipush (by decide) d_M_breakPair_28 ?_
      exact er_iretE rfl rfl d_M_breakPair_30 h
  · have h := h.2 c4
    refine er_iconst d_M_breakPair_9 ?_
    exact er_iretE rfl rfl d_M_breakPair_10 h
theorem vc_M_partnerOf {K : er_K} {p1 p2 : Int} {m : er_M} {Q : Int → er_M → Prop}  (h : er_SI K mi_M_isPosition [.inr 83, .inl p1, .inl p2] m (fun v2 m1 => (er_in v2) ∧ (((v2 ≠ 0 → (0 ≤ ((40 + (6 * p1)) + p2)) ∧ (((40 + (6 * p1)) + p2) < 112) ∧ ((er_in ((m1 84 ((40 + (6 * p1)) + p2)) - 1)) ∧ (((0 ≤ ((m1 84 ((40 + (6 * p1)) + p2)) - 1) → (0 ≤ ((m1 84 ((40 + (6 * p1)) + p2)) - 1)) ∧ (((m1 84 ((40 + (6 * p1)) + p2)) - 1) < 2147483648) ∧ (Q ((10 * (((m1 84 ((40 + (6 * p1)) + p2)) - 1) / 6)) + (((m1 84 ((40 + (6 * p1)) + p2)) - 1) % 6)) m1)) ∧ (((m1 84 ((40 + (6 * p1)) + p2)) - 1) < 0 → Q (-9) m1))))) ∧ (v2 = 0 → Q (-1) m1))))) : er_SI K mi_M_partnerOf [.inr 83, .inl p1, .inl p2] m Q := by
  refine er_start (by decide) (Nat.le_of_ble_eq_true rfl) ?_
  show er_WP K mi_M_partnerOf 0 0 er_SH m 0 [some (.inr 83), some (.inl p1), some (.inl p2), none] [] _
  refine er_aload_n rfl rfl d_M_partnerOf_0 ?_
  refine er_iload_n rfl rfl d_M_partnerOf_1 ?_
  refine er_iload_n rfl rfl d_M_partnerOf_2 ?_
  refine er_cVI (As := [.inl p1, .inl p2]) (st := []) ml_M_87 mw_M_isPosition md_M_isPosition ⟨rfl, rfl⟩ rfl (Nat.le_of_ble_eq_true rfl) sh_83 rfl ⟨(Nat.le_of_ble_eq_true rfl), (Nat.le_of_ble_eq_true rfl)⟩ rfl d_M_partnerOf_3 h (fun v2 m1 h => ?_)
  obtain ⟨a3, h⟩ := h
  refine er_if_ne (tgt := 11) (by decide) a3 d_M_partnerOf_6 (fun c4 => ?_) (fun c4 => ?_)
  · have h := h.1 c4
    refine er_aload_n rfl rfl d_M_partnerOf_11 ?_
    refine er_getR fl_M_7 sh_83 (by decide) rfl (by decide) d_M_partnerOf_12 ?_
    refine er_bipush (by decide) d_M_partnerOf_15 ?_
    refine er_bipush (by decide) d_M_partnerOf_17 ?_
    refine er_iload_n rfl rfl d_M_partnerOf_19 ?_
    refine er_imul d_M_partnerOf_20 ?_
    refine er_iadd d_M_partnerOf_21 ?_
    refine er_iload_n rfl rfl d_M_partnerOf_22 ?_
    refine er_iadd d_M_partnerOf_23 ?_
    obtain ⟨a5, a6, h⟩ := h
    refine er_iald sh_84 (by decide) a5 a6 d_M_partnerOf_24 ?_
    refine er_iconst d_M_partnerOf_25 ?_
    refine er_isub d_M_partnerOf_26 ?_
    refine er_istE 3 rfl (Nat.le_of_ble_eq_true rfl) (ls2 := [some (.inr 83), some (.inl p1), some (.inl p2), some (.inl ((m1 84 ((40 + (6 * p1)) + p2)) - 1))]) rfl d_M_partnerOf_27 ?_
    refine er_iload_n rfl rfl d_M_partnerOf_28 ?_
    obtain ⟨a7, h⟩ := h
    refine er_if_ge (tgt := 37) (by decide) a7 d_M_partnerOf_29 (fun c8 => ?_) (fun c8 => ?_)
    · have h := h.1 c8
      refine er_bipush (by decide) d_M_partnerOf_37 ?_
      refine er_iload_n rfl rfl d_M_partnerOf_39 ?_
      refine er_bipush (by decide) d_M_partnerOf_40 ?_
      obtain ⟨a9, a10, h⟩ := h
      refine er_idiv a9 a10 (by decide) (by decide) d_M_partnerOf_42 ?_
      refine er_imul d_M_partnerOf_43 ?_
      refine er_iload_n rfl rfl d_M_partnerOf_44 ?_
      refine er_bipush (by decide) d_M_partnerOf_45 ?_
      refine er_irem a9 a10 (by decide) (by decide) d_M_partnerOf_47 ?_
      refine er_iadd d_M_partnerOf_48 ?_
      exact er_iretE rfl rfl d_M_partnerOf_49 h
    · have h := h.2 c8
      refine er_bipush (by decide) d_M_partnerOf_32 ?_
      refine er_goto (tgt := 49) (by decide) d_M_partnerOf_34 ?_
      exact er_iretE rfl rfl d_M_partnerOf_49 h
  · have h := h.2 c4
    refine er_iconst d_M_partnerOf_9 ?_
    exact er_iretE rfl rfl d_M_partnerOf_10 h
def wp_M_selected_4 (K : er_K) (x1 : Int) (x2 : Int) (m : er_M) (Q : Int → er_M → Prop) : Prop := er_WP K mi_M_selected 0 0 er_SH m 4 [some (.inr 83), some (.inl x1), some (.inl x2)] [] (er_Z K mi_M_selected (er_PI Q))
theorem vc_M_selected_4 {K : er_K} {x1 : Int} {x2 : Int} {m : er_M} {Q : Int → er_M → Prop}  (h : (er_in x2) ∧ (((36 ≤ x2 → Q x1 m) ∧ (x2 < 36 → (0 ≤ (76 + x2)) ∧ ((76 + x2) < 112) ∧ (wp_M_selected_4 K (x1 + (m 84 (76 + x2))) (x2 + 1) m Q))))) : wp_M_selected_4 K x1 x2 m Q := by
  show er_WP K mi_M_selected 0 0 er_SH m 4 [some (.inr 83), some (.inl x1), some (.inl x2)] [] _
  refine er_iload_n rfl rfl d_M_selected_4 ?_
  refine er_bipush (by decide) d_M_selected_5 ?_
  obtain ⟨a1, h⟩ := h
  refine er_icmp_ge (tgt := 28) (by decide) a1 (by decide) d_M_selected_7 (fun c2 => ?_) (fun c2 => ?_)
  · have h := h.1 c2
    refine er_iload_n rfl rfl d_M_selected_28 ?_
    exact er_iretE rfl rfl d_M_selected_29 h
  · have h := h.2 c2
    refine er_iload_n rfl rfl d_M_selected_10 ?_
    refine er_aload_n rfl rfl d_M_selected_11 ?_
    refine er_getR fl_M_7 sh_83 (by decide) rfl (by decide) d_M_selected_12 ?_
    refine er_bipush (by decide) d_M_selected_15 ?_
    refine er_iload_n rfl rfl d_M_selected_17 ?_
    refine er_iadd d_M_selected_18 ?_
    obtain ⟨a3, a4, h⟩ := h
    refine er_iald sh_84 (by decide) a3 a4 d_M_selected_19 ?_
    refine er_iadd d_M_selected_20 ?_
    refine er_istE 1 rfl (Nat.le_of_ble_eq_true rfl) (ls2 := [some (.inr 83), some (.inl (x1 + (m 84 (76 + x2)))), some (.inl x2)]) rfl d_M_selected_21 ?_
    refine er_incE (ls2 := [some (.inr 83), some (.inl (x1 + (m 84 (76 + x2)))), some (.inl (x2 + 1))]) rfl (Nat.le_of_ble_eq_true rfl) rfl d_M_selected_22 ?_
    refine er_goto (tgt := 4) (by decide) d_M_selected_25 ?_
    exact er_forget [some (.inr 83), some (.inl (x1 + (m 84 (76 + x2)))), some (.inl (x2 + 1))] (And.intro rfl (And.intro rfl (And.intro rfl trivial))) h
theorem vc_M_selected {K : er_K} {m : er_M} {Q : Int → er_M → Prop}  (h : wp_M_selected_4 K 0 0 m Q) : er_SI K mi_M_selected [.inr 83] m Q := by
  refine er_start (by decide) (Nat.le_of_ble_eq_true rfl) ?_
  show er_WP K mi_M_selected 0 0 er_SH m 0 [some (.inr 83), none, none] [] _
  refine er_iconst d_M_selected_0 ?_
  refine er_istE 1 rfl (Nat.le_of_ble_eq_true rfl) (ls2 := [some (.inr 83), some (.inl 0), none]) rfl d_M_selected_1 ?_
  refine er_iconst d_M_selected_2 ?_
  refine er_istE 2 rfl (Nat.le_of_ble_eq_true rfl) (ls2 := [some (.inr 83), some (.inl 0), some (.inl 0)]) rfl d_M_selected_3 ?_
  exact er_forget [some (.inr 83), some (.inl 0), some (.inl 0)] (And.intro rfl (And.intro rfl (And.intro rfl trivial))) h
theorem vc_M_select {K : er_K} {p1 p2 : Int} {m : er_M} {Q : Int → er_M → Prop}  (h : er_SI K mi_M_isPosition [.inr 83, .inl p1, .inl p2] m (fun v2 m1 => (er_in v2) ∧ (((v2 ≠ 0 → (0 ≤ (4 + ((6 * p1) + p2))) ∧ ((4 + ((6 * p1) + p2)) < 112) ∧ ((er_in (m1 84 (4 + ((6 * p1) + p2)))) ∧ ((((m1 84 (4 + ((6 * p1) + p2))) ≠ 1 → Q (-2) m1) ∧ ((m1 84 (4 + ((6 * p1) + p2))) = 1 → (0 ≤ (76 + ((6 * p1) + p2))) ∧ ((76 + ((6 * p1) + p2)) < 112) ∧ ((er_in (m1 84 (76 + ((6 * p1) + p2)))) ∧ ((((m1 84 (76 + ((6 * p1) + p2))) ≠ 1 → er_SV K mi_M_edit [.inr 83] m1 (fun m13 => ∀ m14 : er_M, m14 = er_st m13 84 (76 + ((6 * p1) + p2)) 1 → er_SI K mi_M_selected [.inr 83] m14 (fun v16 m15 => Q v16 m15))) ∧ ((m1 84 (76 + ((6 * p1) + p2))) = 1 → Q (-2) m1))))))))) ∧ (v2 = 0 → Q (-1) m1))))) : er_SI K mi_M_select [.inr 83, .inl p1, .inl p2] m Q := by
  refine er_start (by decide) (Nat.le_of_ble_eq_true rfl) ?_
  show er_WP K mi_M_select 0 0 er_SH m 0 [some (.inr 83), some (.inl p1), some (.inl p2), none] [] _
  refine er_aload_n rfl rfl d_M_select_0 ?_
  refine er_iload_n rfl rfl d_M_select_1 ?_
  refine er_iload_n rfl rfl d_M_select_2 ?_
  refine er_cVI (As := [.inl p1, .inl p2]) (st := []) ml_M_87 mw_M_isPosition md_M_isPosition ⟨rfl, rfl⟩ rfl (Nat.le_of_ble_eq_true rfl) sh_83 rfl ⟨(Nat.le_of_ble_eq_true rfl), (Nat.le_of_ble_eq_true rfl)⟩ rfl d_M_select_3 h (fun v2 m1 h => ?_)
  obtain ⟨a3, h⟩ := h
  refine er_if_ne (tgt := 11) (by decide) a3 d_M_select_6 (fun c4 => ?_) (fun c4 => ?_)
  · have h := h.1 c4
    refine er_bipush (by decide) d_M_select_11 ?_
    refine er_iload_n rfl rfl d_M_select_13 ?_
    refine er_imul d_M_select_14 ?_
    refine er_iload_n rfl rfl d_M_select_15 ?_
    refine er_iadd d_M_select_16 ?_
    refine er_istE 3 rfl (Nat.le_of_ble_eq_true rfl) (ls2 := [some (.inr 83), some (.inl p1), some (.inl p2), some (.inl ((6 * p1) + p2))]) rfl d_M_select_17 ?_
    refine er_aload_n rfl rfl d_M_select_18 ?_
    refine er_getR fl_M_7 sh_83 (by decide) rfl (by decide) d_M_select_19 ?_
    refine er_iconst d_M_select_22 ?_
    refine er_iload_n rfl rfl d_M_select_23 ?_
    refine er_iadd d_M_select_24 ?_
    obtain ⟨a5, a6, h⟩ := h
    refine er_iald sh_84 (by decide) a5 a6 d_M_select_25 ?_
    refine er_iconst d_M_select_26 ?_
    obtain ⟨a7, h⟩ := h
    refine er_icmp_ne (tgt := 43) (by decide) a7 (by decide) d_M_select_27 (fun c8 => ?_) (fun c8 => ?_)
    · have h := h.1 c8
      refine er_bipush (by decide) d_M_select_43 ?_
      exact er_iretE rfl rfl d_M_select_45 h
    · have h := h.2 c8
      refine er_aload_n rfl rfl d_M_select_30 ?_
      refine er_getR fl_M_7 sh_83 (by decide) rfl (by decide) d_M_select_31 ?_
      refine er_bipush (by decide) d_M_select_34 ?_
      refine er_iload_n rfl rfl d_M_select_36 ?_
      refine er_iadd d_M_select_37 ?_
      obtain ⟨a9, a10, h⟩ := h
      refine er_iald sh_84 (by decide) a9 a10 d_M_select_38 ?_
      refine er_iconst d_M_select_39 ?_
      obtain ⟨a11, h⟩ := h
      refine er_icmp_ne (tgt := 46) (by decide) a11 (by decide) d_M_select_40 (fun c12 => ?_) (fun c12 => ?_)
      · have h := h.1 c12
        refine er_aload_n rfl rfl d_M_select_46 ?_
        refine er_cVV (As := []) (st := []) ml_M_81 mw_M_edit md_M_edit ⟨rfl, rfl⟩ rfl (Nat.le_of_ble_eq_true rfl) sh_83 rfl ⟨(Nat.le_of_ble_eq_true rfl), (Nat.le_of_ble_eq_true rfl)⟩ rfl d_M_select_47 h (fun m13 h => ?_)
        refine er_aload_n rfl rfl d_M_select_50 ?_
        refine er_getR fl_M_7 sh_83 (by decide) rfl (by decide) d_M_select_51 ?_
        refine er_bipush (by decide) d_M_select_54 ?_
        refine er_iload_n rfl rfl d_M_select_56 ?_
        refine er_iadd d_M_select_57 ?_
        refine er_iconst d_M_select_58 ?_
        refine er_iastE sh_84 (by decide) a9 a10 d_M_select_59 (fun m14 hm => ?_)
        have h := h m14 hm
        refine er_aload_n rfl rfl d_M_select_60 ?_
        refine er_cVI (As := []) (st := []) ml_M_102 mw_M_selected md_M_selected ⟨rfl, rfl⟩ rfl (Nat.le_of_ble_eq_true rfl) sh_83 rfl ⟨(Nat.le_of_ble_eq_true rfl), (Nat.le_of_ble_eq_true rfl)⟩ rfl d_M_select_61 h (fun v16 m15 h => ?_)
        exact er_iretE rfl rfl d_M_select_64 h
      · have h := h.2 c12
        refine er_bipush (by decide) d_M_select_43 ?_
        exact er_iretE rfl rfl d_M_select_45 h
  · have h := h.2 c4
    refine er_iconst d_M_select_9 ?_
    exact er_iretE rfl rfl d_M_select_10 h
theorem vc_M_deselect {K : er_K} {p1 p2 : Int} {m : er_M} {Q : Int → er_M → Prop}  (h : er_SI K mi_M_isPosition [.inr 83, .inl p1, .inl p2] m (fun v2 m1 => (er_in v2) ∧ (((v2 ≠ 0 → (0 ≤ (76 + ((6 * p1) + p2))) ∧ ((76 + ((6 * p1) + p2)) < 112) ∧ ((er_in (m1 84 (76 + ((6 * p1) + p2)))) ∧ ((((m1 84 (76 + ((6 * p1) + p2))) ≠ 0 → er_SV K mi_M_edit [.inr 83] m1 (fun m9 => ∀ m10 : er_M, m10 = er_st m9 84 (76 + ((6 * p1) + p2)) 0 → er_SI K mi_M_selected [.inr 83] m10 (fun v12 m11 => Q v12 m11))) ∧ ((m1 84 (76 + ((6 * p1) + p2))) = 0 → Q (-2) m1))))) ∧ (v2 = 0 → Q (-1) m1))))) : er_SI K mi_M_deselect [.inr 83, .inl p1, .inl p2] m Q := by
  refine er_start (by decide) (Nat.le_of_ble_eq_true rfl) ?_
  show er_WP K mi_M_deselect 0 0 er_SH m 0 [some (.inr 83), some (.inl p1), some (.inl p2), none] [] _
  refine er_aload_n rfl rfl d_M_deselect_0 ?_
  refine er_iload_n rfl rfl d_M_deselect_1 ?_
  refine er_iload_n rfl rfl d_M_deselect_2 ?_
  refine er_cVI (As := [.inl p1, .inl p2]) (st := []) ml_M_87 mw_M_isPosition md_M_isPosition ⟨rfl, rfl⟩ rfl (Nat.le_of_ble_eq_true rfl) sh_83 rfl ⟨(Nat.le_of_ble_eq_true rfl), (Nat.le_of_ble_eq_true rfl)⟩ rfl d_M_deselect_3 h (fun v2 m1 h => ?_)
  obtain ⟨a3, h⟩ := h
  refine er_if_ne (tgt := 11) (by decide) a3 d_M_deselect_6 (fun c4 => ?_) (fun c4 => ?_)
  · have h := h.1 c4
    refine er_bipush (by decide) d_M_deselect_11 ?_
    refine er_iload_n rfl rfl d_M_deselect_13 ?_
    refine er_imul d_M_deselect_14 ?_
    refine er_iload_n rfl rfl d_M_deselect_15 ?_
    refine er_iadd d_M_deselect_16 ?_
    refine er_istE 3 rfl (Nat.le_of_ble_eq_true rfl) (ls2 := [some (.inr 83), some (.inl p1), some (.inl p2), some (.inl ((6 * p1) + p2))]) rfl d_M_deselect_17 ?_
    refine er_aload_n rfl rfl d_M_deselect_18 ?_
    refine er_getR fl_M_7 sh_83 (by decide) rfl (by decide) d_M_deselect_19 ?_
    refine er_bipush (by decide) d_M_deselect_22 ?_
    refine er_iload_n rfl rfl d_M_deselect_24 ?_
    refine er_iadd d_M_deselect_25 ?_
    obtain ⟨a5, a6, h⟩ := h
    refine er_iald sh_84 (by decide) a5 a6 d_M_deselect_26 ?_
    obtain ⟨a7, h⟩ := h
    refine er_if_ne (tgt := 33) (by decide) a7 d_M_deselect_27 (fun c8 => ?_) (fun c8 => ?_)
    · have h := h.1 c8
      refine er_aload_n rfl rfl d_M_deselect_33 ?_
      refine er_cVV (As := []) (st := []) ml_M_81 mw_M_edit md_M_edit ⟨rfl, rfl⟩ rfl (Nat.le_of_ble_eq_true rfl) sh_83 rfl ⟨(Nat.le_of_ble_eq_true rfl), (Nat.le_of_ble_eq_true rfl)⟩ rfl d_M_deselect_34 h (fun m9 h => ?_)
      refine er_aload_n rfl rfl d_M_deselect_37 ?_
      refine er_getR fl_M_7 sh_83 (by decide) rfl (by decide) d_M_deselect_38 ?_
      refine er_bipush (by decide) d_M_deselect_41 ?_
      refine er_iload_n rfl rfl d_M_deselect_43 ?_
      refine er_iadd d_M_deselect_44 ?_
      refine er_iconst d_M_deselect_45 ?_
      refine er_iastE sh_84 (by decide) a5 a6 d_M_deselect_46 (fun m10 hm => ?_)
      have h := h m10 hm
      refine er_aload_n rfl rfl d_M_deselect_47 ?_
      refine er_cVI (As := []) (st := []) ml_M_102 mw_M_selected md_M_selected ⟨rfl, rfl⟩ rfl (Nat.le_of_ble_eq_true rfl) sh_83 rfl ⟨(Nat.le_of_ble_eq_true rfl), (Nat.le_of_ble_eq_true rfl)⟩ rfl d_M_deselect_48 h (fun v12 m11 h => ?_)
      exact er_iretE rfl rfl d_M_deselect_51 h
    · have h := h.2 c8
      refine er_bipush (by decide) d_M_deselect_30 ?_
      exact er_iretE rfl rfl d_M_deselect_32 h
  · have h := h.2 c4
    refine er_iconst d_M_deselect_9 ?_
    exact er_iretE rfl rfl d_M_deselect_10 h
def wp_M_clearSelection_18 (K : er_K) (x1 : Int) (x2 : Int) (m : er_M) (Q : Int → er_M → Prop) : Prop := er_WP K mi_M_clearSelection 0 0 er_SH m 18 [some (.inr 83), some (.inl x1), some (.inl x2)] [] (er_Z K mi_M_clearSelection (er_PI Q))
theorem vc_M_clearSelection_18 {K : er_K} {x1 : Int} {x2 : Int} {m : er_M} {Q : Int → er_M → Prop}  (h : (er_in x2) ∧ (((36 ≤ x2 → Q x1 m) ∧ (x2 < 36 → (0 ≤ (76 + x2)) ∧ ((76 + x2) < 112) ∧ (∀ m5 : er_M, m5 = er_st m 84 (76 + x2) 0 → wp_M_clearSelection_18 K x1 (x2 + 1) m5 Q))))) : wp_M_clearSelection_18 K x1 x2 m Q := by
  show er_WP K mi_M_clearSelection 0 0 er_SH m 18 [some (.inr 83), some (.inl x1), some (.inl x2)] [] _
  refine er_iload_n rfl rfl d_M_clearSelection_18 ?_
  refine er_bipush (by decide) d_M_clearSelection_19 ?_
  obtain ⟨a1, h⟩ := h
  refine er_icmp_ge (tgt := 40) (by decide) a1 (by decide) d_M_clearSelection_21 (fun c2 => ?_) (fun c2 => ?_)
  · have h := h.1 c2
    refine er_iload_n rfl rfl d_M_clearSelection_40 ?_
    exact er_iretE rfl rfl d_M_clearSelection_41 h
  · have h := h.2 c2
    refine er_aload_n rfl rfl d_M_clearSelection_24 ?_
    refine er_getR fl_M_7 sh_83 (by decide) rfl (by decide) d_M_clearSelection_25 ?_
    refine er_bipush (by decide) d_M_clearSelection_28 ?_
    refine er_iload_n rfl rfl d_M_clearSelection_30 ?_
    refine er_iadd d_M_clearSelection_31 ?_
    refine er_iconst d_M_clearSelection_32 ?_
    obtain ⟨a3, a4, h⟩ := h
    refine er_iastE sh_84 (by decide) a3 a4 d_M_clearSelection_33 (fun m5 hm => ?_)
    have h := h m5 hm
    refine er_incE (ls2 := [some (.inr 83), some (.inl x1), some (.inl (x2 + 1))]) rfl (Nat.le_of_ble_eq_true rfl) rfl d_M_clearSelection_34 ?_
    refine er_goto (tgt := 18) (by decide) d_M_clearSelection_37 ?_
    exact er_forget [some (.inr 83), some (.inl x1), some (.inl (x2 + 1))] (And.intro rfl (And.intro rfl (And.intro rfl trivial))) h
theorem vc_M_clearSelection {K : er_K} {m : er_M} {Q : Int → er_M → Prop}  (h : er_SI K mi_M_selected [.inr 83] m (fun v2 m1 => (er_in v2) ∧ (((v2 ≠ 0 → er_SV K mi_M_edit [.inr 83] m1 (fun m5 => wp_M_clearSelection_18 K v2 0 m5 Q)) ∧ (v2 = 0 → Q (-2) m1))))) : er_SI K mi_M_clearSelection [.inr 83] m Q := by
  refine er_start (by decide) (Nat.le_of_ble_eq_true rfl) ?_
  show er_WP K mi_M_clearSelection 0 0 er_SH m 0 [some (.inr 83), none, none] [] _
  refine er_aload_n rfl rfl d_M_clearSelection_0 ?_
  refine er_cVI (As := []) (st := []) ml_M_102 mw_M_selected md_M_selected ⟨rfl, rfl⟩ rfl (Nat.le_of_ble_eq_true rfl) sh_83 rfl ⟨(Nat.le_of_ble_eq_true rfl), (Nat.le_of_ble_eq_true rfl)⟩ rfl d_M_clearSelection_1 h (fun v2 m1 h => ?_)
  refine er_istE 1 rfl (Nat.le_of_ble_eq_true rfl) (ls2 := [some (.inr 83), some (.inl v2), none]) rfl d_M_clearSelection_4 ?_
  refine er_iload_n rfl rfl d_M_clearSelection_5 ?_
  obtain ⟨a3, h⟩ := h
  refine er_if_ne (tgt := 12) (by decide) a3 d_M_clearSelection_6 (fun c4 => ?_) (fun c4 => ?_)
  · have h := h.1 c4
    refine er_aload_n rfl rfl d_M_clearSelection_12 ?_
    refine er_cVV (As := []) (st := []) ml_M_81 mw_M_edit md_M_edit ⟨rfl, rfl⟩ rfl (Nat.le_of_ble_eq_true rfl) sh_83 rfl ⟨(Nat.le_of_ble_eq_true rfl), (Nat.le_of_ble_eq_true rfl)⟩ rfl d_M_clearSelection_13 h (fun m5 h => ?_)
    refine er_iconst d_M_clearSelection_16 ?_
    refine er_istE 2 rfl (Nat.le_of_ble_eq_true rfl) (ls2 := [some (.inr 83), some (.inl v2), some (.inl 0)]) rfl d_M_clearSelection_17 ?_
    exact er_forget [some (.inr 83), some (.inl v2), some (.inl 0)] (And.intro rfl (And.intro rfl (And.intro rfl trivial))) h
  · have h := h.2 c4
    refine er_bipush (by decide) d_M_clearSelection_9 ?_
    exact er_iretE rfl rfl d_M_clearSelection_11 h
theorem vc_M_lead {K : er_K} {p1 p2 p3 : Int} {m : er_M} {Q : er_M → Prop}  (h : (0 ≤ (m 83 13)) ∧ ((m 83 13) < 760) ∧ (∀ m3 : er_M, m3 = er_st m 88 (m 83 13) p1 → (0 ≤ (m3 83 13)) ∧ ((m3 83 13) < 760) ∧ (∀ m6 : er_M, m6 = er_st m3 89 (m3 83 13) p2 → (0 ≤ (m6 83 13)) ∧ ((m6 83 13) < 760) ∧ (∀ m9 : er_M, m9 = er_st m6 90 (m6 83 13) p3 → (0 ≤ p1) ∧ (p1 < 136) ∧ ((0 ≤ (m9 83 13)) ∧ ((m9 83 13) < 760) ∧ (∀ m14 : er_M, m14 = er_st m9 92 (m9 83 13) (m9 91 p1) → ∀ m15 : er_M, m15 = er_st m14 91 p1 (m14 83 13) → ∀ m16 : er_M, m16 = er_st m15 83 13 ((m15 83 13) + 1) → Q m16)))))) : er_SV K mi_M_lead [.inr 83, .inl p1, .inl p2, .inl p3] m Q := by
  refine er_start (by decide) (Nat.le_of_ble_eq_true rfl) ?_
  show er_WP K mi_M_lead 0 0 er_SH m 0 [some (.inr 83), some (.inl p1), some (.inl p2), some (.inl p3)] [] _
  refine er_aload_n rfl rfl d_M_lead_0 ?_
  refine er_getR fl_M_23 sh_83 (by decide) rfl (by decide) d_M_lead_1 ?_
  refine er_aload_n rfl rfl d_M_lead_4 ?_
  refine er_getIE 13 rfl fl_M_105 sh_83 (by decide) rfl d_M_lead_5 ?_
  refine er_iload_n rfl rfl d_M_lead_8 ?_
  obtain ⟨a1, a2, h⟩ := h
  refine er_iastE sh_88 (by decide) a1 a2 d_M_lead_9 (fun m3 hm => ?_)
  have h := h m3 hm
  refine er_aload_n rfl rfl d_M_lead_10 ?_
  refine er_getR fl_M_26 sh_83 (by decide) rfl (by decide) d_M_lead_11 ?_
  refine er_aload_n rfl rfl d_M_lead_14 ?_
  refine er_getIE 13 rfl fl_M_105 sh_83 (by decide) rfl d_M_lead_15 ?_
  refine er_iload_n rfl rfl d_M_lead_18 ?_
  obtain ⟨a4, a5, h⟩ := h
  refine er_iastE sh_89 (by decide) a4 a5 d_M_lead_19 (fun m6 hm => ?_)
  have h := h m6 hm
  refine er_aload_n rfl rfl d_M_lead_20 ?_
  refine er_getR fl_M_29 sh_83 (by decide) rfl (by decide) d_M_lead_21 ?_
  refine er_aload_n rfl rfl d_M_lead_24 ?_
  refine er_getIE 13 rfl fl_M_105 sh_83 (by decide) rfl d_M_lead_25 ?_
  refine er_iload_n rfl rfl d_M_lead_28 ?_
  obtain ⟨a7, a8, h⟩ := h
  refine er_iastE sh_90 (by decide) a7 a8 d_M_lead_29 (fun m9 hm => ?_)
  have h := h m9 hm
  refine er_aload_n rfl rfl d_M_lead_30 ?_
  refine er_getR fl_M_35 sh_83 (by decide) rfl (by decide) d_M_lead_31 ?_
  refine er_aload_n rfl rfl d_M_lead_34 ?_
  refine er_getIE 13 rfl fl_M_105 sh_83 (by decide) rfl d_M_lead_35 ?_
  refine er_aload_n rfl rfl d_M_lead_38 ?_
  refine er_getR fl_M_32 sh_83 (by decide) rfl (by decide) d_M_lead_39 ?_
  refine er_iload_n rfl rfl d_M_lead_42 ?_
  obtain ⟨a10, a11, h⟩ := h
  refine er_iald sh_91 (by decide) a10 a11 d_M_lead_43 ?_
  obtain ⟨a12, a13, h⟩ := h
  refine er_iastE sh_92 (by decide) a12 a13 d_M_lead_44 (fun m14 hm => ?_)
  have h := h m14 hm
  refine er_aload_n rfl rfl d_M_lead_45 ?_
  refine er_getR fl_M_32 sh_83 (by decide) rfl (by decide) d_M_lead_46 ?_
  refine er_iload_n rfl rfl d_M_lead_49 ?_
  refine er_aload_n rfl rfl d_M_lead_50 ?_
  refine er_getIE 13 rfl fl_M_105 sh_83 (by decide) rfl d_M_lead_51 ?_
  refine er_iastE sh_91 (by decide) a10 a11 d_M_lead_54 (fun m15 hm => ?_)
  have h := h m15 hm
  refine er_aload_n rfl rfl d_M_lead_55 ?_
  refine er_dup d_M_lead_56 ?_
  refine er_getIE 13 rfl fl_M_105 sh_83 (by decide) rfl d_M_lead_57 ?_
  refine er_iconst d_M_lead_60 ?_
  refine er_iadd d_M_lead_61 ?_
  refine er_putIE 13 rfl fl_M_105 sh_83 (by decide) rfl d_M_lead_62 (fun m16 hm => ?_)
  have h := h m16 hm
  exact er_vretE rfl rfl d_M_lead_65 h
theorem vc_M_join {K : er_K} {p1 p2 p3 : Int} {m : er_M} {Q : er_M → Prop}  (h : er_SV K mi_M_lead [.inr 83, .inl p1, .inl p2, .inl p3] m (fun m1 => er_SV K mi_M_lead [.inr 83, .inl p2, .inl p1, .inl 0] m1 (fun m2 => Q m2))) : er_SV K mi_M_join [.inr 83, .inl p1, .inl p2, .inl p3] m Q := by
  refine er_start (by decide) (Nat.le_of_ble_eq_true rfl) ?_
  show er_WP K mi_M_join 0 0 er_SH m 0 [some (.inr 83), some (.inl p1), some (.inl p2), some (.inl p3)] [] _
  refine er_aload_n rfl rfl d_M_join_0 ?_
  refine er_iload_n rfl rfl d_M_join_1 ?_
  refine er_iload_n rfl rfl d_M_join_2 ?_
  refine er_iload_n rfl rfl d_M_join_3 ?_
  refine er_cVV (As := [.inl p1, .inl p2, .inl p3]) (st := []) ml_M_108 mw_M_lead md_M_lead ⟨rfl, rfl⟩ rfl (Nat.le_of_ble_eq_true rfl) sh_83 rfl ⟨(Nat.le_of_ble_eq_true rfl), (Nat.le_of_ble_eq_true rfl)⟩ rfl d_M_join_4 h (fun m1 h => ?_)
  refine er_aload_n rfl rfl d_M_join_7 ?_
  refine er_iload_n rfl rfl d_M_join_8 ?_
  refine er_iload_n rfl rfl d_M_join_9 ?_
  refine er_iconst d_M_join_10 ?_
  refine er_cVV (As := [.inl p2, .inl p1, .inl 0]) (st := []) ml_M_108 mw_M_lead md_M_lead ⟨rfl, rfl⟩ rfl (Nat.le_of_ble_eq_true rfl) sh_83 rfl ⟨(Nat.le_of_ble_eq_true rfl), (Nat.le_of_ble_eq_true rfl)⟩ rfl d_M_join_11 h (fun m2 h => ?_)
  exact er_vretE rfl rfl d_M_join_14 h
def wp_M_cutBack_0 (K : er_K) (x1 : Int) (m : er_M) (Q : er_M → Prop) : Prop := er_WP K mi_M_cutBack 0 0 er_SH m 0 [some (.inr 83), some (.inl x1)] [] (er_Z K mi_M_cutBack (er_PV Q))
theorem vc_M_cutBack_0 {K : er_K} {x1 : Int} {m : er_M} {Q : er_M → Prop}  (h : (er_in (m 83 13)) ∧ (er_in x1) ∧ ((((m 83 13) ≤ x1 → Q m) ∧ (x1 < (m 83 13) → ∀ m4 : er_M, m4 = er_st m 83 13 ((m 83 13) - 1) → (0 ≤ (m4 83 13)) ∧ ((m4 83 13) < 760) ∧ ((0 ≤ (m4 88 (m4 83 13))) ∧ ((m4 88 (m4 83 13)) < 136) ∧ (∀ m9 : er_M, m9 = er_st m4 91 (m4 88 (m4 83 13)) (m4 92 (m4 83 13)) → wp_M_cutBack_0 K x1 m9 Q)))))) : wp_M_cutBack_0 K x1 m Q := by
  show er_WP K mi_M_cutBack 0 0 er_SH m 0 [some (.inr 83), some (.inl x1)] [] _
  refine er_aload_n rfl rfl d_M_cutBack_0 ?_
  refine er_getIE 13 rfl fl_M_105 sh_83 (by decide) rfl d_M_cutBack_1 ?_
  refine er_iload_n rfl rfl d_M_cutBack_4 ?_
  obtain ⟨a1, a2, h⟩ := h
  refine er_icmp_le (tgt := 44) (by decide) a1 a2 d_M_cutBack_5 (fun c3 => ?_) (fun c3 => ?_)
  · have h := h.1 c3
    exact er_vretE rfl rfl d_M_cutBack_44 h
  · have h := h.2 c3
    refine er_aload_n rfl rfl d_M_cutBack_8 ?_
    refine er_dup d_M_cutBack_9 ?_
    refine er_getIE 13 rfl fl_M_105 sh_83 (by decide) rfl d_M_cutBack_10 ?_
    refine er_iconst d_M_cutBack_13 ?_
    refine er_isub d_M_cutBack_14 ?_
    refine er_putIE 13 rfl fl_M_105 sh_83 (by decide) rfl d_M_cutBack_15 (fun m4 hm => ?_)
    have h := h m4 hm
    refine er_aload_n rfl rfl d_M_cutBack_18 ?_
    refine er_getR fl_M_32 sh_83 (by decide) rfl (by decide) d_M_cutBack_19 ?_
    refine er_aload_n rfl rfl d_M_cutBack_22 ?_
    refine er_getR fl_M_23 sh_83 (by decide) rfl (by decide) d_M_cutBack_23 ?_
    refine er_aload_n rfl rfl d_M_cutBack_26 ?_
    refine er_getIE 13 rfl fl_M_105 sh_83 (by decide) rfl d_M_cutBack_27 ?_
    obtain ⟨a5, a6, h⟩ := h
    refine er_iald sh_88 (by decide) a5 a6 d_M_cutBack_30 ?_
    refine er_aload_n rfl rfl d_M_cutBack_31 ?_
    refine er_getR fl_M_35 sh_83 (by decide) rfl (by decide) d_M_cutBack_32 ?_
    refine er_aload_n rfl rfl d_M_cutBack_35 ?_
    refine er_getIE 13 rfl fl_M_105 sh_83 (by decide) rfl d_M_cutBack_36 ?_
    refine er_iald sh_92 (by decide) a5 a6 d_M_cutBack_39 ?_
    obtain ⟨a7, a8, h⟩ := h
    refine er_iastE sh_91 (by decide) a7 a8 d_M_cutBack_40 (fun m9 hm => ?_)
    have h := h m9 hm
    refine er_goto (tgt := 0) (by decide) d_M_cutBack_41 ?_
    exact er_forget [some (.inr 83), some (.inl x1)] (And.intro rfl (And.intro rfl trivial)) h
theorem vc_M_cutBack {K : er_K} {p1 : Int} {m : er_M} {Q : er_M → Prop}  (h : wp_M_cutBack_0 K p1 m Q) : er_SV K mi_M_cutBack [.inr 83, .inl p1] m Q := by
  refine er_start (by decide) (Nat.le_of_ble_eq_true rfl) ?_
  show er_WP K mi_M_cutBack 0 0 er_SH m 0 [some (.inr 83), some (.inl p1)] [] _
  exact er_forget [some (.inr 83), some (.inl p1)] (And.intro rfl (And.intro rfl trivial)) h
theorem vc_M_tile {K : er_K} {p0 p1 : Int} {m : er_M} {Q : Int → er_M → Prop}  (h : Q ((7 * p0) + p1) m) : er_SI K mi_M_tile [.inl p0, .inl p1] m Q := by
  refine er_start (by decide) (Nat.le_of_ble_eq_true rfl) ?_
  show er_WP K mi_M_tile 0 0 er_SH m 0 [some (.inl p0), some (.inl p1)] [] _
  refine er_bipush (by decide) d_M_tile_0 ?_
  refine er_iload_n rfl rfl d_M_tile_2 ?_
  refine er_imul d_M_tile_3 ?_
  refine er_iload_n rfl rfl d_M_tile_4 ?_
  refine er_iadd d_M_tile_5 ?_
  exact er_iretE rfl rfl d_M_tile_6 h
theorem vc_M_joinTiles {K : er_K} {p1 p2 p3 p4 : Int} {m : er_M} {Q : er_M → Prop}  (h : (0 ≤ p1) ∧ (p1 < 36) ∧ ((er_in (m 93 p1)) ∧ ((((m 93 p1) = 0 → (0 ≤ p2) ∧ (p2 < 36) ∧ ((er_in (m 93 p2)) ∧ ((((m 93 p2) = 0 → er_SV K mi_M_join [.inr 83, .inl (87 + p3), .inl (38 + p4), .inl (((m 84 2) + 0) + 0)] m (fun m9 => er_SV K mi_M_join [.inr 83, .inl (87 + p4), .inl (38 + p3), .inl (((m 84 2) + 0) + 0)] m9 (fun m10 => Q m10))) ∧ ((m 93 p2) ≠ 0 → er_SV K mi_M_join [.inr 83, .inl (87 + p3), .inl (38 + p4), .inl (((m 84 2) + 0) + 1)] m (fun m11 => er_SV K mi_M_join [.inr 83, .inl (87 + p4), .inl (38 + p3), .inl (((m 84 2) + 0) + 1)] m11 (fun m12 => Q m12))))))) ∧ ((m 93 p1) ≠ 0 → (0 ≤ p2) ∧ (p2 < 36) ∧ ((er_in (m 93 p2)) ∧ ((((m 93 p2) = 0 → er_SV K mi_M_join [.inr 83, .inl (87 + p3), .inl (38 + p4), .inl (((m 84 2) + 1) + 0)] m (fun m17 => er_SV K mi_M_join [.inr 83, .inl (87 + p4), .inl (38 + p3), .inl (((m 84 2) + 1) + 0)] m17 (fun m18 => Q m18))) ∧ ((m 93 p2) ≠ 0 → er_SV K mi_M_join [.inr 83, .inl (87 + p3), .inl (38 + p4), .inl (((m 84 2) + 1) + 1)] m (fun m19 => er_SV K mi_M_join [.inr 83, .inl (87 + p4), .inl (38 + p3), .inl (((m 84 2) + 1) + 1)] m19 (fun m20 => Q m20))))))))))) : er_SV K mi_M_joinTiles [.inr 83, .inl p1, .inl p2, .inl p3, .inl p4] m Q := by
  refine er_start (by decide) (Nat.le_of_ble_eq_true rfl) ?_
  show er_WP K mi_M_joinTiles 0 0 er_SH m 0 [some (.inr 83), some (.inl p1), some (.inl p2), some (.inl p3), some (.inl p4), none] [] _
  refine er_aload_n rfl rfl d_M_joinTiles_0 ?_
  refine er_getR fl_M_7 sh_83 (by decide) rfl (by decide) d_M_joinTiles_1 ?_
  refine er_iconst d_M_joinTiles_4 ?_
  refine er_iald sh_84 (by decide) (by decide) (by decide) d_M_joinTiles_5 ?_
  refine er_aload_n rfl rfl d_M_joinTiles_6 ?_
  refine er_getR fl_M_38 sh_83 (by decide) rfl (by decide) d_M_joinTiles_7 ?_
  refine er_iload_n rfl rfl d_M_joinTiles_10 ?_
  obtain ⟨a1, a2, h⟩ := h
  refine er_zald sh_93 (by decide) a1 a2 d_M_joinTiles_11 ?_
  obtain ⟨a3, h⟩ := h
  refine er_if_eq (tgt := 19) (by decide) a3 d_M_joinTiles_12 (fun c4 => ?_) (fun c4 => ?_)
  · have h := h.1 c4
    refine er_iconst d_M_joinTiles_19 ?_
    refine er_iadd d_M_joinTiles_20 ?_
    refine er_aload_n rfl rfl d_M_joinTiles_21 ?_
    refine er_getR fl_M_38 sh_83 (by decide) rfl (by decide) d_M_joinTiles_22 ?_
    refine er_iload_n rfl rfl d_M_joinTiles_25 ?_
    obtain ⟨a5, a6, h⟩ := h
    refine er_zald sh_93 (by decide) a5 a6 d_M_joinTiles_26 ?_
    obtain ⟨a7, h⟩ := h
    refine er_if_eq (tgt := 34) (by decide) a7 d_M_joinTiles_27 (fun c8 => ?_) (fun c8 => ?_)
    · have h := h.1 c8
      refine er_iconst d_M_joinTiles_34 ?_
      refine er_iadd d_M_joinTiles_35 ?_
      refine er_istF (Nat.le_of_ble_eq_true rfl) (ls2 := [some (.inr 83), some (.inl p1), some (.inl p2), some (.inl p3), some (.inl p4), some (.inl (((m 84 2) + 0) + 0))]) rfl d_M_joinTiles_36 ?_
      refine er_aload_n rfl rfl d_M_joinTiles_38 ?_
      refine er_bipush (by decide) d_M_joinTiles_39 ?_
      refine er_iload_n rfl rfl d_M_joinTiles_41 ?_
      refine er_iadd d_M_joinTiles_42 ?_
      refine er_bipush (by decide) d_M_joinTiles_43 ?_
      refine er_iload rfl d_M_joinTiles_45 ?_
      refine er_iadd d_M_joinTiles_47 ?_
      refine er_iload rfl d_M_joinTiles_48 ?_
      refine er_cVV (As := [.inl (87 + p3), .inl (38 + p4), .inl (((m 84 2) + 0) + 0)]) (st := []) ml_M_112 mw_M_join md_M_join ⟨rfl, rfl⟩ rfl (Nat.le_of_ble_eq_true rfl) sh_83 rfl ⟨(Nat.le_of_ble_eq_true rfl), (Nat.le_of_ble_eq_true rfl)⟩ rfl d_M_joinTiles_50 h (fun m9 h => ?_)
      refine er_aload_n rfl rfl d_M_joinTiles_53 ?_
      refine er_bipush (by decide) d_M_joinTiles_54 ?_
      refine er_iload rfl d_M_joinTiles_56 ?_
      refine er_iadd d_M_joinTiles_58 ?_
      refine er_bipush (by decide) d_M_joinTiles_59 ?_
      refine er_iload_n rfl rfl d_M_joinTiles_61 ?_
      refine er_iadd d_M_joinTiles_62 ?_
      refine er_iload rfl d_M_joinTiles_63 ?_
      refine er_cVV (As := [.inl (87 + p4), .inl (38 + p3), .inl (((m 84 2) + 0) + 0)]) (st := []) ml_M_112 mw_M_join md_M_join ⟨rfl, rfl⟩ rfl (Nat.le_of_ble_eq_true rfl) sh_83 rfl ⟨(Nat.le_of_ble_eq_true rfl), (Nat.le_of_ble_eq_true rfl)⟩ rfl d_M_joinTiles_65 h (fun m10 h => ?_)
      exact er_vretE rfl rfl d_M_joinTiles_68 h
    · have h := h.2 c8
      refine er_iconst d_M_joinTiles_30 ?_
      refine er_goto (tgt := 35) (by decide) d_M_joinTiles_31 ?_
      refine er_iadd d_M_joinTiles_35 ?_
      refine er_istF (Nat.le_of_ble_eq_true rfl) (ls2 := [some (.inr 83), some (.inl p1), some (.inl p2), some (.inl p3), some (.inl p4), some (.inl (((m 84 2) + 0) + 1))]) rfl d_M_joinTiles_36 ?_
      refine er_aload_n rfl rfl d_M_joinTiles_38 ?_
      refine er_bipush (by decide) d_M_joinTiles_39 ?_
      refine er_iload_n rfl rfl d_M_joinTiles_41 ?_
      refine er_iadd d_M_joinTiles_42 ?_
      refine er_bipush (by decide) d_M_joinTiles_43 ?_
      refine er_iload rfl d_M_joinTiles_45 ?_
      refine er_iadd d_M_joinTiles_47 ?_
      refine er_iload rfl d_M_joinTiles_48 ?_
      refine er_cVV (As := [.inl (87 + p3), .inl (38 + p4), .inl (((m 84 2) + 0) + 1)]) (st := []) ml_M_112 mw_M_join md_M_join ⟨rfl, rfl⟩ rfl (Nat.le_of_ble_eq_true rfl) sh_83 rfl ⟨(Nat.le_of_ble_eq_true rfl), (Nat.le_of_ble_eq_true rfl)⟩ rfl d_M_joinTiles_50 h (fun m11 h => ?_)
      refine er_aload_n rfl rfl d_M_joinTiles_53 ?_
      refine er_bipush (by decide) d_M_joinTiles_54 ?_
      refine er_iload rfl d_M_joinTiles_56 ?_
      refine er_iadd d_M_joinTiles_58 ?_
      refine er_bipush (by decide) d_M_joinTiles_59 ?_
      refine er_iload_n rfl rfl d_M_joinTiles_61 ?_
      refine er_iadd d_M_joinTiles_62 ?_
      refine er_iload rfl d_M_joinTiles_63 ?_
      refine er_cVV (As := [.inl (87 + p4), .inl (38 + p3), .inl (((m 84 2) + 0) + 1)]) (st := []) ml_M_112 mw_M_join md_M_join ⟨rfl, rfl⟩ rfl (Nat.le_of_ble_eq_true rfl) sh_83 rfl ⟨(Nat.le_of_ble_eq_true rfl), (Nat.le_of_ble_eq_true rfl)⟩ rfl d_M_joinTiles_65 h (fun m12 h => ?_)
      exact er_vretE rfl rfl d_M_joinTiles_68 h
  · have h := h.2 c4
    refine er_iconst d_M_joinTiles_15 ?_
    refine er_goto (tgt := 20) (by decide) d_M_joinTiles_16 ?_
    refine er_iadd d_M_joinTiles_20 ?_
    refine er_aload_n rfl rfl d_M_joinTiles_21 ?_
    refine er_getR fl_M_38 sh_83 (by decide) rfl (by decide) d_M_joinTiles_22 ?_
    refine er_iload_n rfl rfl d_M_joinTiles_25 ?_
    obtain ⟨a13, a14, h⟩ := h
    refine er_zald sh_93 (by decide) a13 a14 d_M_joinTiles_26 ?_
    obtain ⟨a15, h⟩ := h
    refine er_if_eq (tgt := 34) (by decide) a15 d_M_joinTiles_27 (fun c16 => ?_) (fun c16 => ?_)
    · have h := h.1 c16
      refine er_iconst d_M_joinTiles_34 ?_
      refine er_iadd d_M_joinTiles_35 ?_
      refine er_istF (Nat.le_of_ble_eq_true rfl) (ls2 := [some (.inr 83), some (.inl p1), some (.inl p2), some (.inl p3), some (.inl p4), some (.inl (((m 84 2) + 1) + 0))]) rfl d_M_joinTiles_36 ?_
      refine er_aload_n rfl rfl d_M_joinTiles_38 ?_
      refine er_bipush (by decide) d_M_joinTiles_39 ?_
      refine er_iload_n rfl rfl d_M_joinTiles_41 ?_
      refine er_iadd d_M_joinTiles_42 ?_
      refine er_bipush (by decide) d_M_joinTiles_43 ?_
      refine er_iload rfl d_M_joinTiles_45 ?_
      refine er_iadd d_M_joinTiles_47 ?_
      refine er_iload rfl d_M_joinTiles_48 ?_
      refine er_cVV (As := [.inl (87 + p3), .inl (38 + p4), .inl (((m 84 2) + 1) + 0)]) (st := []) ml_M_112 mw_M_join md_M_join ⟨rfl, rfl⟩ rfl (Nat.le_of_ble_eq_true rfl) sh_83 rfl ⟨(Nat.le_of_ble_eq_true rfl), (Nat.le_of_ble_eq_true rfl)⟩ rfl d_M_joinTiles_50 h (fun m17 h => ?_)
      refine er_aload_n rfl rfl d_M_joinTiles_53 ?_
      refine er_bipush (by decide) d_M_joinTiles_54 ?_
      refine er_iload rfl d_M_joinTiles_56 ?_
      refine er_iadd d_M_joinTiles_58 ?_
      refine er_bipush (by decide) d_M_joinTiles_59 ?_
      refine er_iload_n rfl rfl d_M_joinTiles_61 ?_
      refine er_iadd d_M_joinTiles_62 ?_
      refine er_iload rfl d_M_joinTiles_63 ?_
      refine er_cVV (As := [.inl (87 + p4), .inl (38 + p3), .inl (((m 84 2) + 1) + 0)]) (st := []) ml_M_112 mw_M_join md_M_join ⟨rfl, rfl⟩ rfl (Nat.le_of_ble_eq_true rfl) sh_83 rfl ⟨(Nat.le_of_ble_eq_true rfl), (Nat.le_of_ble_eq_true rfl)⟩ rfl d_M_joinTiles_65 h (fun m18 h => ?_)
      exact er_vretE rfl rfl d_M_joinTiles_68 h
    · have h := h.2 c16
      refine er_iconst d_M_joinTiles_30 ?_
      refine er_goto (tgt := 35) (by decide) d_M_joinTiles_31 ?_
      refine er_iadd d_M_joinTiles_35 ?_
      refine er_istF (Nat.le_of_ble_eq_true rfl) (ls2 := [some (.inr 83), some (.inl p1), some (.inl p2), some (.inl p3), some (.inl p4), some (.inl (((m 84 2) + 1) + 1))]) rfl d_M_joinTiles_36 ?_
      refine er_aload_n rfl rfl d_M_joinTiles_38 ?_
      refine er_bipush (by decide) d_M_joinTiles_39 ?_
      refine er_iload_n rfl rfl d_M_joinTiles_41 ?_
      refine er_iadd d_M_joinTiles_42 ?_
      refine er_bipush (by decide) d_M_joinTiles_43 ?_
      refine er_iload rfl d_M_joinTiles_45 ?_
      refine er_iadd d_M_joinTiles_47 ?_
      refine er_iload rfl d_M_joinTiles_48 ?_
      refine er_cVV (As := [.inl (87 + p3), .inl (38 + p4), .inl (((m 84 2) + 1) + 1)]) (st := []) ml_M_112 mw_M_join md_M_join ⟨rfl, rfl⟩ rfl (Nat.le_of_ble_eq_true rfl) sh_83 rfl ⟨(Nat.le_of_ble_eq_true rfl), (Nat.le_of_ble_eq_true rfl)⟩ rfl d_M_joinTiles_50 h (fun m19 h => ?_)
      refine er_aload_n rfl rfl d_M_joinTiles_53 ?_
      refine er_bipush (by decide) d_M_joinTiles_54 ?_
      refine er_iload rfl d_M_joinTiles_56 ?_
      refine er_iadd d_M_joinTiles_58 ?_
      refine er_bipush (by decide) d_M_joinTiles_59 ?_
      refine er_iload_n rfl rfl d_M_joinTiles_61 ?_
      refine er_iadd d_M_joinTiles_62 ?_
      refine er_iload rfl d_M_joinTiles_63 ?_
      refine er_cVV (As := [.inl (87 + p4), .inl (38 + p3), .inl (((m 84 2) + 1) + 1)]) (st := []) ml_M_112 mw_M_join md_M_join ⟨rfl, rfl⟩ rfl (Nat.le_of_ble_eq_true rfl) sh_83 rfl ⟨(Nat.le_of_ble_eq_true rfl), (Nat.le_of_ble_eq_true rfl)⟩ rfl d_M_joinTiles_65 h (fun m20 h => ?_)
      exact er_vretE rfl rfl d_M_joinTiles_68 h
def wp_M_isRim_28 (K : er_K) (m : er_M) (Q : Int → er_M → Prop) : Prop := er_WP K mi_M_isRim 0 0 er_SH m 28 [none, none, none] [] (er_Z K mi_M_isRim (er_PI Q))
theorem vc_M_isRim_28 {K : er_K} {m : er_M} {Q : Int → er_M → Prop}  (h : Q 1 m) : wp_M_isRim_28 K m Q := by
  show er_WP K mi_M_isRim 0 0 er_SH m 28 [none, none, none] [] _
  refine er_iconst d_M_isRim_28 ?_
  refine er_goto (tgt := 33) (by decide) d_M_isRim_29 ?_
  exact er_zretE rfl (Or.inr rfl) rfl d_M_isRim_33 h
theorem vc_M_isRim {K : er_K} {p1 p2 : Int} {m : er_M} {Q : Int → er_M → Prop}  (h : (er_in p1) ∧ (((p1 = 0 → wp_M_isRim_28 K m Q) ∧ (p1 ≠ 0 → (er_in (m 84 0)) ∧ (((p1 = (m 84 0) → wp_M_isRim_28 K m Q) ∧ (p1 ≠ (m 84 0) → (er_in p2) ∧ (((p2 = 0 → wp_M_isRim_28 K m Q) ∧ (p2 ≠ 0 → (er_in (m 84 1)) ∧ (((p2 ≠ (m 84 1) → Q 0 m) ∧ (p2 = (m 84 1) → wp_M_isRim_28 K m Q))))))))))))) : er_SI K mi_M_isRim [.inr 83, .inl p1, .inl p2] m Q := by
  refine er_start (by decide) (Nat.le_of_ble_eq_true rfl) ?_
  show er_WP K mi_M_isRim 0 0 er_SH m 0 [some (.inr 83), some (.inl p1), some (.inl p2)] [] _
  refine er_iload_n rfl rfl d_M_isRim_0 ?_
  obtain ⟨a1, h⟩ := h
  refine er_if_eq (tgt := 28) (by decide) a1 d_M_isRim_1 (fun c2 => ?_) (fun c2 => ?_)
  · have h := h.1 c2
    exact er_forget [none, none, none] trivial h
  · have h := h.2 c2
    refine er_iload_n rfl rfl d_M_isRim_4 ?_
    refine er_aload_n rfl rfl d_M_isRim_5 ?_
    refine er_getR fl_M_7 sh_83 (by decide) rfl (by decide) d_M_isRim_6 ?_
    refine er_iconst d_M_isRim_9 ?_
    refine er_iald sh_84 (by decide) (by decide) (by decide) d_M_isRim_10 ?_
    obtain ⟨a3, h⟩ := h
    refine er_icmp_eq (tgt := 28) (by decide) a1 a3 d_M_isRim_11 (fun c4 => ?_) (fun c4 => ?_)
    · have h := h.1 c4
      exact er_forget [none, none, none] trivial h
    · have h := h.2 c4
      refine er_iload_n rfl rfl d_M_isRim_14 ?_
      obtain ⟨a5, h⟩ := h
      refine er_if_eq (tgt := 28) (by decide) a5 d_M_isRim_15 (fun c6 => ?_) (fun c6 => ?_)
      · have h := h.1 c6
        exact er_forget [none, none, none] trivial h
      · have h := h.2 c6
        refine er_iload_n rfl rfl d_M_isRim_18 ?_
        refine er_aload_n rfl rfl d_M_isRim_19 ?_
        refine er_getR fl_M_7 sh_83 (by decide) rfl (by decide) d_M_isRim_20 ?_
        refine er_iconst d_M_isRim_23 ?_
        refine er_iald sh_84 (by decide) (by decide) (by decide) d_M_isRim_24 ?_
        obtain ⟨a7, h⟩ := h
        refine er_icmp_ne (tgt := 32) (by decide) a5 a7 d_M_isRim_25 (fun c8 => ?_) (fun c8 => ?_)
        · have h := h.1 c8
          refine er_iconst d_M_isRim_32 ?_
          exact er_zretE rfl (Or.inl rfl) rfl d_M_isRim_33 h
        · have h := h.2 c8
          exact er_forget [none, none, none] trivial h
def wp_M_lay_7 (K : er_K) (x1 : Int) (m : er_M) (Q : er_M → Prop) : Prop := er_WP K mi_M_lay 0 0 er_SH m 7 [some (.inr 83), some (.inl x1), none, none] [] (er_Z K mi_M_lay (er_PV Q))
def wp_M_lay_30 (K : er_K) (x1 : Int) (m : er_M) (Q : er_M → Prop) : Prop := er_WP K mi_M_lay 0 0 er_SH m 30 [some (.inr 83), some (.inl x1), none, none] [] (er_Z K mi_M_lay (er_PV Q))
def wp_M_lay_42 (K : er_K) (x1 : Int) (x2 : Int) (m : er_M) (Q : er_M → Prop) : Prop := er_WP K mi_M_lay 0 0 er_SH m 42 [some (.inr 83), some (.inl x1), some (.inl x2), none] [] (er_Z K mi_M_lay (er_PV Q))
def wp_M_lay_116 (K : er_K) (x1 : Int) (m : er_M) (Q : er_M → Prop) : Prop := er_WP K mi_M_lay 0 0 er_SH m 116 [some (.inr 83), some (.inl x1), none, none] [] (er_Z K mi_M_lay (er_PV Q))
def wp_M_lay_128 (K : er_K) (x1 : Int) (x2 : Int) (m : er_M) (Q : er_M → Prop) : Prop := er_WP K mi_M_lay 0 0 er_SH m 128 [some (.inr 83), some (.inl x1), some (.inl x2), none] [] (er_Z K mi_M_lay (er_PV Q))
def wp_M_lay_181 (K : er_K) (x1 : Int) (x2 : Int) (x3 : Int) (m : er_M) (Q : er_M → Prop) : Prop := er_WP K mi_M_lay 0 0 er_SH m 181 [some (.inr 83), some (.inl x1), some (.inl x2), some (.inl x3)] [] (er_Z K mi_M_lay (er_PV Q))
theorem vc_M_lay_7 {K : er_K} {x1 : Int} {m : er_M} {Q : er_M → Prop}  (h : (er_in x1) ∧ (((136 ≤ x1 → wp_M_lay_30 K 0 m Q) ∧ (x1 < 136 → (0 ≤ x1) ∧ (x1 < 136) ∧ (∀ m5 : er_M, m5 = er_st m 91 x1 (-9) → wp_M_lay_7 K (x1 + 1) m5 Q))))) : wp_M_lay_7 K x1 m Q := by
  show er_WP K mi_M_lay 0 0 er_SH m 7 [some (.inr 83), some (.inl x1), none, none] [] _
  refine er_iload_n rfl rfl d_M_lay_7 ?_
  refine er_sipush (by decide) d_M_lay_8 ?_
  obtain ⟨a1, h⟩ := h
  refine er_icmp_ge (tgt := 28) (by decide) a1 (by decide) d_M_lay_11 (fun c2 => ?_) (fun c2 => ?_)
  · have h := h.1 c2
    refine er_iconst d_M_lay_28 ?_
    refine er_istE 1 rfl (Nat.le_of_ble_eq_true rfl) (ls2 := [some (.inr 83), some (.inl 0), none, none]) rfl d_M_lay_29 ?_
    exact er_forget [some (.inr 83), some (.inl 0), none, none] (And.intro rfl (And.intro rfl trivial)) h
  · have h := h.2 c2
    refine er_aload_n rfl rfl d_M_lay_14 ?_
    refine er_getR fl_M_32 sh_83 (by decide) rfl (by decide) d_M_lay_15 ?_
    refine er_iload_n rfl rfl d_M_lay_18 ?_
    refine er_bipush (by decide) d_M_lay_19 ?_
    obtain ⟨a3, a4, h⟩ := h
    refine er_iastE sh_91 (by decide) a3 a4 d_M_lay_21 (fun m5 hm => ?_)
    have h := h m5 hm
    refine er_incE (ls2 := [some (.inr 83), some (.inl (x1 + 1)), none, none]) rfl (Nat.le_of_ble_eq_true rfl) rfl d_M_lay_22 ?_
    refine er_goto (tgt := 7) (by decide) d_M_lay_25 ?_
    exact er_forget [some (.inr 83), some (.inl (x1 + 1)), none, none] (And.intro rfl (And.intro rfl trivial)) h
theorem vc_M_lay_30 {K : er_K} {x1 : Int} {m : er_M} {Q : er_M → Prop}  (h : (er_in x1) ∧ (er_in (m 84 0)) ∧ ((((m 84 0) < x1 → wp_M_lay_116 K 0 m Q) ∧ (x1 ≤ (m 84 0) → wp_M_lay_42 K x1 0 m Q)))) : wp_M_lay_30 K x1 m Q := by
  show er_WP K mi_M_lay 0 0 er_SH m 30 [some (.inr 83), some (.inl x1), none, none] [] _
  refine er_iload_n rfl rfl d_M_lay_30 ?_
  refine er_aload_n rfl rfl d_M_lay_31 ?_
  refine er_getR fl_M_7 sh_83 (by decide) rfl (by decide) d_M_lay_32 ?_
  refine er_iconst d_M_lay_35 ?_
  refine er_iald sh_84 (by decide) (by decide) (by decide) d_M_lay_36 ?_
  obtain ⟨a1, a2, h⟩ := h
  refine er_icmp_gt (tgt := 114) (by decide) a1 a2 d_M_lay_37 (fun c3 => ?_) (fun c3 => ?_)
  · have h := h.1 c3
    refine er_iconst d_M_lay_114 ?_
    refine er_istE 1 rfl (Nat.le_of_ble_eq_true rfl) (ls2 := [some (.inr 83), some (.inl 0), none, none]) rfl d_M_lay_115 ?_
    exact er_forget [some (.inr 83), some (.inl 0), none, none] (And.intro rfl (And.intro rfl trivial)) h
  · have h := h.2 c3
    refine er_iconst d_M_lay_40 ?_
    refine er_istE 2 rfl (Nat.le_of_ble_eq_true rfl) (ls2 := [some (.inr 83), some (.inl x1), some (.inl 0), none]) rfl d_M_lay_41 ?_
    exact er_forget [some (.inr 83), some (.inl x1), some (.inl 0), none] (And.intro rfl (And.intro rfl (And.intro rfl trivial))) h
theorem vc_M_lay_42 {K : er_K} {x1 : Int} {x2 : Int} {m : er_M} {Q : er_M → Prop}  (h : (er_in x2) ∧ (er_in (m 84 1)) ∧ ((((m 84 1) < x2 → wp_M_lay_30 K (x1 + 1) m Q) ∧ (x2 ≤ (m 84 1) → er_SI K mi_M_tile [.inl x1, .inl x2] m (fun v5 m4 => er_SI K mi_M_tile [.inl x1, .inl x2] m4 (fun v7 m6 => er_SV K mi_M_join [.inr 83, .inl (38 + v5), .inl (87 + v7), .inl (m6 84 3)] m6 (fun m8 => er_SI K mi_M_isRim [.inr 83, .inl x1, .inl x2] m8 (fun v10 m9 => (er_in v10) ∧ (((v10 = 0 → wp_M_lay_42 K x1 (x2 + 1) m9 Q) ∧ (v10 ≠ 0 → er_SI K mi_M_tile [.inl x1, .inl x2] m9 (fun v14 m13 => er_SV K mi_M_join [.inr 83, .inl (87 + v14), .inl 1, .inl 100000] m13 (fun m15 => wp_M_lay_42 K x1 (x2 + 1) m15 Q))))))))))))) : wp_M_lay_42 K x1 x2 m Q := by
  show er_WP K mi_M_lay 0 0 er_SH m 42 [some (.inr 83), some (.inl x1), some (.inl x2), none] [] _
  refine er_iload_n rfl rfl d_M_lay_42 ?_
  refine er_aload_n rfl rfl d_M_lay_43 ?_
  refine er_getR fl_M_7 sh_83 (by decide) rfl (by decide) d_M_lay_44 ?_
  refine er_iconst d_M_lay_47 ?_
  refine er_iald sh_84 (by decide) (by decide) (by decide) d_M_lay_48 ?_
  obtain ⟨a1, a2, h⟩ := h
  refine er_icmp_gt (tgt := 108) (by decide) a1 a2 d_M_lay_49 (fun c3 => ?_) (fun c3 => ?_)
  · have h := h.1 c3
    refine er_incE (ls2 := [some (.inr 83), some (.inl (x1 + 1)), some (.inl x2), none]) rfl (Nat.le_of_ble_eq_true rfl) rfl d_M_lay_108 ?_
    refine er_goto (tgt := 30) (by decide) d_M_lay_111 ?_
    exact er_forget [some (.inr 83), some (.inl (x1 + 1)), none, none] (And.intro rfl (And.intro rfl trivial)) h
  · have h := h.2 c3
    refine er_aload_n rfl rfl d_M_lay_52 ?_
    refine er_bipush (by decide) d_M_lay_53 ?_
    refine er_iload_n rfl rfl d_M_lay_55 ?_
    refine er_iload_n rfl rfl d_M_lay_56 ?_
    refine er_cS (As := [.inl x1, .inl x2]) (st := [.inl 38, .inr 83]) ml_M_115 rfl mw_M_tile md_M_tile ⟨rfl, rfl⟩ rfl (Nat.le_of_ble_eq_true rfl) ⟨(Nat.le_of_ble_eq_true rfl), (Nat.le_of_ble_eq_true rfl)⟩ rfl d_M_lay_57 h (fun v5 m4 h => ?_)
    refine er_iadd d_M_lay_60 ?_
    refine er_bipush (by decide) d_M_lay_61 ?_
    refine er_iload_n rfl rfl d_M_lay_63 ?_
    refine er_iload_n rfl rfl d_M_lay_64 ?_
    refine er_cS (As := [.inl x1, .inl x2]) (st := [.inl 87, .inl (38 + v5), .inr 83]) ml_M_115 rfl mw_M_tile md_M_tile ⟨rfl, rfl⟩ rfl (Nat.le_of_ble_eq_true rfl) ⟨(Nat.le_of_ble_eq_true rfl), (Nat.le_of_ble_eq_true rfl)⟩ rfl d_M_lay_65 h (fun v7 m6 h => ?_)
    refine er_iadd d_M_lay_68 ?_
    refine er_aload_n rfl rfl d_M_lay_69 ?_
    refine er_getR fl_M_7 sh_83 (by decide) rfl (by decide) d_M_lay_70 ?_
    refine er_iconst d_M_lay_73 ?_
    refine er_iald sh_84 (by decide) (by decide) (by decide) d_M_lay_74 ?_
    refine er_cVV (As := [.inl (38 + v5), .inl (87 + v7), .inl (m6 84 3)]) (st := []) ml_M_112 mw_M_join md_M_join ⟨rfl, rfl⟩ rfl (Nat.le_of_ble_eq_true rfl) sh_83 rfl ⟨(Nat.le_of_ble_eq_true rfl), (Nat.le_of_ble_eq_true rfl)⟩ rfl d_M_lay_75 h (fun m8 h => ?_)
    refine er_aload_n rfl rfl d_M_lay_78 ?_
    refine er_iload_n rfl rfl d_M_lay_79 ?_
    refine er_iload_n rfl rfl d_M_lay_80 ?_
    refine er_cVI (As := [.inl x1, .inl x2]) (st := []) ml_M_119 mw_M_isRim md_M_isRim ⟨rfl, rfl⟩ rfl (Nat.le_of_ble_eq_true rfl) sh_83 rfl ⟨(Nat.le_of_ble_eq_true rfl), (Nat.le_of_ble_eq_true rfl)⟩ rfl d_M_lay_81 h (fun v10 m9 h => ?_)
    obtain ⟨a11, h⟩ := h
    refine er_if_eq (tgt := 102) (by decide) a11 d_M_lay_84 (fun c12 => ?_) (fun c12 => ?_)
    · have h := h.1 c12
      refine er_incE (ls2 := [some (.inr 83), some (.inl x1), some (.inl (x2 + 1)), none]) rfl (Nat.le_of_ble_eq_true rfl) rfl d_M_lay_102 ?_
      refine er_goto (tgt := 42) (by decide) d_M_lay_105 ?_
      exact er_forget [some (.inr 83), some (.inl x1), some (.inl (x2 + 1)), none] (And.intro rfl (And.intro rfl (And.intro rfl trivial))) h
    · have h := h.2 c12
      refine er_aload_n rfl rfl d_M_lay_87 ?_
      refine er_bipush (by decide) d_M_lay_88 ?_
      refine er_iload_n rfl rfl d_M_lay_90 ?_
      refine er_iload_n rfl rfl d_M_lay_91 ?_
      refine er_cS (As := [.inl x1, .inl x2]) (st := [.inl 87, .inr 83]) ml_M_115 rfl mw_M_tile md_M_tile ⟨rfl, rfl⟩ rfl (Nat.le_of_ble_eq_true rfl) ⟨(Nat.le_of_ble_eq_true rfl), (Nat.le_of_ble_eq_true rfl)⟩ rfl d_M_lay_92 h (fun v14 m13 h => ?_)
      refine er_iadd d_M_lay_95 ?_
      refine er_iconst d_M_lay_96 ?_
      refine er_ldc kc_M_122 d_M_lay_97 ?_
      refine er_cVV (As := [.inl (87 + v14), .inl 1, .inl 100000]) (st := []) ml_M_112 mw_M_join md_M_join ⟨rfl, rfl⟩ rfl (Nat.le_of_ble_eq_true rfl) sh_83 rfl ⟨(Nat.le_of_ble_eq_true rfl), (Nat.le_of_ble_eq_true rfl)⟩ rfl d_M_lay_99 h (fun m15 h => ?_)
      refine er_incE (ls2 := [some (.inr 83), some (.inl x1), some (.inl (x2 + 1)), none]) rfl (Nat.le_of_ble_eq_true rfl) rfl d_M_lay_102 ?_
      refine er_goto (tgt := 42) (by decide) d_M_lay_105 ?_
      exact er_forget [some (.inr 83), some (.inl x1), some (.inl (x2 + 1)), none] (And.intro rfl (And.intro rfl (And.intro rfl trivial))) h
theorem vc_M_lay_116 {K : er_K} {x1 : Int} {m : er_M} {Q : er_M → Prop}  (h : (er_in x1) ∧ (er_in (m 84 0)) ∧ ((((m 84 0) ≤ x1 → Q m) ∧ (x1 < (m 84 0) → wp_M_lay_128 K x1 0 m Q)))) : wp_M_lay_116 K x1 m Q := by
  show er_WP K mi_M_lay 0 0 er_SH m 116 [some (.inr 83), some (.inl x1), none, none] [] _
  refine er_iload_n rfl rfl d_M_lay_116 ?_
  refine er_aload_n rfl rfl d_M_lay_117 ?_
  refine er_getR fl_M_7 sh_83 (by decide) rfl (by decide) d_M_lay_118 ?_
  refine er_iconst d_M_lay_121 ?_
  refine er_iald sh_84 (by decide) (by decide) (by decide) d_M_lay_122 ?_
  obtain ⟨a1, a2, h⟩ := h
  refine er_icmp_ge (tgt := 230) (by decide) a1 a2 d_M_lay_123 (fun c3 => ?_) (fun c3 => ?_)
  · have h := h.1 c3
    exact er_vretE rfl rfl d_M_lay_230 h
  · have h := h.2 c3
    refine er_iconst d_M_lay_126 ?_
    refine er_istE 2 rfl (Nat.le_of_ble_eq_true rfl) (ls2 := [some (.inr 83), some (.inl x1), some (.inl 0), none]) rfl d_M_lay_127 ?_
    exact er_forget [some (.inr 83), some (.inl x1), some (.inl 0), none] (And.intro rfl (And.intro rfl (And.intro rfl trivial))) h
theorem vc_M_lay_128 {K : er_K} {x1 : Int} {x2 : Int} {m : er_M} {Q : er_M → Prop}  (h : (er_in x2) ∧ (er_in (m 84 1)) ∧ ((((m 84 1) ≤ x2 → wp_M_lay_116 K (x1 + 1) m Q) ∧ (x2 < (m 84 1) → (er_in (x2 + 1)) ∧ ((((m 84 1) ≤ (x2 + 1) → wp_M_lay_181 K x1 x2 ((6 * x1) + x2) m Q) ∧ ((x2 + 1) < (m 84 1) → er_SI K mi_M_tile [.inl x1, .inl (x2 + 1)] m (fun v7 m6 => er_SI K mi_M_tile [.inl (x1 + 1), .inl (x2 + 1)] m6 (fun v9 m8 => er_SV K mi_M_joinTiles [.inr 83, .inl ((6 * x1) + x2), .inl (((6 * x1) + x2) + 1), .inl v7, .inl v9] m8 (fun m10 => wp_M_lay_181 K x1 x2 ((6 * x1) + x2) m10 Q)))))))))) : wp_M_lay_128 K x1 x2 m Q := by
  show er_WP K mi_M_lay 0 0 er_SH m 128 [some (.inr 83), some (.inl x1), some (.inl x2), none] [] _
  refine er_iload_n rfl rfl d_M_lay_128 ?_
  refine er_aload_n rfl rfl d_M_lay_129 ?_
  refine er_getR fl_M_7 sh_83 (by decide) rfl (by decide) d_M_lay_130 ?_
  refine er_iconst d_M_lay_133 ?_
  refine er_iald sh_84 (by decide) (by decide) (by decide) d_M_lay_134 ?_
  obtain ⟨a1, a2, h⟩ := h
  refine er_icmp_ge (tgt := 224) (by decide) a1 a2 d_M_lay_135 (fun c3 => ?_) (fun c3 => ?_)
  · have h := h.1 c3
    refine er_incE (ls2 := [some (.inr 83), some (.inl (x1 + 1)), some (.inl x2), none]) rfl (Nat.le_of_ble_eq_true rfl) rfl d_M_lay_224 ?_
    refine er_goto (tgt := 116) (by decide) d_M_lay_227 ?_
    exact er_forget [some (.inr 83), some (.inl (x1 + 1)), none, none] (And.intro rfl (And.intro rfl trivial)) h
  · have h := h.2 c3
    refine er_bipush (by decide) d_M_lay_138 ?_
    refine er_iload_n rfl rfl d_M_lay_140 ?_
    refine er_imul d_M_lay_141 ?_
    refine er_iload_n rfl rfl d_M_lay_142 ?_
    refine er_iadd d_M_lay_143 ?_
    refine er_istE 3 rfl (Nat.le_of_ble_eq_true rfl) (ls2 := [some (.inr 83), some (.inl x1), some (.inl x2), some (.inl ((6 * x1) + x2))]) rfl d_M_lay_144 ?_
    refine er_iload_n rfl rfl d_M_lay_145 ?_
    refine er_iconst d_M_lay_146 ?_
    refine er_iadd d_M_lay_147 ?_
    refine er_aload_n rfl rfl d_M_lay_148 ?_
    refine er_getR fl_M_7 sh_83 (by decide) rfl (by decide) d_M_lay_149 ?_
    refine er_iconst d_M_lay_152 ?_
    refine er_iald sh_84 (by decide) (by decide) (by decide) d_M_lay_153 ?_
    obtain ⟨a4, h⟩ := h
    refine er_icmp_ge (tgt := 181) (by decide) a4 a2 d_M_lay_154 (fun c5 => ?_) (fun c5 => ?_)
    · have h := h.1 c5
      exact er_forget [some (.inr 83), some (.inl x1), some (.inl x2), some (.inl ((6 * x1) + x2))] (And.intro rfl (And.intro rfl (And.intro rfl (And.intro rfl trivial)))) h
    · have h := h.2 c5
      refine er_aload_n rfl rfl d_M_lay_157 ?_
      refine er_iload_n rfl rfl d_M_lay_158 ?_
      refine er_iload_n rfl rfl d_M_lay_159 ?_
      refine er_iconst d_M_lay_160 ?_
      refine er_iadd d_M_lay_161 ?_
      refine er_iload_n rfl rfl d_M_lay_162 ?_
      refine er_iload_n rfl rfl d_M_lay_163 ?_
      refine er_iconst d_M_lay_164 ?_
      refine er_iadd d_M_lay_165 ?_
      refine er_cS (As := [.inl x1, .inl (x2 + 1)]) (st := [.inl (((6 * x1) + x2) + 1), .inl ((6 * x1) + x2), .inr 83]) ml_M_115 rfl mw_M_tile md_M_tile ⟨rfl, rfl⟩ rfl (Nat.le_of_ble_eq_true rfl) ⟨(Nat.le_of_ble_eq_true rfl), (Nat.le_of_ble_eq_true rfl)⟩ rfl d_M_lay_166 h (fun v7 m6 h => ?_)
      refine er_iload_n rfl rfl d_M_lay_169 ?_
      refine er_iconst d_M_lay_170 ?_
      refine er_iadd d_M_lay_171 ?_
      refine er_iload_n rfl rfl d_M_lay_172 ?_
      refine er_iconst d_M_lay_173 ?_
      refine er_iadd d_M_lay_174 ?_
      refine er_cS (As := [.inl (x1 + 1), .inl (x2 + 1)]) (st := [.inl v7, .inl (((6 * x1) + x2) + 1), .inl ((6 * x1) + x2), .inr 83]) ml_M_115 rfl mw_M_tile md_M_tile ⟨rfl, rfl⟩ rfl (Nat.le_of_ble_eq_true rfl) ⟨(Nat.le_of_ble_eq_true rfl), (Nat.le_of_ble_eq_true rfl)⟩ rfl d_M_lay_175 h (fun v9 m8 h => ?_)
      refine er_cVV (As := [.inl ((6 * x1) + x2), .inl (((6 * x1) + x2) + 1), .inl v7, .inl v9]) (st := []) ml_M_123 mw_M_joinTiles md_M_joinTiles ⟨rfl, rfl⟩ rfl (Nat.le_of_ble_eq_true rfl) sh_83 rfl ⟨(Nat.le_of_ble_eq_true rfl), (Nat.le_of_ble_eq_true rfl)⟩ rfl d_M_lay_178 h (fun m10 h => ?_)
      exact er_forget [some (.inr 83), some (.inl x1), some (.inl x2), some (.inl ((6 * x1) + x2))] (And.intro rfl (And.intro rfl (And.intro rfl (And.intro rfl trivial)))) h
theorem vc_M_lay_181 {K : er_K} {x1 : Int} {x2 : Int} {x3 : Int} {m : er_M} {Q : er_M → Prop}  (h : (er_in (x1 + 1)) ∧ (er_in (m 84 0)) ∧ ((((m 84 0) ≤ (x1 + 1) → wp_M_lay_128 K x1 (x2 + 1) m Q) ∧ ((x1 + 1) < (m 84 0) → er_SI K mi_M_tile [.inl (x1 + 1), .inl x2] m (fun v5 m4 => er_SI K mi_M_tile [.inl (x1 + 1), .inl (x2 + 1)] m4 (fun v7 m6 => er_SV K mi_M_joinTiles [.inr 83, .inl x3, .inl (x3 + 6), .inl v5, .inl v7] m6 (fun m8 => wp_M_lay_128 K x1 (x2 + 1) m8 Q))))))) : wp_M_lay_181 K x1 x2 x3 m Q := by
  show er_WP K mi_M_lay 0 0 er_SH m 181 [some (.inr 83), some (.inl x1), some (.inl x2), some (.inl x3)] [] _
  refine er_iload_n rfl rfl d_M_lay_181 ?_
  refine er_iconst d_M_lay_182 ?_
  refine er_iadd d_M_lay_183 ?_
  refine er_aload_n rfl rfl d_M_lay_184 ?_
  refine er_getR fl_M_7 sh_83 (by decide) rfl (by decide) d_M_lay_185 ?_
  refine er_iconst d_M_lay_188 ?_
  refine er_iald sh_84 (by decide) (by decide) (by decide) d_M_lay_189 ?_
  obtain ⟨a1, a2, h⟩ := h
  refine er_icmp_ge (tgt := 218) (by decide) a1 a2 d_M_lay_190 (fun c3 => ?_) (fun c3 => ?_)
  · have h := h.1 c3
    refine er_incE (ls2 := [some (.inr 83), some (.inl x1), some (.inl (x2 + 1)), some (.inl x3)]) rfl (Nat.le_of_ble_eq_true rfl) rfl d_M_lay_218 ?_
    refine er_goto (tgt := 128) (by decide) d_M_lay_221 ?_
    exact er_forget [some (.inr 83), some (.inl x1), some (.inl (x2 + 1)), none] (And.intro rfl (And.intro rfl (And.intro rfl trivial))) h
  · have h := h.2 c3
    refine er_aload_n rfl rfl d_M_lay_193 ?_
    refine er_iload_n rfl rfl d_M_lay_194 ?_
    refine er_iload_n rfl rfl d_M_lay_195 ?_
    refine er_bipush (by decide) d_M_lay_196 ?_
    refine er_iadd d_M_lay_198 ?_
    refine er_iload_n rfl rfl d_M_lay_199 ?_
    refine er_iconst d_M_lay_200 ?_
    refine er_iadd d_M_lay_201 ?_
    refine er_iload_n rfl rfl d_M_lay_202 ?_
    refine er_cS (As := [.inl (x1 + 1), .inl x2]) (st := [.inl (x3 + 6), .inl x3, .inr 83]) ml_M_115 rfl mw_M_tile md_M_tile ⟨rfl, rfl⟩ rfl (Nat.le_of_ble_eq_true rfl) ⟨(Nat.le_of_ble_eq_true rfl), (Nat.le_of_ble_eq_true rfl)⟩ rfl d_M_lay_203 h (fun v5 m4 h => ?_)
    refine er_iload_n rfl rfl d_M_lay_206 ?_
    refine er_iconst d_M_lay_207 ?_
    refine er_iadd d_M_lay_208 ?_
    refine er_iload_n rfl rfl d_M_lay_209 ?_
    refine er_iconst d_M_lay_210 ?_
    refine er_iadd d_M_lay_211 ?_
    refine er_cS (As := [.inl (x1 + 1), .inl (x2 + 1)]) (st := [.inl v5, .inl (x3 + 6), .inl x3, .inr 83]) ml_M_115 rfl mw_M_tile md_M_tile ⟨rfl, rfl⟩ rfl (Nat.le_of_ble_eq_true rfl) ⟨(Nat.le_of_ble_eq_true rfl), (Nat.le_of_ble_eq_true rfl)⟩ rfl d_M_lay_212 h (fun v7 m6 h => ?_)
    refine er_cVV (As := [.inl x3, .inl (x3 + 6), .inl v5, .inl v7]) (st := []) ml_M_123 mw_M_joinTiles md_M_joinTiles ⟨rfl, rfl⟩ rfl (Nat.le_of_ble_eq_true rfl) sh_83 rfl ⟨(Nat.le_of_ble_eq_true rfl), (Nat.le_of_ble_eq_true rfl)⟩ rfl d_M_lay_215 h (fun m8 h => ?_)
    refine er_incE (ls2 := [some (.inr 83), some (.inl x1), some (.inl (x2 + 1)), some (.inl x3)]) rfl (Nat.le_of_ble_eq_true rfl) rfl d_M_lay_218 ?_
    refine er_goto (tgt := 128) (by decide) d_M_lay_221 ?_
    exact er_forget [some (.inr 83), some (.inl x1), some (.inl (x2 + 1)), none] (And.intro rfl (And.intro rfl (And.intro rfl trivial))) h
theorem vc_M_lay {K : er_K} {m : er_M} {Q : er_M → Prop}  (h : ∀ m1 : er_M, m1 = er_st m 83 13 0 → wp_M_lay_7 K 0 m1 Q) : er_SV K mi_M_lay [.inr 83] m Q := by
  refine er_start (by decide) (Nat.le_of_ble_eq_true rfl) ?_
  show er_WP K mi_M_lay 0 0 er_SH m 0 [some (.inr 83), none, none, none] [] _
  refine er_aload_n rfl rfl d_M_lay_0 ?_
  refine er_iconst d_M_lay_1 ?_
  refine er_putIE 13 rfl fl_M_105 sh_83 (by decide) rfl d_M_lay_2 (fun m1 hm => ?_)
  have h := h m1 hm
  refine er_iconst d_M_lay_5 ?_
  refine er_istE 1 rfl (Nat.le_of_ble_eq_true rfl) (ls2 := [some (.inr 83), some (.inl 0), none, none]) rfl d_M_lay_6 ?_
  exact er_forget [some (.inr 83), some (.inl 0), none, none] (And.intro rfl (And.intro rfl trivial)) h
def wp_M_layPin_11 (K : er_K) (x1 : Int) (x2 : Int) (x3 : Int) (m : er_M) (Q : er_M → Prop) : Prop := er_WP K mi_M_layPin 0 0 er_SH m 11 [some (.inr 83), some (.inl x1), some (.inl x2), some (.inl x3)] [] (er_Z K mi_M_layPin (er_PV Q))
theorem vc_M_layPin_11 {K : er_K} {x1 : Int} {x2 : Int} {x3 : Int} {m : er_M} {Q : er_M → Prop}  (h : (er_in x3) ∧ (((4 ≤ x3 → Q m) ∧ (x3 < 4 → (0 ≤ x1) ∧ (x1 < 2147483648) ∧ ((0 ≤ x3) ∧ (x3 < 2147483648) ∧ (er_SI K mi_M_tile [.inl ((x1 / 6) + (x3 / 2)), .inl ((x1 % 6) + (x3 % 2))] m (fun v8 m7 => er_SV K mi_M_join [.inr 83, .inl (2 + x1), .inl (38 + v8), .inl x2] m7 (fun m9 => wp_M_layPin_11 K x1 x2 (x3 + 1) m9 Q)))))))) : wp_M_layPin_11 K x1 x2 x3 m Q := by
  show er_WP K mi_M_layPin 0 0 er_SH m 11 [some (.inr 83), some (.inl x1), some (.inl x2), some (.inl x3)] [] _
  refine er_iload_n rfl rfl d_M_layPin_11 ?_
  refine er_iconst d_M_layPin_12 ?_
  obtain ⟨a1, h⟩ := h
  refine er_icmp_ge (tgt := 52) (by decide) a1 (by decide) d_M_layPin_13 (fun c2 => ?_) (fun c2 => ?_)
  · have h := h.1 c2
    exact er_vretE rfl rfl d_M_layPin_52 h
  · have h := h.2 c2
    refine er_aload_n rfl rfl d_M_layPin_16 ?_
    refine er_iconst d_M_layPin_17 ?_
    refine er_iload_n rfl rfl d_M_layPin_18 ?_
    refine er_iadd d_M_layPin_19 ?_
    refine er_bipush (by decide) d_M_layPin_20 ?_
    refine er_iload_n rfl rfl d_M_layPin_22 ?_
    refine er_bipush (by decide) d_M_layPin_23 ?_
    obtain ⟨a3, a4, h⟩ := h
    refine er_idiv a3 a4 (by decide) (by decide) d_M_layPin_25 ?_
    refine er_iload_n rfl rfl d_M_layPin_26 ?_
    refine er_iconst d_M_layPin_27 ?_
    obtain ⟨a5, a6, h⟩ := h
    refine er_idiv a5 a6 (by decide) (by decide) d_M_layPin_28 ?_
    refine er_iadd d_M_layPin_29 ?_
    refine er_iload_n rfl rfl d_M_layPin_30 ?_
    refine er_bipush (by decide) d_M_layPin_31 ?_
    refine er_irem a3 a4 (by decide) (by decide) d_M_layPin_33 ?_
    refine er_iload_n rfl rfl d_M_layPin_34 ?_
    refine er_iconst d_M_layPin_35 ?_
    refine er_irem a5 a6 (by decide) (by decide) d_M_layPin_36 ?_
    refine er_iadd d_M_layPin_37 ?_
    refine er_cS (As := [.inl ((x1 / 6) + (x3 / 2)), .inl ((x1 % 6) + (x3 % 2))]) (st := [.inl 38, .inl (2 + x1), .inr 83]) ml_M_115 rfl mw_M_tile md_M_tile ⟨rfl, rfl⟩ rfl (Nat.le_of_ble_eq_true rfl) ⟨(Nat.le_of_ble_eq_true rfl), (Nat.le_of_ble_eq_true rfl)⟩ rfl d_M_layPin_38 h (fun v8 m7 h => ?_)
    refine er_iadd d_M_layPin_41 ?_
    refine er_iload_n rfl rfl d_M_layPin_42 ?_
    refine er_cVV (As := [.inl (2 + x1), .inl (38 + v8), .inl x2]) (st := []) ml_M_112 mw_M_join md_M_join ⟨rfl, rfl⟩ rfl (Nat.le_of_ble_eq_true rfl) sh_83 rfl ⟨(Nat.le_of_ble_eq_true rfl), (Nat.le_of_ble_eq_true rfl)⟩ rfl d_M_layPin_43 h (fun m9 h => ?_)
    refine er_incE (ls2 := [some (.inr 83), some (.inl x1), some (.inl x2), some (.inl (x3 + 1))]) rfl (Nat.le_of_ble_eq_true rfl) rfl d_M_layPin_46 ?_
    refine er_goto (tgt := 11) (by decide) d_M_layPin_49 ?_
    exact er_forget [some (.inr 83), some (.inl x1), some (.inl x2), some (.inl (x3 + 1))] (And.intro rfl (And.intro rfl (And.intro rfl (And.intro rfl trivial)))) h
theorem vc_M_layPin {K : er_K} {p1 p2 : Int} {m : er_M} {Q : er_M → Prop}  (h : er_SV K mi_M_join [.inr 83, .inl 0, .inl (2 + p1), .inl p2] m (fun m1 => wp_M_layPin_11 K p1 p2 0 m1 Q)) : er_SV K mi_M_layPin [.inr 83, .inl p1, .inl p2] m Q := by
  refine er_start (by decide) (Nat.le_of_ble_eq_true rfl) ?_
  show er_WP K mi_M_layPin 0 0 er_SH m 0 [some (.inr 83), some (.inl p1), some (.inl p2), none] [] _
  refine er_aload_n rfl rfl d_M_layPin_0 ?_
  refine er_iconst d_M_layPin_1 ?_
  refine er_iconst d_M_layPin_2 ?_
  refine er_iload_n rfl rfl d_M_layPin_3 ?_
  refine er_iadd d_M_layPin_4 ?_
  refine er_iload_n rfl rfl d_M_layPin_5 ?_
  refine er_cVV (As := [.inl 0, .inl (2 + p1), .inl p2]) (st := []) ml_M_112 mw_M_join md_M_join ⟨rfl, rfl⟩ rfl (Nat.le_of_ble_eq_true rfl) sh_83 rfl ⟨(Nat.le_of_ble_eq_true rfl), (Nat.le_of_ble_eq_true rfl)⟩ rfl d_M_layPin_6 h (fun m1 h => ?_)
  refine er_iconst d_M_layPin_9 ?_
  refine er_istE 3 rfl (Nat.le_of_ble_eq_true rfl) (ls2 := [some (.inr 83), some (.inl p1), some (.inl p2), some (.inl 0)]) rfl d_M_layPin_10 ?_
  exact er_forget [some (.inr 83), some (.inl p1), some (.inl p2), some (.inl 0)] (And.intro rfl (And.intro rfl (And.intro rfl (And.intro rfl trivial)))) h
def wp_M_reach_2 (K : er_K) (x1 : Int) (m : er_M) (Q : er_M → Prop) : Prop := er_WP K mi_M_reach 0 0 er_SH m 2 [some (.inr 83), some (.inl x1), none, none] [] (er_Z K mi_M_reach (er_PV Q))
def wp_M_reach_40 (K : er_K) (x1 : Int) (x2 : Int) (m : er_M) (Q : er_M → Prop) : Prop := er_WP K mi_M_reach 0 0 er_SH m 40 [some (.inr 83), some (.inl x1), some (.inl x2), none] [] (er_Z K mi_M_reach (er_PV Q))
def wp_M_reach_57 (K : er_K) (x1 : Int) (x2 : Int) (x3 : Int) (m : er_M) (Q : er_M → Prop) : Prop := er_WP K mi_M_reach 0 0 er_SH m 57 [some (.inr 83), some (.inl x1), some (.inl x2), some (.inl x3)] [] (er_Z K mi_M_reach (er_PV Q))
def wp_M_reach_125 (K : er_K) (x1 : Int) (x2 : Int) (x3 : Int) (m : er_M) (Q : er_M → Prop) : Prop := er_WP K mi_M_reach 0 0 er_SH m 125 [some (.inr 83), some (.inl x1), some (.inl x2), some (.inl x3)] [] (er_Z K mi_M_reach (er_PV Q))
theorem vc_M_reach_2 {K : er_K} {x1 : Int} {m : er_M} {Q : er_M → Prop}  (h : (er_in x1) ∧ (((136 ≤ x1 → ∀ m3 : er_M, m3 = er_st m 96 0 1 → ∀ m4 : er_M, m4 = er_st m3 94 0 0 → wp_M_reach_40 K 1 0 m4 Q) ∧ (x1 < 136 → (0 ≤ x1) ∧ (x1 < 136) ∧ (∀ m7 : er_M, m7 = er_st m 96 x1 0 → wp_M_reach_2 K (x1 + 1) m7 Q))))) : wp_M_reach_2 K x1 m Q := by
  show er_WP K mi_M_reach 0 0 er_SH m 2 [some (.inr 83), some (.inl x1), none, none] [] _
  refine er_iload_n rfl rfl d_M_reach_2 ?_
  refine er_sipush (by decide) d_M_reach_3 ?_
  obtain ⟨a1, h⟩ := h
  refine er_icmp_ge (tgt := 22) (by decide) a1 (by decide) d_M_reach_6 (fun c2 => ?_) (fun c2 => ?_)
  · have h := h.1 c2
    refine er_aload_n rfl rfl d_M_reach_22 ?_
    refine er_getR fl_M_48 sh_83 (by decide) rfl (by decide) d_M_reach_23 ?_
    refine er_iconst d_M_reach_26 ?_
    refine er_iconst d_M_reach_27 ?_
    refine er_zastE sh_96 (by decide) (by decide) (by decide) (Or.inr rfl) d_M_reach_28 (fun m3 hm => ?_)
    have h := h m3 hm
    refine er_aload_n rfl rfl d_M_reach_29 ?_
    refine er_getR fl_M_42 sh_83 (by decide) rfl (by decide) d_M_reach_30 ?_
    refine er_iconst d_M_reach_33 ?_
    refine er_iconst d_M_reach_34 ?_
    refine er_iastE sh_94 (by decide) (by decide) (by decide) d_M_reach_35 (fun m4 hm => ?_)
    have h := h m4 hm
    refine er_iconst d_M_reach_36 ?_
    refine er_istE 1 rfl (Nat.le_of_ble_eq_true rfl) (ls2 := [some (.inr 83), some (.inl 1), none, none]) rfl d_M_reach_37 ?_
    refine er_iconst d_M_reach_38 ?_
    refine er_istE 2 rfl (Nat.le_of_ble_eq_true rfl) (ls2 := [some (.inr 83), some (.inl 1), some (.inl 0), none]) rfl d_M_reach_39 ?_
    exact er_forget [some (.inr 83), some (.inl 1), some (.inl 0), none] (And.intro rfl (And.intro rfl (And.intro rfl trivial))) h
  · have h := h.2 c2
    refine er_aload_n rfl rfl d_M_reach_9 ?_
    refine er_getR fl_M_48 sh_83 (by decide) rfl (by decide) d_M_reach_10 ?_
    refine er_iload_n rfl rfl d_M_reach_13 ?_
    refine er_iconst d_M_reach_14 ?_
    obtain ⟨a5, a6, h⟩ := h
    refine er_zastE sh_96 (by decide) a5 a6 (Or.inl rfl) d_M_reach_15 (fun m7 hm => ?_)
    have h := h m7 hm
    refine er_incE (ls2 := [some (.inr 83), some (.inl (x1 + 1)), none, none]) rfl (Nat.le_of_ble_eq_true rfl) rfl d_M_reach_16 ?_
    refine er_goto (tgt := 2) (by decide) d_M_reach_19 ?_
    exact er_forget [some (.inr 83), some (.inl (x1 + 1)), none, none] (And.intro rfl (And.intro rfl trivial)) h
theorem vc_M_reach_40 {K : er_K} {x1 : Int} {x2 : Int} {m : er_M} {Q : er_M → Prop}  (h : (er_in x2) ∧ (er_in x1) ∧ (((x1 ≤ x2 → Q m) ∧ (x2 < x1 → (0 ≤ x2) ∧ (x2 < 136) ∧ ((0 ≤ (m 94 x2)) ∧ ((m 94 x2) < 136) ∧ (wp_M_reach_57 K x1 x2 (m 91 (m 94 x2)) m Q)))))) : wp_M_reach_40 K x1 x2 m Q := by
  show er_WP K mi_M_reach 0 0 er_SH m 40 [some (.inr 83), some (.inl x1), some (.inl x2), none] [] _
  refine er_iload_n rfl rfl d_M_reach_40 ?_
  refine er_iload_n rfl rfl d_M_reach_41 ?_
  obtain ⟨a1, a2, h⟩ := h
  refine er_icmp_ge (tgt := 141) (by decide) a1 a2 d_M_reach_42 (fun c3 => ?_) (fun c3 => ?_)
  · have h := h.1 c3
    exact er_vretE rfl rfl d_M_reach_141 h
  · have h := h.2 c3
    refine er_aload_n rfl rfl d_M_reach_45 ?_
    refine er_getR fl_M_32 sh_83 (by decide) rfl (by decide) d_M_reach_46 ?_
    refine er_aload_n rfl rfl d_M_reach_49 ?_
    refine er_getR fl_M_42 sh_83 (by decide) rfl (by decide) d_M_reach_50 ?_
    refine er_iload_n rfl rfl d_M_reach_53 ?_
    obtain ⟨a4, a5, h⟩ := h
    refine er_iald sh_94 (by decide) a4 a5 d_M_reach_54 ?_
    obtain ⟨a6, a7, h⟩ := h
    refine er_iald sh_91 (by decide) a6 a7 d_M_reach_55 ?_
    refine er_istE 3 rfl (Nat.le_of_ble_eq_true rfl) (ls2 := [some (.inr 83), some (.inl x1), some (.inl x2), some (.inl (m 91 (m 94 x2)))]) rfl d_M_reach_56 ?_
    exact er_forget [some (.inr 83), some (.inl x1), some (.inl x2), some (.inl (m 91 (m 94 x2)))] (And.intro rfl (And.intro rfl (And.intro rfl (And.intro rfl trivial)))) h
theorem vc_M_reach_57 {K : er_K} {x1 : Int} {x2 : Int} {x3 : Int} {m : er_M} {Q : er_M → Prop}  (h : (er_in x3) ∧ (((x3 = (-9) → wp_M_reach_40 K x1 (x2 + 1) m Q) ∧ (x3 ≠ (-9) → (0 ≤ x3) ∧ (x3 < 760) ∧ ((er_in (m 90 x3)) ∧ ((((m 90 x3) ≤ 0 → wp_M_reach_125 K x1 x2 x3 m Q) ∧ (0 < (m 90 x3) → (0 ≤ (m 89 x3)) ∧ ((m 89 x3) < 136) ∧ ((er_in (m 96 (m 89 x3))) ∧ ((((m 96 (m 89 x3)) ≠ 0 → wp_M_reach_125 K x1 x2 x3 m Q) ∧ ((m 96 (m 89 x3)) = 0 → ∀ m11 : er_M, m11 = er_st m 96 (m 89 x3) 1 → (0 ≤ (m11 89 x3)) ∧ ((m11 89 x3) < 136) ∧ (∀ m14 : er_M, m14 = er_st m11 95 (m11 89 x3) x3 → (0 ≤ x1) ∧ (x1 < 136) ∧ (∀ m17 : er_M, m17 = er_st m14 94 x1 (m14 89 x3) → wp_M_reach_125 K (x1 + 1) x2 x3 m17 Q)))))))))))))) : wp_M_reach_57 K x1 x2 x3 m Q := by
  show er_WP K mi_M_reach 0 0 er_SH m 57 [some (.inr 83), some (.inl x1), some (.inl x2), some (.inl x3)] [] _
  refine er_iload_n rfl rfl d_M_reach_57 ?_
  refine er_bipush (by decide) d_M_reach_58 ?_
  obtain ⟨a1, h⟩ := h
  refine er_icmp_eq (tgt := 135) (by decide) a1 (by decide) d_M_reach_60 (fun c2 => ?_) (fun c2 => ?_)
  · have h := h.1 c2
    refine er_incE (ls2 := [some (.inr 83), some (.inl x1), some (.inl (x2 + 1)), some (.inl x3)]) rfl (Nat.le_of_ble_eq_true rfl) rfl d_M_reach_135 ?_
    refine er_goto (tgt := 40) (by decide) d_M_reach_138 ?_
    exact er_forget [some (.inr 83), some (.inl x1), some (.inl (x2 + 1)), none] (And.intro rfl (And.intro rfl (And.intro rfl trivial))) h
  · have h := h.2 c2
    refine er_aload_n rfl rfl d_M_reach_63 ?_
    refine er_getR fl_M_29 sh_83 (by decide) rfl (by decide) d_M_reach_64 ?_
    refine er_iload_n rfl rfl d_M_reach_67 ?_
    obtain ⟨a3, a4, h⟩ := h
    refine er_iald sh_90 (by decide) a3 a4 d_M_reach_68 ?_
    obtain ⟨a5, h⟩ := h
    refine er_if_le (tgt := 125) (by decide) a5 d_M_reach_69 (fun c6 => ?_) (fun c6 => ?_)
    · have h := h.1 c6
      exact er_forget [some (.inr 83), some (.inl x1), some (.inl x2), some (.inl x3)] (And.intro rfl (And.intro rfl (And.intro rfl (And.intro rfl trivial)))) h
    · have h := h.2 c6
      refine er_aload_n rfl rfl d_M_reach_72 ?_
      refine er_getR fl_M_48 sh_83 (by decide) rfl (by decide) d_M_reach_73 ?_
      refine er_aload_n rfl rfl d_M_reach_76 ?_
      refine er_getR fl_M_26 sh_83 (by decide) rfl (by decide) d_M_reach_77 ?_
      refine er_iload_n rfl rfl d_M_reach_80 ?_
      refine er_iald sh_89 (by decide) a3 a4 d_M_reach_81 ?_
      obtain ⟨a7, a8, h⟩ := h
      refine er_zald sh_96 (by decide) a7 a8 d_M_reach_82 ?_
      obtain ⟨a9, h⟩ := h
      refine er_if_ne (tgt := 125) (by decide) a9 d_M_reach_83 (fun c10 => ?_) (fun c10 => ?_)
      · have h := h.1 c10
        exact er_forget [some (.inr 83), some (.inl x1), some (.inl x2), some (.inl x3)] (And.intro rfl (And.intro rfl (And.intro rfl (And.intro rfl trivial)))) h
      · have h := h.2 c10
        refine er_aload_n rfl rfl d_M_reach_86 ?_
        refine er_getR fl_M_48 sh_83 (by decide) rfl (by decide) d_M_reach_87 ?_
        refine er_aload_n rfl rfl d_M_reach_90 ?_
        refine er_getR fl_M_26 sh_83 (by decide) rfl (by decide) d_M_reach_91 ?_
        refine er_iload_n rfl rfl d_M_reach_94 ?_
        refine er_iald sh_89 (by decide) a3 a4 d_M_reach_95 ?_
        refine er_iconst d_M_reach_96 ?_
        refine er_zastE sh_96 (by decide) a7 a8 (Or.inr rfl) d_M_reach_97 (fun m11 hm => ?_)
        have h := h m11 hm
        refine er_aload_n rfl rfl d_M_reach_98 ?_
        refine er_getR fl_M_45 sh_83 (by decide) rfl (by decide) d_M_reach_99 ?_
        refine er_aload_n rfl rfl d_M_reach_102 ?_
        refine er_getR fl_M_26 sh_83 (by decide) rfl (by decide) d_M_reach_103 ?_
        refine er_iload_n rfl rfl d_M_reach_106 ?_
        refine er_iald sh_89 (by decide) a3 a4 d_M_reach_107 ?_
        refine er_iload_n rfl rfl d_M_reach_108 ?_
        obtain ⟨a12, a13, h⟩ := h
        refine er_iastE sh_95 (by decide) a12 a13 d_M_reach_109 (fun m14 hm => ?_)
        have h := h m14 hm
        refine er_aload_n rfl rfl d_M_reach_110 ?_
        refine er_getR fl_M_42 sh_83 (by decide) rfl (by decide) d_M_reach_111 ?_
        refine er_iload_n rfl rfl d_M_reach_114 ?_
        refine er_aload_n rfl rfl d_M_reach_115 ?_
        refine er_getR fl_M_26 sh_83 (by decide) rfl (by decide) d_M_reach_116 ?_
        refine er_iload_n rfl rfl d_M_reach_119 ?_
        refine er_iald sh_89 (by decide) a3 a4 d_M_reach_120 ?_
        obtain ⟨a15, a16, h⟩ := h
        refine er_iastE sh_94 (by decide) a15 a16 d_M_reach_121 (fun m17 hm => ?_)
        have h := h m17 hm
        refine er_incE (ls2 := [some (.inr 83), some (.inl (x1 + 1)), some (.inl x2), some (.inl x3)]) rfl (Nat.le_of_ble_eq_true rfl) rfl d_M_reach_122 ?_
        exact er_forget [some (.inr 83), some (.inl (x1 + 1)), some (.inl x2), some (.inl x3)] (And.intro rfl (And.intro rfl (And.intro rfl (And.intro rfl trivial)))) h
theorem vc_M_reach_125 {K : er_K} {x1 : Int} {x2 : Int} {x3 : Int} {m : er_M} {Q : er_M → Prop}  (h : (0 ≤ x3) ∧ (x3 < 760) ∧ (wp_M_reach_57 K x1 x2 (m 92 x3) m Q)) : wp_M_reach_125 K x1 x2 x3 m Q := by
  show er_WP K mi_M_reach 0 0 er_SH m 125 [some (.inr 83), some (.inl x1), some (.inl x2), some (.inl x3)] [] _
  refine er_aload_n rfl rfl d_M_reach_125 ?_
  refine er_getR fl_M_35 sh_83 (by decide) rfl (by decide) d_M_reach_126 ?_
  refine er_iload_n rfl rfl d_M_reach_129 ?_
  obtain ⟨a1, a2, h⟩ := h
  refine er_iald sh_92 (by decide) a1 a2 d_M_reach_130 ?_
  refine er_istE 3 rfl (Nat.le_of_ble_eq_true rfl) (ls2 := [some (.inr 83), some (.inl x1), some (.inl x2), some (.inl (m 92 x3))]) rfl d_M_reach_131 ?_
  refine er_goto (tgt := 57) (by decide) d_M_reach_132 ?_
  exact er_forget [some (.inr 83), some (.inl x1), some (.inl x2), some (.inl (m 92 x3))] (And.intro rfl (And.intro rfl (And.intro rfl (And.intro rfl trivial)))) h
theorem vc_M_reach {K : er_K} {m : er_M} {Q : er_M → Prop}  (h : wp_M_reach_2 K 0 m Q) : er_SV K mi_M_reach [.inr 83] m Q := by
  refine er_start (by decide) (Nat.le_of_ble_eq_true rfl) ?_
  show er_WP K mi_M_reach 0 0 er_SH m 0 [some (.inr 83), none, none, none] [] _
  refine er_iconst d_M_reach_0 ?_
  refine er_istE 1 rfl (Nat.le_of_ble_eq_true rfl) (ls2 := [some (.inr 83), some (.inl 0), none, none]) rfl d_M_reach_1 ?_
  exact er_forget [some (.inr 83), some (.inl 0), none, none] (And.intro rfl (And.intro rfl trivial)) h
def wp_M_augment_20 (K : er_K) (x1 : Int) (x2 : Int) (m : er_M) (Q : Int → er_M → Prop) : Prop := er_WP K mi_M_augment 0 0 er_SH m 20 [some (.inr 83), some (.inl x1), some (.inl x2), none] [] (er_Z K mi_M_augment (er_PI Q))
def wp_M_augment_72 (K : er_K) (x1 : Int) (x2 : Int) (m : er_M) (Q : Int → er_M → Prop) : Prop := er_WP K mi_M_augment 0 0 er_SH m 72 [some (.inr 83), some (.inl x1), some (.inl x2), none] [] (er_Z K mi_M_augment (er_PI Q))
theorem vc_M_augment_20 {K : er_K} {x1 : Int} {x2 : Int} {m : er_M} {Q : Int → er_M → Prop}  (h : (er_in x2) ∧ (((x2 = 0 → wp_M_augment_72 K x1 1 m Q) ∧ (x2 ≠ 0 → (0 ≤ x2) ∧ (x2 < 136) ∧ ((0 ≤ (m 95 x2)) ∧ ((m 95 x2) < 760) ∧ ((er_in (m 90 (m 95 x2))) ∧ (er_in x1) ∧ (((x1 ≤ (m 90 (m 95 x2)) → wp_M_augment_20 K x1 (m 88 (m 95 x2)) m Q) ∧ ((m 90 (m 95 x2)) < x1 → wp_M_augment_20 K (m 90 (m 95 x2)) (m 88 (m 95 x2)) m Q))))))))) : wp_M_augment_20 K x1 x2 m Q := by
  show er_WP K mi_M_augment 0 0 er_SH m 20 [some (.inr 83), some (.inl x1), some (.inl x2), none] [] _
  refine er_iload_n rfl rfl d_M_augment_20 ?_
  obtain ⟨a1, h⟩ := h
  refine er_if_eq (tgt := 70) (by decide) a1 d_M_augment_21 (fun c2 => ?_) (fun c2 => ?_)
  · have h := h.1 c2
    refine er_iconst d_M_augment_70 ?_
    refine er_istE 2 rfl (Nat.le_of_ble_eq_true rfl) (ls2 := [some (.inr 83), some (.inl x1), some (.inl 1), none]) rfl d_M_augment_71 ?_
    exact er_forget [some (.inr 83), some (.inl x1), some (.inl 1), none] (And.intro rfl (And.intro rfl (And.intro rfl trivial))) h
  · have h := h.2 c2
    refine er_aload_n rfl rfl d_M_augment_24 ?_
    refine er_getR fl_M_29 sh_83 (by decide) rfl (by decide) d_M_augment_25 ?_
    refine er_aload_n rfl rfl d_M_augment_28 ?_
    refine er_getR fl_M_45 sh_83 (by decide) rfl (by decide) d_M_augment_29 ?_
    refine er_iload_n rfl rfl d_M_augment_32 ?_
    obtain ⟨a3, a4, h⟩ := h
    refine er_iald sh_95 (by decide) a3 a4 d_M_augment_33 ?_
    obtain ⟨a5, a6, h⟩ := h
    refine er_iald sh_90 (by decide) a5 a6 d_M_augment_34 ?_
    refine er_iload_n rfl rfl d_M_augment_35 ?_
    obtain ⟨a7, a8, h⟩ := h
    refine er_icmp_ge (tgt := 53) (by decide) a7 a8 d_M_augment_36 (fun c9 => ?_) (fun c9 => ?_)
    · have h := h.1 c9
      refine er_iload_n rfl rfl d_M_augment_53 ?_
      refine er_istE 1 rfl (Nat.le_of_ble_eq_true rfl) (ls2 := [some (.inr 83), some (.inl x1), some (.inl x2), none]) rfl d_M_augment_54 ?_
      refine er_aload_n rfl rfl d_M_augment_55 ?_
      refine er_getR fl_M_23 sh_83 (by decide) rfl (by decide) d_M_augment_56 ?_
      refine er_aload_n rfl rfl d_M_augment_59 ?_
      refine er_getR fl_M_45 sh_83 (by decide) rfl (by decide) d_M_augment_60 ?_
      refine er_iload_n rfl rfl d_M_augment_63 ?_
      refine er_iald sh_95 (by decide) a3 a4 d_M_augment_64 ?_
      refine er_iald sh_88 (by decide) a5 a6 d_M_augment_65 ?_
      refine er_istE 2 rfl (Nat.le_of_ble_eq_true rfl) (ls2 := [some (.inr 83), some (.inl x1), some (.inl (m 88 (m 95 x2))), none]) rfl d_M_augment_66 ?_
      refine er_goto (tgt := 20) (by decide) d_M_augment_67 ?_
      exact er_forget [some (.inr 83), some (.inl x1), some (.inl (m 88 (m 95 x2))), none] (And.intro rfl (And.intro rfl (And.intro rfl trivial))) h
    · have h := h.2 c9
      refine er_aload_n rfl rfl d_M_augment_39 ?_
      refine er_getR fl_M_29 sh_83 (by decide) rfl (by decide) d_M_augment_40 ?_
      refine er_aload_n rfl rfl d_M_augment_43 ?_
      refine er_getR fl_M_45 sh_83 (by decide) rfl (by decide) d_M_augment_44 ?_
      refine er_iload_n rfl rfl d_M_augment_47 ?_
      refine er_iald sh_95 (by decide) a3 a4 d_M_augment_48 ?_
      refine er_iald sh_90 (by decide) a5 a6 d_M_augment_49 ?_
      refine er_goto (tgt := 54) (by decide) d_M_augment_50 ?_
      refine er_istE 1 rfl (Nat.le_of_ble_eq_true rfl) (ls2 := [some (.inr 83), some (.inl (m 90 (m 95 x2))), some (.inl x2), none]) rfl d_M_augment_54 ?_
      refine er_aload_n rfl rfl d_M_augment_55 ?_
      refine er_getR fl_M_23 sh_83 (by decide) rfl (by decide) d_M_augment_56 ?_
      refine er_aload_n rfl rfl d_M_augment_59 ?_
      refine er_getR fl_M_45 sh_83 (by decide) rfl (by decide) d_M_augment_60 ?_
      refine er_iload_n rfl rfl d_M_augment_63 ?_
      refine er_iald sh_95 (by decide) a3 a4 d_M_augment_64 ?_
      refine er_iald sh_88 (by decide) a5 a6 d_M_augment_65 ?_
      refine er_istE 2 rfl (Nat.le_of_ble_eq_true rfl) (ls2 := [some (.inr 83), some (.inl (m 90 (m 95 x2))), some (.inl (m 88 (m 95 x2))), none]) rfl d_M_augment_66 ?_
      refine er_goto (tgt := 20) (by decide) d_M_augment_67 ?_
      exact er_forget [some (.inr 83), some (.inl (m 90 (m 95 x2))), some (.inl (m 88 (m 95 x2))), none] (And.intro rfl (And.intro rfl (And.intro rfl trivial))) h
theorem vc_M_augment_72 {K : er_K} {x1 : Int} {x2 : Int} {m : er_M} {Q : Int → er_M → Prop}  (h : (er_in x2) ∧ (((x2 = 0 → Q x1 m) ∧ (x2 ≠ 0 → (0 ≤ x2) ∧ (x2 < 136) ∧ ((0 ≤ (m 95 x2)) ∧ ((m 95 x2) < 760) ∧ (∀ m7 : er_M, m7 = er_st m 90 (m 95 x2) ((m 90 (m 95 x2)) - x1) → (0 ≤ (m7 95 x2)) ∧ ((m7 95 x2) < 2147483648) ∧ ((er_in ((m7 95 x2) % 2)) ∧ (((((m7 95 x2) % 2) ≠ 0 → (0 ≤ ((m7 95 x2) - 1)) ∧ (((m7 95 x2) - 1) < 760) ∧ (∀ m14 : er_M, m14 = er_st m7 90 ((m7 95 x2) - 1) ((m7 90 ((m7 95 x2) - 1)) + x1) → (0 ≤ (m14 95 x2)) ∧ ((m14 95 x2) < 760) ∧ (wp_M_augment_72 K x1 (m14 88 (m14 95 x2)) m14 Q))) ∧ (((m7 95 x2) % 2) = 0 → (0 ≤ ((m7 95 x2) + 1)) ∧ (((m7 95 x2) + 1) < 760) ∧ (∀ m19 : er_M, m19 = er_st m7 90 ((m7 95 x2) + 1) ((m7 90 ((m7 95 x2) + 1)) + x1) → (0 ≤ (m19 95 x2)) ∧ ((m19 95 x2) < 760) ∧ (wp_M_augment_72 K x1 (m19 88 (m19 95 x2)) m19 Q)))))))))))) : wp_M_augment_72 K x1 x2 m Q := by
  show er_WP K mi_M_augment 0 0 er_SH m 72 [some (.inr 83), some (.inl x1), some (.inl x2), none] [] _
  refine er_iload_n rfl rfl d_M_augment_72 ?_
  obtain ⟨a1, h⟩ := h
  refine er_if_eq (tgt := 147) (by decide) a1 d_M_augment_73 (fun c2 => ?_) (fun c2 => ?_)
  · have h := h.1 c2
    refine er_iload_n rfl rfl d_M_augment_147 ?_
    exact er_iretE rfl rfl d_M_augment_148 h
  · have h := h.2 c2
    refine er_aload_n rfl rfl d_M_augment_76 ?_
    refine er_getR fl_M_29 sh_83 (by decide) rfl (by decide) d_M_augment_77 ?_
    refine er_aload_n rfl rfl d_M_augment_80 ?_
    refine er_getR fl_M_45 sh_83 (by decide) rfl (by decide) d_M_augment_81 ?_
    refine er_iload_n rfl rfl d_M_augment_84 ?_
    obtain ⟨a3, a4, h⟩ := h
    refine er_iald sh_95 (by decide) a3 a4 d_M_augment_85 ?_
    refine er_dup2 d_M_augment_86 ?_
    obtain ⟨a5, a6, h⟩ := h
    refine er_iald sh_90 (by decide) a5 a6 d_M_augment_87 ?_
    refine er_iload_n rfl rfl d_M_augment_88 ?_
    refine er_isub d_M_augment_89 ?_
    refine er_iastE sh_90 (by decide) a5 a6 d_M_augment_90 (fun m7 hm => ?_)
    have h := h m7 hm
    refine er_aload_n rfl rfl d_M_augment_91 ?_
    refine er_getR fl_M_45 sh_83 (by decide) rfl (by decide) d_M_augment_92 ?_
    refine er_iload_n rfl rfl d_M_augment_95 ?_
    refine er_iald sh_95 (by decide) a3 a4 d_M_augment_96 ?_
    refine er_iconst d_M_augment_97 ?_
    obtain ⟨a8, a9, h⟩ := h
    refine er_irem a8 a9 (by decide) (by decide) d_M_augment_98 ?_
    obtain ⟨a10, h⟩ := h
    refine er_if_ne (tgt := 113) (by decide) a10 d_M_augment_99 (fun c11 => ?_) (fun c11 => ?_)
    · have h := h.1 c11
      refine er_aload_n rfl rfl d_M_augment_113 ?_
      refine er_getR fl_M_45 sh_83 (by decide) rfl (by decide) d_M_augment_114 ?_
      refine er_iload_n rfl rfl d_M_augment_117 ?_
      refine er_iald sh_95 (by decide) a3 a4 d_M_augment_118 ?_
      refine er_iconst d_M_augment_119 ?_
      refine er_isub d_M_augment_120 ?_
      refine er_istE 3 rfl (Nat.le_of_ble_eq_true rfl) (ls2 := [some (.inr 83), some (.inl x1), some (.inl x2), some (.inl ((m7 95 x2) - 1))]) rfl d_M_augment_121 ?_
      refine er_aload_n rfl rfl d_M_augment_122 ?_
      refine er_getR fl_M_29 sh_83 (by decide) rfl (by decide) d_M_augment_123 ?_
      refine er_iload_n rfl rfl d_M_augment_126 ?_
      refine er_dup2 d_M_augment_127 ?_
      obtain ⟨a12, a13, h⟩ := h
      refine er_iald sh_90 (by decide) a12 a13 d_M_augment_128 ?_
      refine er_iload_n rfl rfl d_M_augment_129 ?_
      refine er_iadd d_M_augment_130 ?_
      refine er_iastE sh_90 (by decide) a12 a13 d_M_augment_131 (fun m14 hm => ?_)
      have h := h m14 hm
      refine er_aload_n rfl rfl d_M_augment_132 ?_
      refine er_getR fl_M_23 sh_83 (by decide) rfl (by decide) d_M_augment_133 ?_
      refine er_aload_n rfl rfl d_M_augment_136 ?_
      refine er_getR fl_M_45 sh_83 (by decide) rfl (by decide) d_M_augment_137 ?_
      refine er_iload_n rfl rfl d_M_augment_140 ?_
      refine er_iald sh_95 (by decide) a3 a4 d_M_augment_141 ?_
      obtain ⟨a15, a16, h⟩ := h
      refine er_iald sh_88 (by decide) a15 a16 d_M_augment_142 ?_
      refine er_istE 2 rfl (Nat.le_of_ble_eq_true rfl) (ls2 := [some (.inr 83), some (.inl x1), some (.inl (m14 88 (m14 95 x2))), some (.inl ((m7 95 x2) - 1))]) rfl d_M_augment_143 ?_
      refine er_goto (tgt := 72) (by decide) d_M_augment_144 ?_
      exact er_forget [some (.inr 83), some (.inl x1), some (.inl (m14 88 (m14 95 x2))), none] (And.intro rfl (And.intro rfl (And.intro rfl trivial))) h
    · have h := h.2 c11
      refine er_aload_n rfl rfl d_M_augment_102 ?_
      refine er_getR fl_M_45 sh_83 (by decide) rfl (by decide) d_M_augment_103 ?_
      refine er_iload_n rfl rfl d_M_augment_106 ?_
      refine er_iald sh_95 (by decide) a3 a4 d_M_augment_107 ?_
      refine er_iconst d_M_augment_108 ?_
      refine er_iadd d_M_augment_109 ?_
      refine er_goto (tgt := 121) (by decide) d_M_augment_110 ?_
      refine er_istE 3 rfl (Nat.le_of_ble_eq_true rfl) (ls2 := [some (.inr 83), some (.inl x1), some (.inl x2), some (.inl ((m7 95 x2) + 1))]) rfl d_M_augment_121 ?_
      refine er_aload_n rfl rfl d_M_augment_122 ?_
      refine er_getR fl_M_29 sh_83 (by decide) rfl (by decide) d_M_augment_123 ?_
      refine er_iload_n rfl rfl d_M_augment_126 ?_
      refine er_dup2 d_M_augment_127 ?_
      obtain ⟨a17, a18, h⟩ := h
      refine er_iald sh_90 (by decide) a17 a18 d_M_augment_128 ?_
      refine er_iload_n rfl rfl d_M_augment_129 ?_
      refine er_iadd d_M_augment_130 ?_
      refine er_iastE sh_90 (by decide) a17 a18 d_M_augment_131 (fun m19 hm => ?_)
      have h := h m19 hm
      refine er_aload_n rfl rfl d_M_augment_132 ?_
      refine er_getR fl_M_23 sh_83 (by decide) rfl (by decide) d_M_augment_133 ?_
      refine er_aload_n rfl rfl d_M_augment_136 ?_
      refine er_getR fl_M_45 sh_83 (by decide) rfl (by decide) d_M_augment_137 ?_
      refine er_iload_n rfl rfl d_M_augment_140 ?_
      refine er_iald sh_95 (by decide) a3 a4 d_M_augment_141 ?_
      obtain ⟨a20, a21, h⟩ := h
      refine er_iald sh_88 (by decide) a20 a21 d_M_augment_142 ?_
      refine er_istE 2 rfl (Nat.le_of_ble_eq_true rfl) (ls2 := [some (.inr 83), some (.inl x1), some (.inl (m19 88 (m19 95 x2))), some (.inl ((m7 95 x2) + 1))]) rfl d_M_augment_143 ?_
      refine er_goto (tgt := 72) (by decide) d_M_augment_144 ?_
      exact er_forget [some (.inr 83), some (.inl x1), some (.inl (m19 88 (m19 95 x2))), none] (And.intro rfl (And.intro rfl (And.intro rfl trivial))) h
theorem vc_M_augment {K : er_K} {m : er_M} {Q : Int → er_M → Prop}  (h : er_SV K mi_M_reach [.inr 83] m (fun m1 => (er_in (m1 96 1)) ∧ ((((m1 96 1) ≠ 0 → wp_M_augment_20 K 100000 1 m1 Q) ∧ ((m1 96 1) = 0 → Q 0 m1))))) : er_SI K mi_M_augment [.inr 83] m Q := by
  refine er_start (by decide) (Nat.le_of_ble_eq_true rfl) ?_
  show er_WP K mi_M_augment 0 0 er_SH m 0 [some (.inr 83), none, none, none] [] _
  refine er_aload_n rfl rfl d_M_augment_0 ?_
  refine er_cVV (As := []) (st := []) ml_M_127 mw_M_reach md_M_reach ⟨rfl, rfl⟩ rfl (Nat.le_of_ble_eq_true rfl) sh_83 rfl ⟨(Nat.le_of_ble_eq_true rfl), (Nat.le_of_ble_eq_true rfl)⟩ rfl d_M_augment_1 h (fun m1 h => ?_)
  refine er_aload_n rfl rfl d_M_augment_4 ?_
  refine er_getR fl_M_48 sh_83 (by decide) rfl (by decide) d_M_augment_5 ?_
  refine er_iconst d_M_augment_8 ?_
  refine er_zald sh_96 (by decide) (by decide) (by decide) d_M_augment_9 ?_
  obtain ⟨a2, h⟩ := h
  refine er_if_ne (tgt := 15) (by decide) a2 d_M_augment_10 (fun c3 => ?_) (fun c3 => ?_)
  · have h := h.1 c3
    refine er_ldc kc_M_122 d_M_augment_15 ?_
    refine er_istE 1 rfl (Nat.le_of_ble_eq_true rfl) (ls2 := [some (.inr 83), some (.inl 100000), none, none]) rfl d_M_augment_17 ?_
    refine er_iconst d_M_augment_18 ?_
    refine er_istE 2 rfl (Nat.le_of_ble_eq_true rfl) (ls2 := [some (.inr 83), some (.inl 100000), some (.inl 1), none]) rfl d_M_augment_19 ?_
    exact er_forget [some (.inr 83), some (.inl 100000), some (.inl 1), none] (And.intro rfl (And.intro rfl (And.intro rfl trivial))) h
  · have h := h.2 c3
    refine er_iconst d_M_augment_13 ?_
    exact er_iretE rfl rfl d_M_augment_14 h
def wp_M_augmentAll_7 (K : er_K) (x1 : Int) (x2 : Int) (m : er_M) (Q : Int → er_M → Prop) : Prop := er_WP K mi_M_augmentAll 0 0 er_SH m 7 [some (.inr 83), some (.inl x1), some (.inl x2)] [] (er_Z K mi_M_augmentAll (er_PI Q))
theorem vc_M_augmentAll_7 {K : er_K} {x1 : Int} {x2 : Int} {m : er_M} {Q : Int → er_M → Prop}  (h : (er_in x2) ∧ (((x2 ≤ 0 → Q x1 m) ∧ (0 < x2 → er_SI K mi_M_augment [.inr 83] m (fun v4 m3 => wp_M_augmentAll_7 K (x1 + x2) v4 m3 Q))))) : wp_M_augmentAll_7 K x1 x2 m Q := by
  show er_WP K mi_M_augmentAll 0 0 er_SH m 7 [some (.inr 83), some (.inl x1), some (.inl x2)] [] _
  refine er_iload_n rfl rfl d_M_augmentAll_7 ?_
  obtain ⟨a1, h⟩ := h
  refine er_if_le (tgt := 23) (by decide) a1 d_M_augmentAll_8 (fun c2 => ?_) (fun c2 => ?_)
  · have h := h.1 c2
    refine er_iload_n rfl rfl d_M_augmentAll_23 ?_
    exact er_iretE rfl rfl d_M_augmentAll_24 h
  · have h := h.2 c2
    refine er_iload_n rfl rfl d_M_augmentAll_11 ?_
    refine er_iload_n rfl rfl d_M_augmentAll_12 ?_
    refine er_iadd d_M_augmentAll_13 ?_
    refine er_istE 1 rfl (Nat.le_of_ble_eq_true rfl) (ls2 := [some (.inr 83), some (.inl (x1 + x2)), some (.inl x2)]) rfl d_M_augmentAll_14 ?_
    refine er_aload_n rfl rfl d_M_augmentAll_15 ?_
    refine er_cVI (As := []) (st := []) ml_M_130 mw_M_augment md_M_augment ⟨rfl, rfl⟩ rfl (Nat.le_of_ble_eq_true rfl) sh_83 rfl ⟨(Nat.le_of_ble_eq_true rfl), (Nat.le_of_ble_eq_true rfl)⟩ rfl d_M_augmentAll_16 h (fun v4 m3 h => ?_)
    refine er_istE 2 rfl (Nat.le_of_ble_eq_true rfl) (ls2 := [some (.inr 83), some (.inl (x1 + x2)), some (.inl v4)]) rfl d_M_augmentAll_19 ?_
    refine er_goto (tgt := 7) (by decide) d_M_augmentAll_20 ?_
    exact er_forget [some (.inr 83), some (.inl (x1 + x2)), some (.inl v4)] (And.intro rfl (And.intro rfl (And.intro rfl trivial))) h
theorem vc_M_augmentAll {K : er_K} {m : er_M} {Q : Int → er_M → Prop}  (h : er_SI K mi_M_augment [.inr 83] m (fun v2 m1 => wp_M_augmentAll_7 K 0 v2 m1 Q)) : er_SI K mi_M_augmentAll [.inr 83] m Q := by
  refine er_start (by decide) (Nat.le_of_ble_eq_true rfl) ?_
  show er_WP K mi_M_augmentAll 0 0 er_SH m 0 [some (.inr 83), none, none] [] _
  refine er_iconst d_M_augmentAll_0 ?_
  refine er_istE 1 rfl (Nat.le_of_ble_eq_true rfl) (ls2 := [some (.inr 83), some (.inl 0), none]) rfl d_M_augmentAll_1 ?_
  refine er_aload_n rfl rfl d_M_augmentAll_2 ?_
  refine er_cVI (As := []) (st := []) ml_M_130 mw_M_augment md_M_augment ⟨rfl, rfl⟩ rfl (Nat.le_of_ble_eq_true rfl) sh_83 rfl ⟨(Nat.le_of_ble_eq_true rfl), (Nat.le_of_ble_eq_true rfl)⟩ rfl d_M_augmentAll_3 h (fun v2 m1 h => ?_)
  refine er_istE 2 rfl (Nat.le_of_ble_eq_true rfl) (ls2 := [some (.inr 83), some (.inl 0), some (.inl v2)]) rfl d_M_augmentAll_6 ?_
  exact er_forget [some (.inr 83), some (.inl 0), some (.inl v2)] (And.intro rfl (And.intro rfl (And.intro rfl trivial))) h
def wp_M_openNone_2 (K : er_K) (x1 : Int) (m : er_M) (Q : er_M → Prop) : Prop := er_WP K mi_M_openNone 0 0 er_SH m 2 [some (.inr 83), some (.inl x1)] [] (er_Z K mi_M_openNone (er_PV Q))
theorem vc_M_openNone_2 {K : er_K} {x1 : Int} {m : er_M} {Q : er_M → Prop}  (h : (er_in x1) ∧ (((36 ≤ x1 → Q m) ∧ (x1 < 36 → (0 ≤ (4 + x1)) ∧ ((4 + x1) < 112) ∧ ((er_in (m 84 (4 + x1))) ∧ ((((m 84 (4 + x1)) ≠ 0 → (0 ≤ x1) ∧ (x1 < 36) ∧ (∀ m9 : er_M, m9 = er_st m 93 x1 0 → wp_M_openNone_2 K (x1 + 1) m9 Q)) ∧ ((m 84 (4 + x1)) = 0 → (0 ≤ x1) ∧ (x1 < 36) ∧ (∀ m12 : er_M, m12 = er_st m 93 x1 1 → wp_M_openNone_2 K (x1 + 1) m12 Q))))))))) : wp_M_openNone_2 K x1 m Q := by
  show er_WP K mi_M_openNone 0 0 er_SH m 2 [some (.inr 83), some (.inl x1)] [] _
  refine er_iload_n rfl rfl d_M_openNone_2 ?_
  refine er_bipush (by decide) d_M_openNone_3 ?_
  obtain ⟨a1, h⟩ := h
  refine er_icmp_ge (tgt := 36) (by decide) a1 (by decide) d_M_openNone_5 (fun c2 => ?_) (fun c2 => ?_)
  · have h := h.1 c2
    exact er_vretE rfl rfl d_M_openNone_36 h
  · have h := h.2 c2
    refine er_aload_n rfl rfl d_M_openNone_8 ?_
    refine er_getR fl_M_38 sh_83 (by decide) rfl (by decide) d_M_openNone_9 ?_
    refine er_iload_n rfl rfl d_M_openNone_12 ?_
    refine er_aload_n rfl rfl d_M_openNone_13 ?_
    refine er_getR fl_M_7 sh_83 (by decide) rfl (by decide) d_M_openNone_14 ?_
    refine er_iconst d_M_openNone_17 ?_
    refine er_iload_n rfl rfl d_M_openNone_18 ?_
    refine er_iadd d_M_openNone_19 ?_
    obtain ⟨a3, a4, h⟩ := h
    refine er_iald sh_84 (by decide) a3 a4 d_M_openNone_20 ?_
    obtain ⟨a5, h⟩ := h
    refine er_if_ne (tgt := 28) (by decide) a5 d_M_openNone_21 (fun c6 => ?_) (fun c6 => ?_)
    · have h := h.1 c6
      refine er_iconst d_M_openNone_28 ?_
      obtain ⟨a7, a8, h⟩ := h
      refine er_zastE sh_93 (by decide) a7 a8 (Or.inl rfl) d_M_openNone_29 (fun m9 hm => ?_)
      have h := h m9 hm
      refine er_incE (ls2 := [some (.inr 83), some (.inl (x1 + 1))]) rfl (Nat.le_of_ble_eq_true rfl) rfl d_M_openNone_30 ?_
      refine er_goto (tgt := 2) (by decide) d_M_openNone_33 ?_
      exact er_forget [some (.inr 83), some (.inl (x1 + 1))] (And.intro rfl (And.intro rfl trivial)) h
    · have h := h.2 c6
      refine er_iconst d_M_openNone_24 ?_
      refine er_goto (tgt := 29) (by decide) d_M_openNone_25 ?_
      obtain ⟨a10, a11, h⟩ := h
      refine er_zastE sh_93 (by decide) a10 a11 (Or.inr rfl) d_M_openNone_29 (fun m12 hm => ?_)
      have h := h m12 hm
      refine er_incE (ls2 := [some (.inr 83), some (.inl (x1 + 1))]) rfl (Nat.le_of_ble_eq_true rfl) rfl d_M_openNone_30 ?_
      refine er_goto (tgt := 2) (by decide) d_M_openNone_33 ?_
      exact er_forget [some (.inr 83), some (.inl (x1 + 1))] (And.intro rfl (And.intro rfl trivial)) h
theorem vc_M_openNone {K : er_K} {m : er_M} {Q : er_M → Prop}  (h : wp_M_openNone_2 K 0 m Q) : er_SV K mi_M_openNone [.inr 83] m Q := by
  refine er_start (by decide) (Nat.le_of_ble_eq_true rfl) ?_
  show er_WP K mi_M_openNone 0 0 er_SH m 0 [some (.inr 83), none] [] _
  refine er_iconst d_M_openNone_0 ?_
  refine er_istE 1 rfl (Nat.le_of_ble_eq_true rfl) (ls2 := [some (.inr 83), some (.inl 0)]) rfl d_M_openNone_1 ?_
  exact er_forget [some (.inr 83), some (.inl 0)] (And.intro rfl (And.intro rfl trivial)) h
def wp_M_escape_10 (K : er_K) (x1 : Int) (m : er_M) (Q : Int → er_M → Prop) : Prop := er_WP K mi_M_escape 0 0 er_SH m 10 [some (.inr 83), some (.inl x1)] [] (er_Z K mi_M_escape (er_PI Q))
theorem vc_M_escape_10 {K : er_K} {x1 : Int} {m : er_M} {Q : Int → er_M → Prop}  (h : (er_in x1) ∧ (((36 ≤ x1 → er_SI K mi_M_augmentAll [.inr 83] m (fun v4 m3 => Q v4 m3)) ∧ (x1 < 36 → (0 ≤ (76 + x1)) ∧ ((76 + x1) < 112) ∧ ((er_in (m 84 (76 + x1))) ∧ ((((m 84 (76 + x1)) ≠ 1 → wp_M_escape_10 K (x1 + 1) m Q) ∧ ((m 84 (76 + x1)) = 1 → er_SV K mi_M_layPin [.inr 83, .inl x1, .inl 1] m (fun m9 => wp_M_escape_10 K (x1 + 1) m9 Q))))))))) : wp_M_escape_10 K x1 m Q := by
  show er_WP K mi_M_escape 0 0 er_SH m 10 [some (.inr 83), some (.inl x1)] [] _
  refine er_iload_n rfl rfl d_M_escape_10 ?_
  refine er_bipush (by decide) d_M_escape_11 ?_
  obtain ⟨a1, h⟩ := h
  refine er_icmp_ge (tgt := 41) (by decide) a1 (by decide) d_M_escape_13 (fun c2 => ?_) (fun c2 => ?_)
  · have h := h.1 c2
    refine er_aload_n rfl rfl d_M_escape_41 ?_
    refine er_cVI (As := []) (st := []) ml_M_143 mw_M_augmentAll md_M_augmentAll ⟨rfl, rfl⟩ rfl (Nat.le_of_ble_eq_true rfl) sh_83 rfl ⟨(Nat.le_of_ble_eq_true rfl), (Nat.le_of_ble_eq_true rfl)⟩ rfl d_M_escape_42 h (fun v4 m3 h => ?_)
    exact er_iretE rfl rfl d_M_escape_45 h
  · have h := h.2 c2
    refine er_aload_n rfl rfl d_M_escape_16 ?_
    refine er_getR fl_M_7 sh_83 (by decide) rfl (by decide) d_M_escape_17 ?_
    refine er_bipush (by decide) d_M_escape_20 ?_
    refine er_iload_n rfl rfl d_M_escape_22 ?_
    refine er_iadd d_M_escape_23 ?_
    obtain ⟨a5, a6, h⟩ := h
    refine er_iald sh_84 (by decide) a5 a6 d_M_escape_24 ?_
    refine er_iconst d_M_escape_25 ?_
    obtain ⟨a7, h⟩ := h
    refine er_icmp_ne (tgt := 35) (by decide) a7 (by decide) d_M_escape_26 (fun c8 => ?_) (fun c8 => ?_)
    · have h := h.1 c8
      refine er_incE (ls2 := [some (.inr 83), some (.inl (x1 + 1))]) rfl (Nat.le_of_ble_eq_true rfl) rfl d_M_escape_35 ?_
      refine er_goto (tgt := 10) (by decide) d_M_escape_38 ?_
      exact er_forget [some (.inr 83), some (.inl (x1 + 1))] (And.intro rfl (And.intro rfl trivial)) h
    · have h := h.2 c8
      refine er_aload_n rfl rfl d_M_escape_29 ?_
      refine er_iload_n rfl rfl d_M_escape_30 ?_
      refine er_iconst d_M_escape_31 ?_
      refine er_cVV (As := [.inl x1, .inl 1]) (st := []) ml_M_139 mw_M_layPin md_M_layPin ⟨rfl, rfl⟩ rfl (Nat.le_of_ble_eq_true rfl) sh_83 rfl ⟨(Nat.le_of_ble_eq_true rfl), (Nat.le_of_ble_eq_true rfl)⟩ rfl d_M_escape_32 h (fun m9 h => ?_)
      refine er_incE (ls2 := [some (.inr 83), some (.inl (x1 + 1))]) rfl (Nat.le_of_ble_eq_true rfl) rfl d_M_escape_35 ?_
      refine er_goto (tgt := 10) (by decide) d_M_escape_38 ?_
      exact er_forget [some (.inr 83), some (.inl (x1 + 1))] (And.intro rfl (And.intro rfl trivial)) h
theorem vc_M_escape {K : er_K} {m : er_M} {Q : Int → er_M → Prop}  (h : er_SV K mi_M_openNone [.inr 83] m (fun m1 => er_SV K mi_M_lay [.inr 83] m1 (fun m2 => wp_M_escape_10 K 0 m2 Q))) : er_SI K mi_M_escape [.inr 83] m Q := by
  refine er_start (by decide) (Nat.le_of_ble_eq_true rfl) ?_
  show er_WP K mi_M_escape 0 0 er_SH m 0 [some (.inr 83), none] [] _
  refine er_aload_n rfl rfl d_M_escape_0 ?_
  refine er_cVV (As := []) (st := []) ml_M_133 mw_M_openNone md_M_openNone ⟨rfl, rfl⟩ rfl (Nat.le_of_ble_eq_true rfl) sh_83 rfl ⟨(Nat.le_of_ble_eq_true rfl), (Nat.le_of_ble_eq_true rfl)⟩ rfl d_M_escape_1 h (fun m1 h => ?_)
  refine er_aload_n rfl rfl d_M_escape_4 ?_
  refine er_cVV (As := []) (st := []) ml_M_136 mw_M_lay md_M_lay ⟨rfl, rfl⟩ rfl (Nat.le_of_ble_eq_true rfl) sh_83 rfl ⟨(Nat.le_of_ble_eq_true rfl), (Nat.le_of_ble_eq_true rfl)⟩ rfl d_M_escape_5 h (fun m2 h => ?_)
  refine er_iconst d_M_escape_8 ?_
  refine er_istE 1 rfl (Nat.le_of_ble_eq_true rfl) (ls2 := [some (.inr 83), some (.inl 0)]) rfl d_M_escape_9 ?_
  exact er_forget [some (.inr 83), some (.inl 0)] (And.intro rfl (And.intro rfl trivial)) h
theorem vc_M_escapeCount {K : er_K} {m : er_M} {Q : Int → er_M → Prop}  (h : er_SI K mi_M_escape [.inr 83] m (fun v2 m1 => Q v2 m1)) : er_SI K mi_M_escapeCount [.inr 83] m Q := by
  refine er_start (by decide) (Nat.le_of_ble_eq_true rfl) ?_
  show er_WP K mi_M_escapeCount 0 0 er_SH m 0 [some (.inr 83)] [] _
  refine er_aload_n rfl rfl d_M_escapeCount_0 ?_
  refine er_cVI (As := []) (st := []) ml_M_146 mw_M_escape md_M_escape ⟨rfl, rfl⟩ rfl (Nat.le_of_ble_eq_true rfl) sh_83 rfl ⟨(Nat.le_of_ble_eq_true rfl), (Nat.le_of_ble_eq_true rfl)⟩ rfl d_M_escapeCount_1 h (fun v2 m1 h => ?_)
  exact er_iretE rfl rfl d_M_escapeCount_4 h
theorem vc_M_tileSide {K : er_K} {p1 p2 : Int} {m : er_M} {Q : Int → er_M → Prop}  (h : er_SI K mi_M_in [.inl p1, .inl 0, .inl (m 84 0)] m (fun v2 m1 => (er_in v2) ∧ (((v2 = 0 → Q (-1) m1) ∧ (v2 ≠ 0 → er_SI K mi_M_in [.inl p2, .inl 0, .inl (m1 84 1)] m1 (fun v6 m5 => (er_in v6) ∧ (((v6 ≠ 0 → er_SI K mi_M_escape [.inr 83] m5 (fun v10 m9 => er_SI K mi_M_tile [.inl p1, .inl p2] m9 (fun v12 m11 => (0 ≤ (38 + v12)) ∧ ((38 + v12) < 136) ∧ ((er_in (m11 96 (38 + v12))) ∧ ((((m11 96 (38 + v12)) ≠ 0 → (0 ≤ (87 + v12)) ∧ ((87 + v12) < 136) ∧ ((er_in (m11 96 (87 + v12))) ∧ ((((m11 96 (87 + v12)) = 0 → Q 1 m11) ∧ ((m11 96 (87 + v12)) ≠ 0 → Q 0 m11))))) ∧ ((m11 96 (38 + v12)) = 0 → Q 2 m11))))))) ∧ (v6 = 0 → Q (-1) m5))))))))) : er_SI K mi_M_tileSide [.inr 83, .inl p1, .inl p2] m Q := by
  refine er_start (by decide) (Nat.le_of_ble_eq_true rfl) ?_
  show er_WP K mi_M_tileSide 0 0 er_SH m 0 [some (.inr 83), some (.inl p1), some (.inl p2), none] [] _
  refine er_iload_n rfl rfl d_M_tileSide_0 ?_
  refine er_iconst d_M_tileSide_1 ?_
  refine er_aload_n rfl rfl d_M_tileSide_2 ?_
  refine er_getR fl_M_7 sh_83 (by decide) rfl (by decide) d_M_tileSide_3 ?_
  refine er_iconst d_M_tileSide_6 ?_
  refine er_iald sh_84 (by decide) (by decide) (by decide) d_M_tileSide_7 ?_
  refine er_cS (As := [.inl p1, .inl 0, .inl (m 84 0)]) (st := []) ml_M_64 rfl mw_M_in md_M_in ⟨rfl, rfl⟩ rfl (Nat.le_of_ble_eq_true rfl) ⟨(Nat.le_of_ble_eq_true rfl), (Nat.le_of_ble_eq_true rfl)⟩ rfl d_M_tileSide_8 h (fun v2 m1 h => ?_)
  obtain ⟨a3, h⟩ := h
  refine er_if_eq (tgt := 28) (by decide) a3 d_M_tileSide_11 (fun c4 => ?_) (fun c4 => ?_)
  · have h := h.1 c4
    refine er_iconst d_M_tileSide_28 ?_
    exact er_iretE rfl rfl d_M_tileSide_29 h
  · have h := h.2 c4
    refine er_iload_n rfl rfl d_M_tileSide_14 ?_
    refine er_iconst d_M_tileSide_15 ?_
    refine er_aload_n rfl rfl d_M_tileSide_16 ?_
    refine er_getR fl_M_7 sh_83 (by decide) rfl (by decide) d_M_tileSide_17 ?_
    refine er_iconst d_M_tileSide_20 ?_
    refine er_iald sh_84 (by decide) (by decide) (by decide) d_M_tileSide_21 ?_
    refine er_cS (As := [.inl p2, .inl 0, .inl (m1 84 1)]) (st := []) ml_M_64 rfl mw_M_in md_M_in ⟨rfl, rfl⟩ rfl (Nat.le_of_ble_eq_true rfl) ⟨(Nat.le_of_ble_eq_true rfl), (Nat.le_of_ble_eq_true rfl)⟩ rfl d_M_tileSide_22 h (fun v6 m5 h => ?_)
    obtain ⟨a7, h⟩ := h
    refine er_if_ne (tgt := 30) (by decide) a7 d_M_tileSide_25 (fun c8 => ?_) (fun c8 => ?_)
    · have h := h.1 c8
      refine er_aload_n rfl rfl d_M_tileSide_30 ?_
      refine er_cVI (As := []) (st := []) ml_M_146 mw_M_escape md_M_escape ⟨rfl, rfl⟩ rfl (Nat.le_of_ble_eq_true rfl) sh_83 rfl ⟨(Nat.le_of_ble_eq_true rfl), (Nat.le_of_ble_eq_true rfl)⟩ rfl d_M_tileSide_31 h (fun v10 m9 h => ?_)
      refine er_pop d_M_tileSide_34 ?_
      refine er_iload_n rfl rfl d_M_tileSide_35 ?_
      refine er_iload_n rfl rfl d_M_tileSide_36 ?_
      refine er_cS (As := [.inl p1, .inl p2]) (st := []) ml_M_115 rfl mw_M_tile md_M_tile ⟨rfl, rfl⟩ rfl (Nat.le_of_ble_eq_true rfl) ⟨(Nat.le_of_ble_eq_true rfl), (Nat.le_of_ble_eq_true rfl)⟩ rfl d_M_tileSide_37 h (fun v12 m11 h => ?_)
      refine er_istE 3 rfl (Nat.le_of_ble_eq_true rfl) (ls2 := [some (.inr 83), some (.inl p1), some (.inl p2), some (.inl v12)]) rfl d_M_tileSide_40 ?_
      refine er_aload_n rfl rfl d_M_tileSide_41 ?_
      refine er_getR fl_M_48 sh_83 (by decide) rfl (by decide) d_M_tileSide_42 ?_
      refine er_bipush (by decide) d_M_tileSide_45 ?_
      refine er_iload_n rfl rfl d_M_tileSide_47 ?_
      refine er_iadd d_M_tileSide_48 ?_
      obtain ⟨a13, a14, h⟩ := h
      refine er_zald sh_96 (by decide) a13 a14 d_M_tileSide_49 ?_
      obtain ⟨a15, h⟩ := h
      refine er_if_ne (tgt := 57) (by decide) a15 d_M_tileSide_50 (fun c16 => ?_) (fun c16 => ?_)
      · have h := h.1 c16
        refine er_aload_n rfl rfl d_M_tileSide_57 ?_
        refine er_getR fl_M_48 sh_83 (by decide) rfl (by decide) d_M_tileSide_58 ?_
        refine er_bipush (by decide) d_M_tileSide_61 ?_
        refine er_iload_n rfl rfl d_M_tileSide_63 ?_
        refine er_iadd d_M_tileSide_64 ?_
        obtain ⟨a17, a18, h⟩ := h
        refine er_zald sh_96 (by decide) a17 a18 d_M_tileSide_65 ?_
        obtain ⟨a19, h⟩ := h
        refine er_if_eq (tgt := 73) (by decide) a19 d_M_tileSide_66 (fun c20 => ?_) (fun c20 => ?_)
        · have h := h.1 c20
          refine er_iconst d_M_tileSide_73 ?_
          exact er_iretE rfl rfl d_M_tileSide_74 h
        · have h := h.2 c20
          refine er_iconst d_M_tileSide_69 ?_
          refine er_goto (tgt := 74) (by decide) d_M_tileSide_70 ?_
          exact er_iretE rfl rfl d_M_tileSide_74 h
      · have h := h.2 c16
        refine er_iconst d_M_tileSide_53 ?_
        refine er_goto (tgt := 74) (by decide) d_M_tileSide_54 ?_
        exact er_iretE rfl rfl d_M_tileSide_74 h
    · have h := h.2 c8
      refine er_iconst d_M_tileSide_28 ?_
      exact er_iretE rfl rfl d_M_tileSide_29 h
def wp_M_isCut_24 (K : er_K) (x1 : Int) (x2 : Int) (m : er_M) (Q : Int → er_M → Prop) : Prop := er_WP K mi_M_isCut 0 0 er_SH m 24 [some (.inr 83), some (.inl x1), some (.inl x2)] [] (er_Z K mi_M_isCut (er_PI Q))
theorem vc_M_isCut_24 {K : er_K} {x1 : Int} {x2 : Int} {m : er_M} {Q : Int → er_M → Prop}  (h : (0 ≤ (87 + x2)) ∧ ((87 + x2) < 136) ∧ ((er_in (m 96 (87 + x2))) ∧ ((((m 96 (87 + x2)) = 0 → Q 0 m) ∧ ((m 96 (87 + x2)) ≠ 0 → (0 ≤ (38 + x1)) ∧ ((38 + x1) < 136) ∧ ((er_in (m 96 (38 + x1))) ∧ ((((m 96 (38 + x1)) ≠ 0 → Q 0 m) ∧ ((m 96 (38 + x1)) = 0 → Q 1 m))))))))) : wp_M_isCut_24 K x1 x2 m Q := by
  show er_WP K mi_M_isCut 0 0 er_SH m 24 [some (.inr 83), some (.inl x1), some (.inl x2)] [] _
  refine er_aload_n rfl rfl d_M_isCut_24 ?_
  refine er_getR fl_M_48 sh_83 (by decide) rfl (by decide) d_M_isCut_25 ?_
  refine er_bipush (by decide) d_M_isCut_28 ?_
  refine er_iload_n rfl rfl d_M_isCut_30 ?_
  refine er_iadd d_M_isCut_31 ?_
  obtain ⟨a1, a2, h⟩ := h
  refine er_zald sh_96 (by decide) a1 a2 d_M_isCut_32 ?_
  obtain ⟨a3, h⟩ := h
  refine er_if_eq (tgt := 52) (by decide) a3 d_M_isCut_33 (fun c4 => ?_) (fun c4 => ?_)
  · have h := h.1 c4
    refine er_iconst d_M_isCut_52 ?_
    exact er_iretE rfl rfl d_M_isCut_53 h
  · have h := h.2 c4
    refine er_aload_n rfl rfl d_M_isCut_36 ?_
    refine er_getR fl_M_48 sh_83 (by decide) rfl (by decide) d_M_isCut_37 ?_
    refine er_bipush (by decide) d_M_isCut_40 ?_
    refine er_iload_n rfl rfl d_M_isCut_42 ?_
    refine er_iadd d_M_isCut_43 ?_
    obtain ⟨a5, a6, h⟩ := h
    refine er_zald sh_96 (by decide) a5 a6 d_M_isCut_44 ?_
    obtain ⟨a7, h⟩ := h
    refine er_if_ne (tgt := 52) (by decide) a7 d_M_isCut_45 (fun c8 => ?_) (fun c8 => ?_)
    · have h := h.1 c8
      refine er_iconst d_M_isCut_52 ?_
      exact er_iretE rfl rfl d_M_isCut_53 h
    · have h := h.2 c8
      refine er_iconst d_M_isCut_48 ?_
      refine er_goto (tgt := 53) (by decide) d_M_isCut_49 ?_
      exact er_iretE rfl rfl d_M_isCut_53 h
theorem vc_M_isCut {K : er_K} {p1 p2 : Int} {m : er_M} {Q : Int → er_M → Prop}  (h : (0 ≤ (87 + p1)) ∧ ((87 + p1) < 136) ∧ ((er_in (m 96 (87 + p1))) ∧ ((((m 96 (87 + p1)) = 0 → wp_M_isCut_24 K p1 p2 m Q) ∧ ((m 96 (87 + p1)) ≠ 0 → (0 ≤ (38 + p2)) ∧ ((38 + p2) < 136) ∧ ((er_in (m 96 (38 + p2))) ∧ ((((m 96 (38 + p2)) = 0 → Q 1 m) ∧ ((m 96 (38 + p2)) ≠ 0 → wp_M_isCut_24 K p1 p2 m Q))))))))) : er_SI K mi_M_isCut [.inr 83, .inl p1, .inl p2] m Q := by
  refine er_start (by decide) (Nat.le_of_ble_eq_true rfl) ?_
  show er_WP K mi_M_isCut 0 0 er_SH m 0 [some (.inr 83), some (.inl p1), some (.inl p2)] [] _
  refine er_aload_n rfl rfl d_M_isCut_0 ?_
  refine er_getR fl_M_48 sh_83 (by decide) rfl (by decide) d_M_isCut_1 ?_
  refine er_bipush (by decide) d_M_isCut_4 ?_
  refine er_iload_n rfl rfl d_M_isCut_6 ?_
  refine er_iadd d_M_isCut_7 ?_
  obtain ⟨a1, a2, h⟩ := h
  refine er_zald sh_96 (by decide) a1 a2 d_M_isCut_8 ?_
  obtain ⟨a3, h⟩ := h
  refine er_if_eq (tgt := 24) (by decide) a3 d_M_isCut_9 (fun c4 => ?_) (fun c4 => ?_)
  · have h := h.1 c4
    exact er_forget [some (.inr 83), some (.inl p1), some (.inl p2)] (And.intro rfl (And.intro rfl (And.intro rfl trivial))) h
  · have h := h.2 c4
    refine er_aload_n rfl rfl d_M_isCut_12 ?_
    refine er_getR fl_M_48 sh_83 (by decide) rfl (by decide) d_M_isCut_13 ?_
    refine er_bipush (by decide) d_M_isCut_16 ?_
    refine er_iload_n rfl rfl d_M_isCut_18 ?_
    refine er_iadd d_M_isCut_19 ?_
    obtain ⟨a5, a6, h⟩ := h
    refine er_zald sh_96 (by decide) a5 a6 d_M_isCut_20 ?_
    obtain ⟨a7, h⟩ := h
    refine er_if_eq (tgt := 48) (by decide) a7 d_M_isCut_21 (fun c8 => ?_) (fun c8 => ?_)
    · have h := h.1 c8
      refine er_iconst d_M_isCut_48 ?_
      refine er_goto (tgt := 53) (by decide) d_M_isCut_49 ?_
      exact er_iretE rfl rfl d_M_isCut_53 h
    · have h := h.2 c8
      exact er_forget [some (.inr 83), some (.inl p1), some (.inl p2)] (And.intro rfl (And.intro rfl (And.intro rfl trivial))) h
def wp_M_cutChannels_9 (K : er_K) (x1 : Int) (x2 : Int) (m : er_M) (Q : Int → er_M → Prop) : Prop := er_WP K mi_M_cutChannels 0 0 er_SH m 9 [some (.inr 83), some (.inl x1), some (.inl x2), none] [] (er_Z K mi_M_cutChannels (er_PI Q))
def wp_M_cutChannels_21 (K : er_K) (x1 : Int) (x2 : Int) (x3 : Int) (m : er_M) (Q : Int → er_M → Prop) : Prop := er_WP K mi_M_cutChannels 0 0 er_SH m 21 [some (.inr 83), some (.inl x1), some (.inl x2), some (.inl x3)] [] (er_Z K mi_M_cutChannels (er_PI Q))
theorem vc_M_cutChannels_9 {K : er_K} {x1 : Int} {x2 : Int} {m : er_M} {Q : Int → er_M → Prop}  (h : (er_in x2) ∧ (er_in (m 84 0)) ∧ ((((m 84 0) ≤ x2 → Q x1 m) ∧ (x2 < (m 84 0) → wp_M_cutChannels_21 K x1 x2 0 m Q)))) : wp_M_cutChannels_9 K x1 x2 m Q := by
  show er_WP K mi_M_cutChannels 0 0 er_SH m 9 [some (.inr 83), some (.inl x1), some (.inl x2), none] [] _
  refine er_iload_n rfl rfl d_M_cutChannels_9 ?_
  refine er_aload_n rfl rfl d_M_cutChannels_10 ?_
  refine er_getR fl_M_7 sh_83 (by decide) rfl (by decide) d_M_cutChannels_11 ?_
  refine er_iconst d_M_cutChannels_14 ?_
  refine er_iald sh_84 (by decide) (by decide) (by decide) d_M_cutChannels_15 ?_
  obtain ⟨a1, a2, h⟩ := h
  refine er_icmp_ge (tgt := 121) (by decide) a1 a2 d_M_cutChannels_16 (fun c3 => ?_) (fun c3 => ?_)
  · have h := h.1 c3
    refine er_iload_n rfl rfl d_M_cutChannels_121 ?_
    exact er_iretE rfl rfl d_M_cutChannels_122 h
  · have h := h.2 c3
    refine er_iconst d_M_cutChannels_19 ?_
    refine er_istE 3 rfl (Nat.le_of_ble_eq_true rfl) (ls2 := [some (.inr 83), some (.inl x1), some (.inl x2), some (.inl 0)]) rfl d_M_cutChannels_20 ?_
    exact er_forget [some (.inr 83), some (.inl x1), some (.inl x2), some (.inl 0)] (And.intro rfl (And.intro rfl (And.intro rfl (And.intro rfl trivial)))) h
theorem vc_M_cutChannels_21 {K : er_K} {x1 : Int} {x2 : Int} {x3 : Int} {m : er_M} {Q : Int → er_M → Prop}  (h : (er_in x3) ∧ (er_in (m 84 1)) ∧ ((((m 84 1) ≤ x3 → wp_M_cutChannels_9 K x1 (x2 + 1) m Q) ∧ (x3 < (m 84 1) → (er_in (x3 + 1)) ∧ ((((m 84 1) ≤ (x3 + 1) → (er_in (x2 + 1)) ∧ (er_in (m 84 0)) ∧ ((((m 84 0) ≤ (x2 + 1) → wp_M_cutChannels_21 K ((x1 + 0) + 0) x2 (x3 + 1) m Q) ∧ ((x2 + 1) < (m 84 0) → er_SI K mi_M_tile [.inl (x2 + 1), .inl x3] m (fun v10 m9 => er_SI K mi_M_tile [.inl (x2 + 1), .inl (x3 + 1)] m9 (fun v12 m11 => er_SI K mi_M_isCut [.inr 83, .inl v10, .inl v12] m11 (fun v14 m13 => wp_M_cutChannels_21 K ((x1 + 0) + v14) x2 (x3 + 1) m13 Q))))))) ∧ ((x3 + 1) < (m 84 1) → er_SI K mi_M_tile [.inl x2, .inl (x3 + 1)] m (fun v16 m15 => er_SI K mi_M_tile [.inl (x2 + 1), .inl (x3 + 1)] m15 (fun v18 m17 => er_SI K mi_M_isCut [.inr 83, .inl v16, .inl v18] m17 (fun v20 m19 => (er_in (x2 + 1)) ∧ (er_in (m19 84 0)) ∧ ((((m19 84 0) ≤ (x2 + 1) → wp_M_cutChannels_21 K ((x1 + v20) + 0) x2 (x3 + 1) m19 Q) ∧ ((x2 + 1) < (m19 84 0) → er_SI K mi_M_tile [.inl (x2 + 1), .inl x3] m19 (fun v25 m24 => er_SI K mi_M_tile [.inl (x2 + 1), .inl (x3 + 1)] m24 (fun v27 m26 => er_SI K mi_M_isCut [.inr 83, .inl v25, .inl v27] m26 (fun v29 m28 => wp_M_cutChannels_21 K ((x1 + v20) + v29) x2 (x3 + 1) m28 Q)))))))))))))))) : wp_M_cutChannels_21 K x1 x2 x3 m Q := by
  show er_WP K mi_M_cutChannels 0 0 er_SH m 21 [some (.inr 83), some (.inl x1), some (.inl x2), some (.inl x3)] [] _
  refine er_iload_n rfl rfl d_M_cutChannels_21 ?_
  refine er_aload_n rfl rfl d_M_cutChannels_22 ?_
  refine er_getR fl_M_7 sh_83 (by decide) rfl (by decide) d_M_cutChannels_23 ?_
  refine er_iconst d_M_cutChannels_26 ?_
  refine er_iald sh_84 (by decide) (by decide) (by decide) d_M_cutChannels_27 ?_
  obtain ⟨a1, a2, h⟩ := h
  refine er_icmp_ge (tgt := 115) (by decide) a1 a2 d_M_cutChannels_28 (fun c3 => ?_) (fun c3 => ?_)
  · have h := h.1 c3
    refine er_incE (ls2 := [some (.inr 83), some (.inl x1), some (.inl (x2 + 1)), some (.inl x3)]) rfl (Nat.le_of_ble_eq_true rfl) rfl d_M_cutChannels_115 ?_
    refine er_goto (tgt := 9) (by decide) d_M_cutChannels_118 ?_
    exact er_forget [some (.inr 83), some (.inl x1), some (.inl (x2 + 1)), none] (And.intro rfl (And.intro rfl (And.intro rfl trivial))) h
  · have h := h.2 c3
    refine er_iload_n rfl rfl d_M_cutChannels_31 ?_
    refine er_iload_n rfl rfl d_M_cutChannels_32 ?_
    refine er_iconst d_M_cutChannels_33 ?_
    refine er_iadd d_M_cutChannels_34 ?_
    refine er_aload_n rfl rfl d_M_cutChannels_35 ?_
    refine er_getR fl_M_7 sh_83 (by decide) rfl (by decide) d_M_cutChannels_36 ?_
    refine er_iconst d_M_cutChannels_39 ?_
    refine er_iald sh_84 (by decide) (by decide) (by decide) d_M_cutChannels_40 ?_
    obtain ⟨a4, h⟩ := h
    refine er_icmp_ge (tgt := 67) (by decide) a4 a2 d_M_cutChannels_41 (fun c5 => ?_) (fun c5 => ?_)
    · have h := h.1 c5
      refine er_iconst d_M_cutChannels_67 ?_
      refine er_iadd d_M_cutChannels_68 ?_
      refine er_istE 1 rfl (Nat.le_of_ble_eq_true rfl) (ls2 := [some (.inr 83), some (.inl (x1 + 0)), some (.inl x2), some (.inl x3)]) rfl d_M_cutChannels_69 ?_
      refine er_iload_n rfl rfl d_M_cutChannels_70 ?_
      refine er_iload_n rfl rfl d_M_cutChannels_71 ?_
      refine er_iconst d_M_cutChannels_72 ?_
      refine er_iadd d_M_cutChannels_73 ?_
      refine er_aload_n rfl rfl d_M_cutChannels_74 ?_
      refine er_getR fl_M_7 sh_83 (by decide) rfl (by decide) d_M_cutChannels_75 ?_
      refine er_iconst d_M_cutChannels_78 ?_
      refine er_iald sh_84 (by decide) (by decide) (by decide) d_M_cutChannels_79 ?_
      obtain ⟨a6, a7, h⟩ := h
      refine er_icmp_ge (tgt := 106) (by decide) a6 a7 d_M_cutChannels_80 (fun c8 => ?_) (fun c8 => ?_)
      · have h := h.1 c8
        refine er_iconst d_M_cutChannels_106 ?_
        refine er_iadd d_M_cutChannels_107 ?_
        refine er_istE 1 rfl (Nat.le_of_ble_eq_true rfl) (ls2 := [some (.inr 83), some (.inl ((x1 + 0) + 0)), some (.inl x2), some (.inl x3)]) rfl d_M_cutChannels_108 ?_
        refine er_incE (ls2 := [some (.inr 83), some (.inl ((x1 + 0) + 0)), some (.inl x2), some (.inl (x3 + 1))]) rfl (Nat.le_of_ble_eq_true rfl) rfl d_M_cutChannels_109 ?_
        refine er_goto (tgt := 21) (by decide) d_M_cutChannels_112 ?_
        exact er_forget [some (.inr 83), some (.inl ((x1 + 0) + 0)), some (.inl x2), some (.inl (x3 + 1))] (And.intro rfl (And.intro rfl (And.intro rfl (And.intro rfl trivial)))) h
      · have h := h.2 c8
        refine er_aload_n rfl rfl d_M_cutChannels_83 ?_
        refine er_iload_n rfl rfl d_M_cutChannels_84 ?_
        refine er_iconst d_M_cutChannels_85 ?_
        refine er_iadd d_M_cutChannels_86 ?_
        refine er_iload_n rfl rfl d_M_cutChannels_87 ?_
        refine er_cS (As := [.inl (x2 + 1), .inl x3]) (st := [.inr 83, .inl (x1 + 0)]) ml_M_115 rfl mw_M_tile md_M_tile ⟨rfl, rfl⟩ rfl (Nat.le_of_ble_eq_true rfl) ⟨(Nat.le_of_ble_eq_true rfl), (Nat.le_of_ble_eq_true rfl)⟩ rfl d_M_cutChannels_88 h (fun v10 m9 h => ?_)
        refine er_iload_n rfl rfl d_M_cutChannels_91 ?_
        refine er_iconst d_M_cutChannels_92 ?_
        refine er_iadd d_M_cutChannels_93 ?_
        refine er_iload_n rfl rfl d_M_cutChannels_94 ?_
        refine er_iconst d_M_cutChannels_95 ?_
        refine er_iadd d_M_cutChannels_96 ?_
        refine er_cS (As := [.inl (x2 + 1), .inl (x3 + 1)]) (st := [.inl v10, .inr 83, .inl (x1 + 0)]) ml_M_115 rfl mw_M_tile md_M_tile ⟨rfl, rfl⟩ rfl (Nat.le_of_ble_eq_true rfl) ⟨(Nat.le_of_ble_eq_true rfl), (Nat.le_of_ble_eq_true rfl)⟩ rfl d_M_cutChannels_97 h (fun v12 m11 h => ?_)
        refine er_cVI (As := [.inl v10, .inl v12]) (st := [.inl (x1 + 0)]) ml_M_149 mw_M_isCut md_M_isCut ⟨rfl, rfl⟩ rfl (Nat.le_of_ble_eq_true rfl) sh_83 rfl ⟨(Nat.le_of_ble_eq_true rfl), (Nat.le_of_ble_eq_true rfl)⟩ rfl d_M_cutChannels_100 h (fun v14 m13 h => ?_)
        refine er_goto (tgt := 107) (by decide) d_M_cutChannels_103 ?_
        refine er_iadd d_M_cutChannels_107 ?_
        refine er_istE 1 rfl (Nat.le_of_ble_eq_true rfl) (ls2 := [some (.inr 83), some (.inl ((x1 + 0) + v14)), some (.inl x2), some (.inl x3)]) rfl d_M_cutChannels_108 ?_
        refine er_incE (ls2 := [some (.inr 83), some (.inl ((x1 + 0) + v14)), some (.inl x2), some (.inl (x3 + 1))]) rfl (Nat.le_of_ble_eq_true rfl) rfl d_M_cutChannels_109 ?_
        refine er_goto (tgt := 21) (by decide) d_M_cutChannels_112 ?_
        exact er_forget [some (.inr 83), some (.inl ((x1 + 0) + v14)), some (.inl x2), some (.inl (x3 + 1))] (And.intro rfl (And.intro rfl (And.intro rfl (And.intro rfl trivial)))) h
    · have h := h.2 c5
      refine er_aload_n rfl rfl d_M_cutChannels_44 ?_
      refine er_iload_n rfl rfl d_M_cutChannels_45 ?_
      refine er_iload_n rfl rfl d_M_cutChannels_46 ?_
      refine er_iconst d_M_cutChannels_47 ?_
      refine er_iadd d_M_cutChannels_48 ?_
      refine er_cS (As := [.inl x2, .inl (x3 + 1)]) (st := [.inr 83, .inl x1]) ml_M_115 rfl mw_M_tile md_M_tile ⟨rfl, rfl⟩ rfl (Nat.le_of_ble_eq_true rfl) ⟨(Nat.le_of_ble_eq_true rfl), (Nat.le_of_ble_eq_true rfl)⟩ rfl d_M_cutChannels_49 h (fun v16 m15 h => ?_)
      refine er_iload_n rfl rfl d_M_cutChannels_52 ?_
      refine er_iconst d_M_cutChannels_53 ?_
      refine er_iadd d_M_cutChannels_54 ?_
      refine er_iload_n rfl rfl d_M_cutChannels_55 ?_
      refine er_iconst d_M_cutChannels_56 ?_
      refine er_iadd d_M_cutChannels_57 ?_
      refine er_cS (As := [.inl (x2 + 1), .inl (x3 + 1)]) (st := [.inl v16, .inr 83, .inl x1]) ml_M_115 rfl mw_M_tile md_M_tile ⟨rfl, rfl⟩ rfl (Nat.le_of_ble_eq_true rfl) ⟨(Nat.le_of_ble_eq_true rfl), (Nat.le_of_ble_eq_true rfl)⟩ rfl d_M_cutChannels_58 h (fun v18 m17 h => ?_)
      refine er_cVI (As := [.inl v16, .inl v18]) (st := [.inl x1]) ml_M_149 mw_M_isCut md_M_isCut ⟨rfl, rfl⟩ rfl (Nat.le_of_ble_eq_true rfl) sh_83 rfl ⟨(Nat.le_of_ble_eq_true rfl), (Nat.le_of_ble_eq_true rfl)⟩ rfl d_M_cutChannels_61 h (fun v20 m19 h => ?_)
      refine er_goto (tgt := 68) (by decide) d_M_cutChannels_64 ?_
      refine er_iadd d_M_cutChannels_68 ?_
      refine er_istE 1 rfl (Nat.le_of_ble_eq_true rfl) (ls2 := [some (.inr 83), some (.inl (x1 + v20)), some (.inl x2), some (.inl x3)]) rfl d_M_cutChannels_69 ?_
      refine er_iload_n rfl rfl d_M_cutChannels_70 ?_
      refine er_iload_n rfl rfl d_M_cutChannels_71 ?_
      refine er_iconst d_M_cutChannels_72 ?_
      refine er_iadd d_M_cutChannels_73 ?_
      refine er_aload_n rfl rfl d_M_cutChannels_74 ?_
      refine er_getR fl_M_7 sh_83 (by decide) rfl (by decide) d_M_cutChannels_75 ?_
      refine er_iconst d_M_cutChannels_78 ?_
      refine er_iald sh_84 (by decide) (by decide) (by decide) d_M_cutChannels_79 ?_
      obtain ⟨a21, a22, h⟩ := h
      refine er_icmp_ge (tgt := 106) (by decide) a21 a22 d_M_cutChannels_80 (fun c23 => ?_) (fun c23 => ?_)
      · have h := h.1 c23
        refine er_iconst d_M_cutChannels_106 ?_
        refine er_iadd d_M_cutChannels_107 ?_
        refine er_istE 1 rfl (Nat.le_of_ble_eq_true rfl) (ls2 := [some (.inr 83), some (.inl ((x1 + v20) + 0)), some (.inl x2), some (.inl x3)]) rfl d_M_cutChannels_108 ?_
        refine er_incE (ls2 := [some (.inr 83), some (.inl ((x1 + v20) + 0)), some (.inl x2), some (.inl (x3 + 1))]) rfl (Nat.le_of_ble_eq_true rfl) rfl d_M_cutChannels_109 ?_
        refine er_goto (tgt := 21) (by decide) d_M_cutChannels_112 ?_
        exact er_forget [some (.inr 83), some (.inl ((x1 + v20) + 0)), some (.inl x2), some (.inl (x3 + 1))] (And.intro rfl (And.intro rfl (And.intro rfl (And.intro rfl trivial)))) h
      · have h := h.2 c23
        refine er_aload_n rfl rfl d_M_cutChannels_83 ?_
        refine er_iload_n rfl rfl d_M_cutChannels_84 ?_
        refine er_iconst d_M_cutChannels_85 ?_
        refine er_iadd d_M_cutChannels_86 ?_
        refine er_iload_n rfl rfl d_M_cutChannels_87 ?_
        refine er_cS (As := [.inl (x2 + 1), .inl x3]) (st := [.inr 83, .inl (x1 + v20)]) ml_M_115 rfl mw_M_tile md_M_tile ⟨rfl, rfl⟩ rfl (Nat.le_of_ble_eq_true rfl) ⟨(Nat.le_of_ble_eq_true rfl), (Nat.le_of_ble_eq_true rfl)⟩ rfl d_M_cutChannels_88 h (fun v25 m24 h => ?_)
        refine er_iload_n rfl rfl d_M_cutChannels_91 ?_
        refine er_iconst d_M_cutChannels_92 ?_
        refine er_iadd d_M_cutChannels_93 ?_
        refine er_iload_n rfl rfl d_M_cutChannels_94 ?_
        refine er_iconst d_M_cutChannels_95 ?_
        refine er_iadd d_M_cutChannels_96 ?_
        refine er_cS (As := [.inl (x2 + 1), .inl (x3 + 1)]) (st := [.inl v25, .inr 83, .inl (x1 + v20)]) ml_M_115 rfl mw_M_tile md_M_tile ⟨rfl, rfl⟩ rfl (Nat.le_of_ble_eq_true rfl) ⟨(Nat.le_of_ble_eq_true rfl), (Nat.le_of_ble_eq_true rfl)⟩ rfl d_M_cutChannels_97 h (fun v27 m26 h => ?_)
        refine er_cVI (As := [.inl v25, .inl v27]) (st := [.inl (x1 + v20)]) ml_M_149 mw_M_isCut md_M_isCut ⟨rfl, rfl⟩ rfl (Nat.le_of_ble_eq_true rfl) sh_83 rfl ⟨(Nat.le_of_ble_eq_true rfl), (Nat.le_of_ble_eq_true rfl)⟩ rfl d_M_cutChannels_100 h (fun v29 m28 h => ?_)
        refine er_goto (tgt := 107) (by decide) d_M_cutChannels_103 ?_
        refine er_iadd d_M_cutChannels_107 ?_
        refine er_istE 1 rfl (Nat.le_of_ble_eq_true rfl) (ls2 := [some (.inr 83), some (.inl ((x1 + v20) + v29)), some (.inl x2), some (.inl x3)]) rfl d_M_cutChannels_108 ?_
        refine er_incE (ls2 := [some (.inr 83), some (.inl ((x1 + v20) + v29)), some (.inl x2), some (.inl (x3 + 1))]) rfl (Nat.le_of_ble_eq_true rfl) rfl d_M_cutChannels_109 ?_
        refine er_goto (tgt := 21) (by decide) d_M_cutChannels_112 ?_
        exact er_forget [some (.inr 83), some (.inl ((x1 + v20) + v29)), some (.inl x2), some (.inl (x3 + 1))] (And.intro rfl (And.intro rfl (And.intro rfl (And.intro rfl trivial)))) h
theorem vc_M_cutChannels {K : er_K} {m : er_M} {Q : Int → er_M → Prop}  (h : er_SI K mi_M_escape [.inr 83] m (fun v2 m1 => wp_M_cutChannels_9 K 0 0 m1 Q)) : er_SI K mi_M_cutChannels [.inr 83] m Q := by
  refine er_start (by decide) (Nat.le_of_ble_eq_true rfl) ?_
  show er_WP K mi_M_cutChannels 0 0 er_SH m 0 [some (.inr 83), none, none, none] [] _
  refine er_aload_n rfl rfl d_M_cutChannels_0 ?_
  refine er_cVI (As := []) (st := []) ml_M_146 mw_M_escape md_M_escape ⟨rfl, rfl⟩ rfl (Nat.le_of_ble_eq_true rfl) sh_83 rfl ⟨(Nat.le_of_ble_eq_true rfl), (Nat.le_of_ble_eq_true rfl)⟩ rfl d_M_cutChannels_1 h (fun v2 m1 h => ?_)
  refine er_pop d_M_cutChannels_4 ?_
  refine er_iconst d_M_cutChannels_5 ?_
  refine er_istE 1 rfl (Nat.le_of_ble_eq_true rfl) (ls2 := [some (.inr 83), some (.inl 0), none, none]) rfl d_M_cutChannels_6 ?_
  refine er_iconst d_M_cutChannels_7 ?_
  refine er_istE 2 rfl (Nat.le_of_ble_eq_true rfl) (ls2 := [some (.inr 83), some (.inl 0), some (.inl 0), none]) rfl d_M_cutChannels_8 ?_
  exact er_forget [some (.inr 83), some (.inl 0), some (.inl 0), none] (And.intro rfl (And.intro rfl (And.intro rfl trivial))) h
theorem vc_M_ring {K : er_K} {p1 : Int} {m : er_M} {Q : Int → er_M → Prop}  (h : (0 ≤ p1) ∧ (p1 < 2147483648) ∧ ((er_in (p1 / 6)) ∧ (er_in (p1 % 6)) ∧ ((((p1 % 6) ≤ (p1 / 6) → (er_in (((m 84 0) - 1) - (p1 / 6))) ∧ ((((p1 % 6) ≤ (((m 84 0) - 1) - (p1 / 6)) → (er_in (((m 84 1) - 1) - (p1 % 6))) ∧ ((((p1 % 6) ≤ (((m 84 1) - 1) - (p1 % 6)) → Q (p1 % 6) m) ∧ ((((m 84 1) - 1) - (p1 % 6)) < (p1 % 6) → Q (((m 84 1) - 1) - (p1 % 6)) m)))) ∧ ((((m 84 0) - 1) - (p1 / 6)) < (p1 % 6) → (er_in (((m 84 1) - 1) - (p1 % 6))) ∧ ((((((m 84 0) - 1) - (p1 / 6)) ≤ (((m 84 1) - 1) - (p1 % 6)) → Q (((m 84 0) - 1) - (p1 / 6)) m) ∧ ((((m 84 1) - 1) - (p1 % 6)) < (((m 84 0) - 1) - (p1 / 6)) → Q (((m 84 1) - 1) - (p1 % 6)) m))))))) ∧ ((p1 / 6) < (p1 % 6) → (er_in (((m 84 0) - 1) - (p1 / 6))) ∧ ((((p1 / 6) ≤ (((m 84 0) - 1) - (p1 / 6)) → (er_in (((m 84 1) - 1) - (p1 % 6))) ∧ ((((p1 / 6) ≤ (((m 84 1) - 1) - (p1 % 6)) → Q (p1 / 6) m) ∧ ((((m 84 1) - 1) - (p1 % 6)) < (p1 / 6) → Q (((m 84 1) - 1) - (p1 % 6)) m)))) ∧ ((((m 84 0) - 1) - (p1 / 6)) < (p1 / 6) → (er_in (((m 84 1) - 1) - (p1 % 6))) ∧ ((((((m 84 0) - 1) - (p1 / 6)) ≤ (((m 84 1) - 1) - (p1 % 6)) → Q (((m 84 0) - 1) - (p1 / 6)) m) ∧ ((((m 84 1) - 1) - (p1 % 6)) < (((m 84 0) - 1) - (p1 / 6)) → Q (((m 84 1) - 1) - (p1 % 6)) m))))))))))) : er_SI K mi_M_ring [.inr 83, .inl p1] m Q := by
  refine er_start (by decide) (Nat.le_of_ble_eq_true rfl) ?_
  show er_WP K mi_M_ring 0 0 er_SH m 0 [some (.inr 83), some (.inl p1), none, none, none] [] _
  refine er_iload_n rfl rfl d_M_ring_0 ?_
  refine er_bipush (by decide) d_M_ring_1 ?_
  obtain ⟨a1, a2, h⟩ := h
  refine er_idiv a1 a2 (by decide) (by decide) d_M_ring_3 ?_
  refine er_istE 2 rfl (Nat.le_of_ble_eq_true rfl) (ls2 := [some (.inr 83), some (.inl p1), some (.inl (p1 / 6)), none, none]) rfl d_M_ring_4 ?_
  refine er_iload_n rfl rfl d_M_ring_5 ?_
  refine er_bipush (by decide) d_M_ring_6 ?_
  refine er_irem a1 a2 (by decide) (by decide) d_M_ring_8 ?_
  refine er_istE 3 rfl (Nat.le_of_ble_eq_true rfl) (ls2 := [some (.inr 83), some (.inl p1), some (.inl (p1 / 6)), some (.inl (p1 % 6)), none]) rfl d_M_ring_9 ?_
  refine er_iload_n rfl rfl d_M_ring_10 ?_
  refine er_iload_n rfl rfl d_M_ring_11 ?_
  obtain ⟨a3, a4, h⟩ := h
  refine er_icmp_ge (tgt := 19) (by decide) a3 a4 d_M_ring_12 (fun c5 => ?_) (fun c5 => ?_)
  · have h := h.1 c5
    refine er_iload_n rfl rfl d_M_ring_19 ?_
    refine er_istF (Nat.le_of_ble_eq_true rfl) (ls2 := [some (.inr 83), some (.inl p1), some (.inl (p1 / 6)), some (.inl (p1 % 6)), some (.inl (p1 % 6))]) rfl d_M_ring_20 ?_
    refine er_aload_n rfl rfl d_M_ring_22 ?_
    refine er_getR fl_M_7 sh_83 (by decide) rfl (by decide) d_M_ring_23 ?_
    refine er_iconst d_M_ring_26 ?_
    refine er_iald sh_84 (by decide) (by decide) (by decide) d_M_ring_27 ?_
    refine er_iconst d_M_ring_28 ?_
    refine er_isub d_M_ring_29 ?_
    refine er_iload_n rfl rfl d_M_ring_30 ?_
    refine er_isub d_M_ring_31 ?_
    refine er_iload rfl d_M_ring_32 ?_
    obtain ⟨a6, h⟩ := h
    refine er_icmp_ge (tgt := 50) (by decide) a6 a4 d_M_ring_34 (fun c7 => ?_) (fun c7 => ?_)
    · have h := h.1 c7
      refine er_iload rfl d_M_ring_50 ?_
      refine er_istF (Nat.le_of_ble_eq_true rfl) (ls2 := [some (.inr 83), some (.inl p1), some (.inl (p1 / 6)), some (.inl (p1 % 6)), some (.inl (p1 % 6))]) rfl d_M_ring_52 ?_
      refine er_aload_n rfl rfl d_M_ring_54 ?_
      refine er_getR fl_M_7 sh_83 (by decide) rfl (by decide) d_M_ring_55 ?_
      refine er_iconst d_M_ring_58 ?_
      refine er_iald sh_84 (by decide) (by decide) (by decide) d_M_ring_59 ?_
      refine er_iconst d_M_ring_60 ?_
      refine er_isub d_M_ring_61 ?_
      refine er_iload_n rfl rfl d_M_ring_62 ?_
      refine er_isub d_M_ring_63 ?_
      refine er_iload rfl d_M_ring_64 ?_
      obtain ⟨a8, h⟩ := h
      refine er_icmp_ge (tgt := 82) (by decide) a8 a4 d_M_ring_66 (fun c9 => ?_) (fun c9 => ?_)
      · have h := h.1 c9
        refine er_iload rfl d_M_ring_82 ?_
        exact er_iretE rfl rfl d_M_ring_84 h
      · have h := h.2 c9
        refine er_aload_n rfl rfl d_M_ring_69 ?_
        refine er_getR fl_M_7 sh_83 (by decide) rfl (by decide) d_M_ring_70 ?_
        refine er_iconst d_M_ring_73 ?_
        refine er_iald sh_84 (by decide) (by decide) (by decide) d_M_ring_74 ?_
        refine er_iconst d_M_ring_75 ?_
        refine er_isub d_M_ring_76 ?_
        refine er_iload_n rfl rfl d_M_ring_77 ?_
        refine er_isub d_M_ring_78 ?_
        refine er_goto (tgt := 84) (by decide) d_M_ring_79 ?_
        exact er_iretE rfl rfl d_M_ring_84 h
    · have h := h.2 c7
      refine er_aload_n rfl rfl d_M_ring_37 ?_
      refine er_getR fl_M_7 sh_83 (by decide) rfl (by decide) d_M_ring_38 ?_
      refine er_iconst d_M_ring_41 ?_
      refine er_iald sh_84 (by decide) (by decide) (by decide) d_M_ring_42 ?_
      refine er_iconst d_M_ring_43 ?_
      refine er_isub d_M_ring_44 ?_
      refine er_iload_n rfl rfl d_M_ring_45 ?_
      refine er_isub d_M_ring_46 ?_
      refine er_goto (tgt := 52) (by decide) d_M_ring_47 ?_
      refine er_istF (Nat.le_of_ble_eq_true rfl) (ls2 := [some (.inr 83), some (.inl p1), some (.inl (p1 / 6)), some (.inl (p1 % 6)), some (.inl (((m 84 0) - 1) - (p1 / 6)))]) rfl d_M_ring_52 ?_
      refine er_aload_n rfl rfl d_M_ring_54 ?_
      refine er_getR fl_M_7 sh_83 (by decide) rfl (by decide) d_M_ring_55 ?_
      refine er_iconst d_M_ring_58 ?_
      refine er_iald sh_84 (by decide) (by decide) (by decide) d_M_ring_59 ?_
      refine er_iconst d_M_ring_60 ?_
      refine er_isub d_M_ring_61 ?_
      refine er_iload_n rfl rfl d_M_ring_62 ?_
      refine er_isub d_M_ring_63 ?_
      refine er_iload rfl d_M_ring_64 ?_
      obtain ⟨a10, h⟩ := h
      refine er_icmp_ge (tgt := 82) (by decide) a10 a6 d_M_ring_66 (fun c11 => ?_) (fun c11 => ?_)
      · have h := h.1 c11
        refine er_iload rfl d_M_ring_82 ?_
        exact er_iretE rfl rfl d_M_ring_84 h
      · have h := h.2 c11
        refine er_aload_n rfl rfl d_M_ring_69 ?_
        refine er_getR fl_M_7 sh_83 (by decide) rfl (by decide) d_M_ring_70 ?_
        refine er_iconst d_M_ring_73 ?_
        refine er_iald sh_84 (by decide) (by decide) (by decide) d_M_ring_74 ?_
        refine er_iconst d_M_ring_75 ?_
        refine er_isub d_M_ring_76 ?_
        refine er_iload_n rfl rfl d_M_ring_77 ?_
        refine er_isub d_M_ring_78 ?_
        refine er_goto (tgt := 84) (by decide) d_M_ring_79 ?_
        exact er_iretE rfl rfl d_M_ring_84 h
  · have h := h.2 c5
    refine er_iload_n rfl rfl d_M_ring_15 ?_
    refine er_goto (tgt := 20) (by decide) d_M_ring_16 ?_
    refine er_istF (Nat.le_of_ble_eq_true rfl) (ls2 := [some (.inr 83), some (.inl p1), some (.inl (p1 / 6)), some (.inl (p1 % 6)), some (.inl (p1 / 6))]) rfl d_M_ring_20 ?_
    refine er_aload_n rfl rfl d_M_ring_22 ?_
    refine er_getR fl_M_7 sh_83 (by decide) rfl (by decide) d_M_ring_23 ?_
    refine er_iconst d_M_ring_26 ?_
    refine er_iald sh_84 (by decide) (by decide) (by decide) d_M_ring_27 ?_
    refine er_iconst d_M_ring_28 ?_
    refine er_isub d_M_ring_29 ?_
    refine er_iload_n rfl rfl d_M_ring_30 ?_
    refine er_isub d_M_ring_31 ?_
    refine er_iload rfl d_M_ring_32 ?_
    obtain ⟨a12, h⟩ := h
    refine er_icmp_ge (tgt := 50) (by decide) a12 a3 d_M_ring_34 (fun c13 => ?_) (fun c13 => ?_)
    · have h := h.1 c13
      refine er_iload rfl d_M_ring_50 ?_
      refine er_istF (Nat.le_of_ble_eq_true rfl) (ls2 := [some (.inr 83), some (.inl p1), some (.inl (p1 / 6)), some (.inl (p1 % 6)), some (.inl (p1 / 6))]) rfl d_M_ring_52 ?_
      refine er_aload_n rfl rfl d_M_ring_54 ?_
      refine er_getR fl_M_7 sh_83 (by decide) rfl (by decide) d_M_ring_55 ?_
      refine er_iconst d_M_ring_58 ?_
      refine er_iald sh_84 (by decide) (by decide) (by decide) d_M_ring_59 ?_
      refine er_iconst d_M_ring_60 ?_
      refine er_isub d_M_ring_61 ?_
      refine er_iload_n rfl rfl d_M_ring_62 ?_
      refine er_isub d_M_ring_63 ?_
      refine er_iload rfl d_M_ring_64 ?_
      obtain ⟨a14, h⟩ := h
      refine er_icmp_ge (tgt := 82) (by decide) a14 a3 d_M_ring_66 (fun c15 => ?_) (fun c15 => ?_)
      · have h := h.1 c15
        refine er_iload rfl d_M_ring_82 ?_
        exact er_iretE rfl rfl d_M_ring_84 h
      · have h := h.2 c15
        refine er_aload_n rfl rfl d_M_ring_69 ?_
        refine er_getR fl_M_7 sh_83 (by decide) rfl (by decide) d_M_ring_70 ?_
        refine er_iconst d_M_ring_73 ?_
        refine er_iald sh_84 (by decide) (by decide) (by decide) d_M_ring_74 ?_
        refine er_iconst d_M_ring_75 ?_
        refine er_isub d_M_ring_76 ?_
        refine er_iload_n rfl rfl d_M_ring_77 ?_
        refine er_isub d_M_ring_78 ?_
        refine er_goto (tgt := 84) (by decide) d_M_ring_79 ?_
        exact er_iretE rfl rfl d_M_ring_84 h
    · have h := h.2 c13
      refine er_aload_n rfl rfl d_M_ring_37 ?_
      refine er_getR fl_M_7 sh_83 (by decide) rfl (by decide) d_M_ring_38 ?_
      refine er_iconst d_M_ring_41 ?_
      refine er_iald sh_84 (by decide) (by decide) (by decide) d_M_ring_42 ?_
      refine er_iconst d_M_ring_43 ?_
      refine er_isub d_M_ring_44 ?_
      refine er_iload_n rfl rfl d_M_ring_45 ?_
      refine er_isub d_M_ring_46 ?_
      refine er_goto (tgt := 52) (by decide) d_M_ring_47 ?_
      refine er_istF (Nat.le_of_ble_eq_true rfl) (ls2 := [some (.inr 83), some (.inl p1), some (.inl (p1 / 6)), some (.inl (p1 % 6)), some (.inl (((m 84 0) - 1) - (p1 / 6)))]) rfl d_M_ring_52 ?_
      refine er_aload_n rfl rfl d_M_ring_54 ?_
      refine er_getR fl_M_7 sh_83 (by decide) rfl (by decide) d_M_ring_55 ?_
      refine er_iconst d_M_ring_58 ?_
      refine er_iald sh_84 (by decide) (by decide) (by decide) d_M_ring_59 ?_
      refine er_iconst d_M_ring_60 ?_
      refine er_isub d_M_ring_61 ?_
      refine er_iload_n rfl rfl d_M_ring_62 ?_
      refine er_isub d_M_ring_63 ?_
      refine er_iload rfl d_M_ring_64 ?_
      obtain ⟨a16, h⟩ := h
      refine er_icmp_ge (tgt := 82) (by decide) a16 a12 d_M_ring_66 (fun c17 => ?_) (fun c17 => ?_)
      · have h := h.1 c17
        refine er_iload rfl d_M_ring_82 ?_
        exact er_iretE rfl rfl d_M_ring_84 h
      · have h := h.2 c17
        refine er_aload_n rfl rfl d_M_ring_69 ?_
        refine er_getR fl_M_7 sh_83 (by decide) rfl (by decide) d_M_ring_70 ?_
        refine er_iconst d_M_ring_73 ?_
        refine er_iald sh_84 (by decide) (by decide) (by decide) d_M_ring_74 ?_
        refine er_iconst d_M_ring_75 ?_
        refine er_isub d_M_ring_76 ?_
        refine er_iload_n rfl rfl d_M_ring_77 ?_
        refine er_isub d_M_ring_78 ?_
        refine er_goto (tgt := 84) (by decide) d_M_ring_79 ?_
        exact er_iretE rfl rfl d_M_ring_84 h
theorem vc_M_rank {K : er_K} {p1 p2 : Int} {m : er_M} {Q : Int → er_M → Prop}  (h : (er_in p1) ∧ (((p1 = 0 → Q p2 m) ∧ (p1 = 1 → (0 ≤ p2) ∧ (p2 < 2147483648) ∧ (Q ((6 * (p2 % 6)) + (p2 / 6)) m)) ∧ (p1 = 2 → er_SI K mi_M_ring [.inr 83, .inl p2] m (fun v5 m4 => Q ((36 * v5) + p2) m4)) ∧ (p1 < 0 ∨ 2 < p1 → er_SI K mi_M_ring [.inr 83, .inl p2] m (fun v7 m6 => Q ((36 * (5 - v7)) + p2) m6))))) : er_SI K mi_M_rank [.inr 83, .inl p1, .inl p2] m Q := by
  refine er_start (by decide) (Nat.le_of_ble_eq_true rfl) ?_
  show er_WP K mi_M_rank 0 0 er_SH m 0 [some (.inr 83), some (.inl p1), some (.inl p2)] [] _
  refine er_iload_n rfl rfl d_M_rank_0 ?_
  obtain ⟨a1, h⟩ := h
  rcases (by omega : p1 = 0 ∨ p1 = 1 ∨ p1 = 2 ∨ (p1 < 0 ∨ 2 < p1)) with c8 | c8 | c8 | c8
  · have h := h.1 c8
    refine er_tabAt (tgt := 28) 0 c8 (by decide) (by decide) (by decide) rfl (by decide) d_M_rank_1 ?_
    refine er_iload_n rfl rfl d_M_rank_28 ?_
    exact er_iretE rfl rfl d_M_rank_29 h
  · have h := h.2.1 c8
    refine er_tabAt (tgt := 30) 1 c8 (by decide) (by decide) (by decide) rfl (by decide) d_M_rank_1 ?_
    refine er_bipush (by decide) d_M_rank_30 ?_
    refine er_iload_n rfl rfl d_M_rank_32 ?_
    refine er_bipush (by decide) d_M_rank_33 ?_
    obtain ⟨a2, a3, h⟩ := h
    refine er_irem a2 a3 (by decide) (by decide) d_M_rank_35 ?_
    refine er_imul d_M_rank_36 ?_
    refine er_iload_n rfl rfl d_M_rank_37 ?_
    refine er_bipush (by decide) d_M_rank_38 ?_
    refine er_idiv a2 a3 (by decide) (by decide) d_M_rank_40 ?_
    refine er_iadd d_M_rank_41 ?_
    exact er_iretE rfl rfl d_M_rank_42 h
  · have h := h.2.2.1 c8
    refine er_tabAt (tgt := 43) 2 c8 (by decide) (by decide) (by decide) rfl (by decide) d_M_rank_1 ?_
    refine er_bipush (by decide) d_M_rank_43 ?_
    refine er_aload_n rfl rfl d_M_rank_45 ?_
    refine er_iload_n rfl rfl d_M_rank_46 ?_
    refine er_cVI (As := [.inl p2]) (st := [.inl 36]) ml_M_152 mw_M_ring md_M_ring ⟨rfl, rfl⟩ rfl (Nat.le_of_ble_eq_true rfl) sh_83 rfl ⟨(Nat.le_of_ble_eq_true rfl), (Nat.le_of_ble_eq_true rfl)⟩ rfl d_M_rank_47 h (fun v5 m4 h => ?_)
    refine er_imul d_M_rank_50 ?_
    refine er_iload_n rfl rfl d_M_rank_51 ?_
    refine er_iadd d_M_rank_52 ?_
    exact er_iretE rfl rfl d_M_rank_53 h
  · have h := h.2.2.2 c8
    refine er_tabOut (tgt := 54) a1 c8 (by decide) d_M_rank_1 ?_
    refine er_bipush (by decide) d_M_rank_54 ?_
    refine er_iconst d_M_rank_56 ?_
    refine er_aload_n rfl rfl d_M_rank_57 ?_
    refine er_iload_n rfl rfl d_M_rank_58 ?_
    refine er_cVI (As := [.inl p2]) (st := [.inl 5, .inl 36]) ml_M_152 mw_M_ring md_M_ring ⟨rfl, rfl⟩ rfl (Nat.le_of_ble_eq_true rfl) sh_83 rfl ⟨(Nat.le_of_ble_eq_true rfl), (Nat.le_of_ble_eq_true rfl)⟩ rfl d_M_rank_59 h (fun v7 m6 h => ?_)
    refine er_isub d_M_rank_62 ?_
    refine er_imul d_M_rank_63 ?_
    refine er_iload_n rfl rfl d_M_rank_64 ?_
    refine er_iadd d_M_rank_65 ?_
    exact er_iretE rfl rfl d_M_rank_66 h
def wp_M_sort_7 (K : er_K) (x1 : Int) (x2 : Int) (m : er_M) (Q : er_M → Prop) : Prop := er_WP K mi_M_sort 0 0 er_SH m 7 [some (.inr 83), some (.inl x1), some (.inl x2), none] [] (er_Z K mi_M_sort (er_PV Q))
def wp_M_sort_30 (K : er_K) (x1 : Int) (x2 : Int) (x3 : Int) (m : er_M) (Q : er_M → Prop) : Prop := er_WP K mi_M_sort 0 0 er_SH m 30 [some (.inr 83), some (.inl x1), some (.inl x2), some (.inl x3)] [] (er_Z K mi_M_sort (er_PV Q))
def wp_M_sort_76 (K : er_K) (x1 : Int) (x2 : Int) (x3 : Int) (m : er_M) (Q : er_M → Prop) : Prop := er_WP K mi_M_sort 0 0 er_SH m 76 [some (.inr 83), some (.inl x1), some (.inl x2), some (.inl x3)] [] (er_Z K mi_M_sort (er_PV Q))
theorem vc_M_sort_7 {K : er_K} {x1 : Int} {x2 : Int} {m : er_M} {Q : er_M → Prop}  (h : (er_in x2) ∧ (((36 ≤ x2 → Q m) ∧ (x2 < 36 → (0 ≤ (4 + x2)) ∧ ((4 + x2) < 112) ∧ ((er_in (m 84 (4 + x2))) ∧ ((((m 84 (4 + x2)) ≠ 1 → wp_M_sort_7 K x1 (x2 + 1) m Q) ∧ ((m 84 (4 + x2)) = 1 → wp_M_sort_30 K x1 x2 (m 83 20) m Q)))))))) : wp_M_sort_7 K x1 x2 m Q := by
  show er_WP K mi_M_sort 0 0 er_SH m 7 [some (.inr 83), some (.inl x1), some (.inl x2), none] [] _
  refine er_iload_n rfl rfl d_M_sort_7 ?_
  refine er_bipush (by decide) d_M_sort_8 ?_
  obtain ⟨a1, h⟩ := h
  refine er_icmp_ge (tgt := 99) (by decide) a1 (by decide) d_M_sort_10 (fun c2 => ?_) (fun c2 => ?_)
  · have h := h.1 c2
    exact er_vretE rfl rfl d_M_sort_99 h
  · have h := h.2 c2
    refine er_aload_n rfl rfl d_M_sort_13 ?_
    refine er_getR fl_M_7 sh_83 (by decide) rfl (by decide) d_M_sort_14 ?_
    refine er_iconst d_M_sort_17 ?_
    refine er_iload_n rfl rfl d_M_sort_18 ?_
    refine er_iadd d_M_sort_19 ?_
    obtain ⟨a3, a4, h⟩ := h
    refine er_iald sh_84 (by decide) a3 a4 d_M_sort_20 ?_
    refine er_iconst d_M_sort_21 ?_
    obtain ⟨a5, h⟩ := h
    refine er_icmp_ne (tgt := 93) (by decide) a5 (by decide) d_M_sort_22 (fun c6 => ?_) (fun c6 => ?_)
    · have h := h.1 c6
      refine er_incE (ls2 := [some (.inr 83), some (.inl x1), some (.inl (x2 + 1)), none]) rfl (Nat.le_of_ble_eq_true rfl) rfl d_M_sort_93 ?_
      refine er_goto (tgt := 7) (by decide) d_M_sort_96 ?_
      exact er_forget [some (.inr 83), some (.inl x1), some (.inl (x2 + 1)), none] (And.intro rfl (And.intro rfl (And.intro rfl trivial))) h
    · have h := h.2 c6
      refine er_aload_n rfl rfl d_M_sort_25 ?_
      refine er_getIE 20 rfl fl_M_156 sh_83 (by decide) rfl d_M_sort_26 ?_
      refine er_istE 3 rfl (Nat.le_of_ble_eq_true rfl) (ls2 := [some (.inr 83), some (.inl x1), some (.inl x2), some (.inl (m 83 20))]) rfl d_M_sort_29 ?_
      exact er_forget [some (.inr 83), some (.inl x1), some (.inl x2), some (.inl (m 83 20))] (And.intro rfl (And.intro rfl (And.intro rfl (And.intro rfl trivial)))) h
theorem vc_M_sort_30 {K : er_K} {x1 : Int} {x2 : Int} {x3 : Int} {m : er_M} {Q : er_M → Prop}  (h : (er_in x3) ∧ (((x3 ≤ 0 → wp_M_sort_76 K x1 x2 x3 m Q) ∧ (0 < x3 → (0 ≤ (x3 - 1)) ∧ ((x3 - 1) < 36) ∧ (er_SI K mi_M_rank [.inr 83, .inl x1, .inl (m 98 (x3 - 1))] m (fun v6 m5 => er_SI K mi_M_rank [.inr 83, .inl x1, .inl x2] m5 (fun v8 m7 => (er_in v6) ∧ (er_in v8) ∧ (((v6 ≤ v8 → wp_M_sort_76 K x1 x2 x3 m7 Q) ∧ (v8 < v6 → (0 ≤ x3) ∧ (x3 < 36) ∧ (∀ m14 : er_M, m14 = er_st m7 98 x3 (m7 98 (x3 - 1)) → wp_M_sort_30 K x1 x2 (x3 + (-1)) m14 Q))))))))))) : wp_M_sort_30 K x1 x2 x3 m Q := by
  show er_WP K mi_M_sort 0 0 er_SH m 30 [some (.inr 83), some (.inl x1), some (.inl x2), some (.inl x3)] [] _
  refine er_iload_n rfl rfl d_M_sort_30 ?_
  obtain ⟨a1, h⟩ := h
  refine er_if_le (tgt := 76) (by decide) a1 d_M_sort_31 (fun c2 => ?_) (fun c2 => ?_)
  · have h := h.1 c2
    exact er_forget [some (.inr 83), some (.inl x1), some (.inl x2), some (.inl x3)] (And.intro rfl (And.intro rfl (And.intro rfl (And.intro rfl trivial)))) h
  · have h := h.2 c2
    refine er_aload_n rfl rfl d_M_sort_34 ?_
    refine er_iload_n rfl rfl d_M_sort_35 ?_
    refine er_aload_n rfl rfl d_M_sort_36 ?_
    refine er_getR fl_M_54 sh_83 (by decide) rfl (by decide) d_M_sort_37 ?_
    refine er_iload_n rfl rfl d_M_sort_40 ?_
    refine er_iconst d_M_sort_41 ?_
    refine er_isub d_M_sort_42 ?_
    obtain ⟨a3, a4, h⟩ := h
    refine er_iald sh_98 (by decide) a3 a4 d_M_sort_43 ?_
    refine er_cVI (As := [.inl x1, .inl (m 98 (x3 - 1))]) (st := []) ml_M_159 mw_M_rank md_M_rank ⟨rfl, rfl⟩ rfl (Nat.le_of_ble_eq_true rfl) sh_83 rfl ⟨(Nat.le_of_ble_eq_true rfl), (Nat.le_of_ble_eq_true rfl)⟩ rfl d_M_sort_44 h (fun v6 m5 h => ?_)
    refine er_aload_n rfl rfl d_M_sort_47 ?_
    refine er_iload_n rfl rfl d_M_sort_48 ?_
    refine er_iload_n rfl rfl d_M_sort_49 ?_
    refine er_cVI (As := [.inl x1, .inl x2]) (st := [.inl v6]) ml_M_159 mw_M_rank md_M_rank ⟨rfl, rfl⟩ rfl (Nat.le_of_ble_eq_true rfl) sh_83 rfl ⟨(Nat.le_of_ble_eq_true rfl), (Nat.le_of_ble_eq_true rfl)⟩ rfl d_M_sort_50 h (fun v8 m7 h => ?_)
    obtain ⟨a9, a10, h⟩ := h
    refine er_icmp_le (tgt := 76) (by decide) a9 a10 d_M_sort_53 (fun c11 => ?_) (fun c11 => ?_)
    · have h := h.1 c11
      exact er_forget [some (.inr 83), some (.inl x1), some (.inl x2), some (.inl x3)] (And.intro rfl (And.intro rfl (And.intro rfl (And.intro rfl trivial)))) h
    · have h := h.2 c11
      refine er_aload_n rfl rfl d_M_sort_56 ?_
      refine er_getR fl_M_54 sh_83 (by decide) rfl (by decide) d_M_sort_57 ?_
      refine er_iload_n rfl rfl d_M_sort_60 ?_
      refine er_aload_n rfl rfl d_M_sort_61 ?_
      refine er_getR fl_M_54 sh_83 (by decide) rfl (by decide) d_M_sort_62 ?_
      refine er_iload_n rfl rfl d_M_sort_65 ?_
      refine er_iconst d_M_sort_66 ?_
      refine er_isub d_M_sort_67 ?_
      refine er_iald sh_98 (by decide) a3 a4 d_M_sort_68 ?_
      obtain ⟨a12, a13, h⟩ := h
      refine er_iastE sh_98 (by decide) a12 a13 d_M_sort_69 (fun m14 hm => ?_)
      have h := h m14 hm
      refine er_incE (ls2 := [some (.inr 83), some (.inl x1), some (.inl x2), some (.inl (x3 + (-1)))]) rfl (Nat.le_of_ble_eq_true rfl) rfl d_M_sort_70 ?_
      refine er_goto (tgt := 30) (by decide) d_M_sort_73 ?_
      exact er_forget [some (.inr 83), some (.inl x1), some (.inl x2), some (.inl (x3 + (-1)))] (And.intro rfl (And.intro rfl (And.intro rfl (And.intro rfl trivial)))) h
theorem vc_M_sort_76 {K : er_K} {x1 : Int} {x2 : Int} {x3 : Int} {m : er_M} {Q : er_M → Prop}  (h : (0 ≤ x3) ∧ (x3 < 36) ∧ (∀ m3 : er_M, m3 = er_st m 98 x3 x2 → ∀ m4 : er_M, m4 = er_st m3 83 20 ((m3 83 20) + 1) → wp_M_sort_7 K x1 (x2 + 1) m4 Q)) : wp_M_sort_76 K x1 x2 x3 m Q := by
  show er_WP K mi_M_sort 0 0 er_SH m 76 [some (.inr 83), some (.inl x1), some (.inl x2), some (.inl x3)] [] _
  refine er_aload_n rfl rfl d_M_sort_76 ?_
  refine er_getR fl_M_54 sh_83 (by decide) rfl (by decide) d_M_sort_77 ?_
  refine er_iload_n rfl rfl d_M_sort_80 ?_
  refine er_iload_n rfl rfl d_M_sort_81 ?_
  obtain ⟨a1, a2, h⟩ := h
  refine er_iastE sh_98 (by decide) a1 a2 d_M_sort_82 (fun m3 hm => ?_)
  have h := h m3 hm
  refine er_aload_n rfl rfl d_M_sort_83 ?_
  refine er_dup d_M_sort_84 ?_
  refine er_getIE 20 rfl fl_M_156 sh_83 (by decide) rfl d_M_sort_85 ?_
  refine er_iconst d_M_sort_88 ?_
  refine er_iadd d_M_sort_89 ?_
  refine er_putIE 20 rfl fl_M_156 sh_83 (by decide) rfl d_M_sort_90 (fun m4 hm => ?_)
  have h := h m4 hm
  refine er_incE (ls2 := [some (.inr 83), some (.inl x1), some (.inl (x2 + 1)), some (.inl x3)]) rfl (Nat.le_of_ble_eq_true rfl) rfl d_M_sort_93 ?_
  refine er_goto (tgt := 7) (by decide) d_M_sort_96 ?_
  exact er_forget [some (.inr 83), some (.inl x1), some (.inl (x2 + 1)), none] (And.intro rfl (And.intro rfl (And.intro rfl trivial))) h
theorem vc_M_sort {K : er_K} {p1 : Int} {m : er_M} {Q : er_M → Prop}  (h : ∀ m1 : er_M, m1 = er_st m 83 20 0 → wp_M_sort_7 K p1 0 m1 Q) : er_SV K mi_M_sort [.inr 83, .inl p1] m Q := by
  refine er_start (by decide) (Nat.le_of_ble_eq_true rfl) ?_
  show er_WP K mi_M_sort 0 0 er_SH m 0 [some (.inr 83), some (.inl p1), none, none] [] _
  refine er_aload_n rfl rfl d_M_sort_0 ?_
  refine er_iconst d_M_sort_1 ?_
  refine er_putIE 20 rfl fl_M_156 sh_83 (by decide) rfl d_M_sort_2 (fun m1 hm => ?_)
  have h := h m1 hm
  refine er_iconst d_M_sort_5 ?_
  refine er_istE 2 rfl (Nat.le_of_ble_eq_true rfl) (ls2 := [some (.inr 83), some (.inl p1), some (.inl 0), none]) rfl d_M_sort_6 ?_
  exact er_forget [some (.inr 83), some (.inl p1), some (.inl 0), none] (And.intro rfl (And.intro rfl (And.intro rfl trivial))) h
def wp_M_puts_21 (K : er_K) (x1 : Int) (x2 : Int) (x3 : Int) (x4 : Int) (x5 : Int) (m : er_M) (Q : Int → er_M → Prop) : Prop := er_WP K mi_M_puts 0 0 er_SH m 21 [some (.inr 83), some (.inl x1), some (.inl x2), some (.inl x3), some (.inl x4), some (.inl x5)] [] (er_Z K mi_M_puts (er_PI Q))
def wp_M_puts_66 (K : er_K) (x1 : Int) (x2 : Int) (x3 : Int) (x4 : Int) (m : er_M) (Q : Int → er_M → Prop) : Prop := er_WP K mi_M_puts 0 0 er_SH m 66 [some (.inr 83), some (.inl x1), some (.inl x2), some (.inl x3), some (.inl x4), none] [] (er_Z K mi_M_puts (er_PI Q))
def wp_M_puts_111 (K : er_K) (x5 : Int) (m : er_M) (Q : Int → er_M → Prop) : Prop := er_WP K mi_M_puts 0 0 er_SH m 111 [some (.inr 83), none, none, none, none, some (.inl x5)] [] (er_Z K mi_M_puts (er_PI Q))
theorem vc_M_puts_21 {K : er_K} {x1 : Int} {x2 : Int} {x3 : Int} {x4 : Int} {x5 : Int} {m : er_M} {Q : Int → er_M → Prop}  (h : (er_in x5) ∧ (er_in (m 83 13)) ∧ ((((m 83 13) ≤ x5 → er_SV K mi_M_layPin [.inr 83, .inl x1, .inl 1] m (fun m4 => (er_in x3) ∧ (((x3 < 0 → wp_M_puts_66 K x1 x2 x3 x4 m4 Q) ∧ (0 ≤ x3 → er_SV K mi_M_layPin [.inr 83, .inl x3, .inl 1] m4 (fun m7 => wp_M_puts_66 K x1 x2 x3 x4 m7 Q)))))) ∧ (x5 < (m 83 13) → (0 ≤ x5) ∧ (x5 < 760) ∧ (∀ m10 : er_M, m10 = er_st m 99 x5 (m 90 x5) → wp_M_puts_21 K x1 x2 x3 x4 (x5 + 1) m10 Q))))) : wp_M_puts_21 K x1 x2 x3 x4 x5 m Q := by
  show er_WP K mi_M_puts 0 0 er_SH m 21 [some (.inr 83), some (.inl x1), some (.inl x2), some (.inl x3), some (.inl x4), some (.inl x5)] [] _
  refine er_iload rfl d_M_puts_21 ?_
  refine er_aload_n rfl rfl d_M_puts_23 ?_
  refine er_getIE 13 rfl fl_M_105 sh_83 (by decide) rfl d_M_puts_24 ?_
  obtain ⟨a1, a2, h⟩ := h
  refine er_icmp_ge (tgt := 50) (by decide) a1 a2 d_M_puts_27 (fun c3 => ?_) (fun c3 => ?_)
  · have h := h.1 c3
    refine er_aload_n rfl rfl d_M_puts_50 ?_
    refine er_iload_n rfl rfl d_M_puts_51 ?_
    refine er_iconst d_M_puts_52 ?_
    refine er_cVV (As := [.inl x1, .inl 1]) (st := []) ml_M_139 mw_M_layPin md_M_layPin ⟨rfl, rfl⟩ rfl (Nat.le_of_ble_eq_true rfl) sh_83 rfl ⟨(Nat.le_of_ble_eq_true rfl), (Nat.le_of_ble_eq_true rfl)⟩ rfl d_M_puts_53 h (fun m4 h => ?_)
    refine er_iload_n rfl rfl d_M_puts_56 ?_
    obtain ⟨a5, h⟩ := h
    refine er_if_lt (tgt := 66) (by decide) a5 d_M_puts_57 (fun c6 => ?_) (fun c6 => ?_)
    · have h := h.1 c6
      exact er_forget [some (.inr 83), some (.inl x1), some (.inl x2), some (.inl x3), some (.inl x4), none] (And.intro rfl (And.intro rfl (And.intro rfl (And.intro rfl (And.intro rfl trivial))))) h
    · have h := h.2 c6
      refine er_aload_n rfl rfl d_M_puts_60 ?_
      refine er_iload_n rfl rfl d_M_puts_61 ?_
      refine er_iconst d_M_puts_62 ?_
      refine er_cVV (As := [.inl x3, .inl 1]) (st := []) ml_M_139 mw_M_layPin md_M_layPin ⟨rfl, rfl⟩ rfl (Nat.le_of_ble_eq_true rfl) sh_83 rfl ⟨(Nat.le_of_ble_eq_true rfl), (Nat.le_of_ble_eq_true rfl)⟩ rfl d_M_puts_63 h (fun m7 h => ?_)
      exact er_forget [some (.inr 83), some (.inl x1), some (.inl x2), some (.inl x3), some (.inl x4), none] (And.intro rfl (And.intro rfl (And.intro rfl (And.intro rfl (And.intro rfl trivial))))) h
  · have h := h.2 c3
    refine er_aload_n rfl rfl d_M_puts_30 ?_
    refine er_getR fl_M_57 sh_83 (by decide) rfl (by decide) d_M_puts_31 ?_
    refine er_iload rfl d_M_puts_34 ?_
    refine er_aload_n rfl rfl d_M_puts_36 ?_
    refine er_getR fl_M_29 sh_83 (by decide) rfl (by decide) d_M_puts_37 ?_
    refine er_iload rfl d_M_puts_40 ?_
    obtain ⟨a8, a9, h⟩ := h
    refine er_iald sh_90 (by decide) a8 a9 d_M_puts_42 ?_
    refine er_iastE sh_99 (by decide) a8 a9 d_M_puts_43 (fun m10 hm => ?_)
    have h := h m10 hm
    refine er_incE (ls2 := [some (.inr 83), some (.inl x1), some (.inl x2), some (.inl x3), some (.inl x4), some (.inl (x5 + 1))]) rfl (Nat.le_of_ble_eq_true rfl) rfl d_M_puts_44 ?_
    refine er_goto (tgt := 21) (by decide) d_M_puts_47 ?_
    exact er_forget [some (.inr 83), some (.inl x1), some (.inl x2), some (.inl x3), some (.inl x4), some (.inl (x5 + 1))] (And.intro rfl (And.intro rfl (And.intro rfl (And.intro rfl (And.intro rfl (And.intro rfl trivial)))))) h
theorem vc_M_puts_66 {K : er_K} {x1 : Int} {x2 : Int} {x3 : Int} {x4 : Int} {m : er_M} {Q : Int → er_M → Prop}  (h : er_SI K mi_M_augmentAll [.inr 83] m (fun v2 m1 => (er_in x3) ∧ (((x3 < 0 → (er_in v2) ∧ (((v2 ≠ 1 → er_SV K mi_M_cutBack [.inr 83, .inl x4] m1 (fun m7 => wp_M_puts_111 K 0 m7 Q)) ∧ (v2 = 1 → (0 ≤ x1) ∧ (x1 < 36) ∧ (∀ m10 : er_M, m10 = er_st m1 97 x1 x2 → ((x3 < 0 → Q 1 m10) ∧ (0 ≤ x3 → (0 ≤ x3) ∧ (x3 < 36) ∧ (∀ m14 : er_M, m14 = er_st m10 97 x3 x2 → Q 1 m14)))))))) ∧ (0 ≤ x3 → (er_in v2) ∧ (((v2 ≠ 2 → er_SV K mi_M_cutBack [.inr 83, .inl x4] m1 (fun m17 => wp_M_puts_111 K 0 m17 Q)) ∧ (v2 = 2 → (0 ≤ x1) ∧ (x1 < 36) ∧ (∀ m20 : er_M, m20 = er_st m1 97 x1 x2 → ((x3 < 0 → Q 1 m20) ∧ (0 ≤ x3 → (0 ≤ x3) ∧ (x3 < 36) ∧ (∀ m24 : er_M, m24 = er_st m20 97 x3 x2 → Q 1 m24)))))))))))) : wp_M_puts_66 K x1 x2 x3 x4 m Q := by
  show er_WP K mi_M_puts 0 0 er_SH m 66 [some (.inr 83), some (.inl x1), some (.inl x2), some (.inl x3), some (.inl x4), none] [] _
  refine er_aload_n rfl rfl d_M_puts_66 ?_
  refine er_cVI (As := []) (st := []) ml_M_143 mw_M_augmentAll md_M_augmentAll ⟨rfl, rfl⟩ rfl (Nat.le_of_ble_eq_true rfl) sh_83 rfl ⟨(Nat.le_of_ble_eq_true rfl), (Nat.le_of_ble_eq_true rfl)⟩ rfl d_M_puts_67 h (fun v2 m1 h => ?_)
  refine er_iload_n rfl rfl d_M_puts_70 ?_
  obtain ⟨a3, h⟩ := h
  refine er_if_lt (tgt := 78) (by decide) a3 d_M_puts_71 (fun c4 => ?_) (fun c4 => ?_)
  · have h := h.1 c4
    refine er_iconst d_M_puts_78 ?_
    obtain ⟨a5, h⟩ := h
    refine er_icmp_ne (tgt := 102) (by decide) a5 (by decide) d_M_puts_79 (fun c6 => ?_) (fun c6 => ?_)
    · have h := h.1 c6
      refine er_aload_n rfl rfl d_M_puts_102 ?_
      refine er_iload rfl d_M_puts_103 ?_
      refine er_cVV (As := [.inl x4]) (st := []) ml_M_162 mw_M_cutBack md_M_cutBack ⟨rfl, rfl⟩ rfl (Nat.le_of_ble_eq_true rfl) sh_83 rfl ⟨(Nat.le_of_ble_eq_true rfl), (Nat.le_of_ble_eq_true rfl)⟩ rfl d_M_puts_105 h (fun m7 h => ?_)
      refine er_iconst d_M_puts_108 ?_
      refine er_istF (Nat.le_of_ble_eq_true rfl) (ls2 := [some (.inr 83), some (.inl x1), some (.inl x2), some (.inl x3), some (.inl x4), some (.inl 0)]) rfl d_M_puts_109 ?_
      exact er_forget [some (.inr 83), none, none, none, none, some (.inl 0)] (And.intro rfl (And.intro rfl trivial)) h
    · have h := h.2 c6
      refine er_aload_n rfl rfl d_M_puts_82 ?_
      refine er_getR fl_M_51 sh_83 (by decide) rfl (by decide) d_M_puts_83 ?_
      refine er_iload_n rfl rfl d_M_puts_86 ?_
      refine er_iload_n rfl rfl d_M_puts_87 ?_
      obtain ⟨a8, a9, h⟩ := h
      refine er_iastE sh_97 (by decide) a8 a9 d_M_puts_88 (fun m10 hm => ?_)
      have h := h m10 hm
      refine er_iload_n rfl rfl d_M_puts_89 ?_
      refine er_if_lt (tgt := 100) (by decide) a3 d_M_puts_90 (fun c11 => ?_) (fun c11 => ?_)
      · have h := h.1 c11
        refine er_iconst d_M_puts_100 ?_
        exact er_zretE rfl (Or.inr rfl) rfl d_M_puts_101 h
      · have h := h.2 c11
        refine er_aload_n rfl rfl d_M_puts_93 ?_
        refine er_getR fl_M_51 sh_83 (by decide) rfl (by decide) d_M_puts_94 ?_
        refine er_iload_n rfl rfl d_M_puts_97 ?_
        refine er_iload_n rfl rfl d_M_puts_98 ?_
        obtain ⟨a12, a13, h⟩ := h
        refine er_iastE sh_97 (by decide) a12 a13 d_M_puts_99 (fun m14 hm => ?_)
        have h := h m14 hm
        refine er_iconst d_M_puts_100 ?_
        exact er_zretE rfl (Or.inr rfl) rfl d_M_puts_101 h
  · have h := h.2 c4
    refine er_iconst d_M_puts_74 ?_
    refine er_goto (tgt := 79) (by decide) d_M_puts_75 ?_
    obtain ⟨a15, h⟩ := h
    refine er_icmp_ne (tgt := 102) (by decide) a15 (by decide) d_M_puts_79 (fun c16 => ?_) (fun c16 => ?_)
    · have h := h.1 c16
      refine er_aload_n rfl rfl d_M_puts_102 ?_
      refine er_iload rfl d_M_puts_103 ?_
      refine er_cVV (As := [.inl x4]) (st := []) ml_M_162 mw_M_cutBack md_M_cutBack ⟨rfl, rfl⟩ rfl (Nat.le_of_ble_eq_true rfl) sh_83 rfl ⟨(Nat.le_of_ble_eq_true rfl), (Nat.le_of_ble_eq_true rfl)⟩ rfl d_M_puts_105 h (fun m17 h => ?_)
      refine er_iconst d_M_puts_108 ?_
      refine er_istF (Nat.le_of_ble_eq_true rfl) (ls2 := [some (.inr 83), some (.inl x1), some (.inl x2), some (.inl x3), some (.inl x4), some (.inl 0)]) rfl d_M_puts_109 ?_
      exact er_forget [some (.inr 83), none, none, none, none, some (.inl 0)] (And.intro rfl (And.intro rfl trivial)) h
    · have h := h.2 c16
      refine er_aload_n rfl rfl d_M_puts_82 ?_
      refine er_getR fl_M_51 sh_83 (by decide) rfl (by decide) d_M_puts_83 ?_
      refine er_iload_n rfl rfl d_M_puts_86 ?_
      refine er_iload_n rfl rfl d_M_puts_87 ?_
      obtain ⟨a18, a19, h⟩ := h
      refine er_iastE sh_97 (by decide) a18 a19 d_M_puts_88 (fun m20 hm => ?_)
      have h := h m20 hm
      refine er_iload_n rfl rfl d_M_puts_89 ?_
      refine er_if_lt (tgt := 100) (by decide) a3 d_M_puts_90 (fun c21 => ?_) (fun c21 => ?_)
      · have h := h.1 c21
        refine er_iconst d_M_puts_100 ?_
        exact er_zretE rfl (Or.inr rfl) rfl d_M_puts_101 h
      · have h := h.2 c21
        refine er_aload_n rfl rfl d_M_puts_93 ?_
        refine er_getR fl_M_51 sh_83 (by decide) rfl (by decide) d_M_puts_94 ?_
        refine er_iload_n rfl rfl d_M_puts_97 ?_
        refine er_iload_n rfl rfl d_M_puts_98 ?_
        obtain ⟨a22, a23, h⟩ := h
        refine er_iastE sh_97 (by decide) a22 a23 d_M_puts_99 (fun m24 hm => ?_)
        have h := h m24 hm
        refine er_iconst d_M_puts_100 ?_
        exact er_zretE rfl (Or.inr rfl) rfl d_M_puts_101 h
theorem vc_M_puts_111 {K : er_K} {x5 : Int} {m : er_M} {Q : Int → er_M → Prop}  (h : (er_in x5) ∧ (er_in (m 83 13)) ∧ ((((m 83 13) ≤ x5 → Q 0 m) ∧ (x5 < (m 83 13) → (0 ≤ x5) ∧ (x5 < 760) ∧ (∀ m6 : er_M, m6 = er_st m 90 x5 (m 99 x5) → wp_M_puts_111 K (x5 + 1) m6 Q))))) : wp_M_puts_111 K x5 m Q := by
  show er_WP K mi_M_puts 0 0 er_SH m 111 [some (.inr 83), none, none, none, none, some (.inl x5)] [] _
  refine er_iload rfl d_M_puts_111 ?_
  refine er_aload_n rfl rfl d_M_puts_113 ?_
  refine er_getIE 13 rfl fl_M_105 sh_83 (by decide) rfl d_M_puts_114 ?_
  obtain ⟨a1, a2, h⟩ := h
  refine er_icmp_ge (tgt := 140) (by decide) a1 a2 d_M_puts_117 (fun c3 => ?_) (fun c3 => ?_)
  · have h := h.1 c3
    refine er_iconst d_M_puts_140 ?_
    exact er_zretE rfl (Or.inl rfl) rfl d_M_puts_141 h
  · have h := h.2 c3
    refine er_aload_n rfl rfl d_M_puts_120 ?_
    refine er_getR fl_M_29 sh_83 (by decide) rfl (by decide) d_M_puts_121 ?_
    refine er_iload rfl d_M_puts_124 ?_
    refine er_aload_n rfl rfl d_M_puts_126 ?_
    refine er_getR fl_M_57 sh_83 (by decide) rfl (by decide) d_M_puts_127 ?_
    refine er_iload rfl d_M_puts_130 ?_
    obtain ⟨a4, a5, h⟩ := h
    refine er_iald sh_99 (by decide) a4 a5 d_M_puts_132 ?_
    refine er_iastE sh_90 (by decide) a4 a5 d_M_puts_133 (fun m6 hm => ?_)
    have h := h m6 hm
    refine er_incE (ls2 := [some (.inr 83), none, none, none, none, some (.inl (x5 + 1))]) rfl (Nat.le_of_ble_eq_true rfl) rfl d_M_puts_134 ?_
    refine er_goto (tgt := 111) (by decide) d_M_puts_137 ?_
    exact er_forget [some (.inr 83), none, none, none, none, some (.inl (x5 + 1))] (And.intro rfl (And.intro rfl trivial)) h
theorem vc_M_puts {K : er_K} {p1 p2 : Int} {m : er_M} {Q : Int → er_M → Prop}  (h : (0 ≤ (40 + p1)) ∧ ((40 + p1) < 112) ∧ (wp_M_puts_21 K p1 p2 ((m 84 (40 + p1)) - 1) (m 83 13) 0 m Q)) : er_SI K mi_M_puts [.inr 83, .inl p1, .inl p2] m Q := by
  refine er_start (by decide) (Nat.le_of_ble_eq_true rfl) ?_
  show er_WP K mi_M_puts 0 0 er_SH m 0 [some (.inr 83), some (.inl p1), some (.inl p2), none, none, none] [] _
  refine er_aload_n rfl rfl d_M_puts_0 ?_
  refine er_getR fl_M_7 sh_83 (by decide) rfl (by decide) d_M_puts_1 ?_
  refine er_bipush (by decide) d_M_puts_4 ?_
  refine er_iload_n rfl rfl d_M_puts_6 ?_
  refine er_iadd d_M_puts_7 ?_
  obtain ⟨a1, a2, h⟩ := h
  refine er_iald sh_84 (by decide) a1 a2 d_M_puts_8 ?_
  refine er_iconst d_M_puts_9 ?_
  refine er_isub d_M_puts_10 ?_
  refine er_istE 3 rfl (Nat.le_of_ble_eq_true rfl) (ls2 := [some (.inr 83), some (.inl p1), some (.inl p2), some (.inl ((m 84 (40 + p1)) - 1)), none, none]) rfl d_M_puts_11 ?_
  refine er_aload_n rfl rfl d_M_puts_12 ?_
  refine er_getIE 13 rfl fl_M_105 sh_83 (by decide) rfl d_M_puts_13 ?_
  refine er_istF (Nat.le_of_ble_eq_true rfl) (ls2 := [some (.inr 83), some (.inl p1), some (.inl p2), some (.inl ((m 84 (40 + p1)) - 1)), some (.inl (m 83 13)), none]) rfl d_M_puts_16 ?_
  refine er_iconst d_M_puts_18 ?_
  refine er_istF (Nat.le_of_ble_eq_true rfl) (ls2 := [some (.inr 83), some (.inl p1), some (.inl p2), some (.inl ((m 84 (40 + p1)) - 1)), some (.inl (m 83 13)), some (.inl 0)]) rfl d_M_puts_19 ?_
  exact er_forget [some (.inr 83), some (.inl p1), some (.inl p2), some (.inl ((m 84 (40 + p1)) - 1)), some (.inl (m 83 13)), some (.inl 0)] (And.intro rfl (And.intro rfl (And.intro rfl (And.intro rfl (And.intro rfl (And.intro rfl trivial)))))) h
def wp_M_layering_7 (K : er_K) (x2 : Int) (m : er_M) (Q : Int → er_M → Prop) : Prop := er_WP K mi_M_layering 0 0 er_SH m 7 [some (.inr 83), none, some (.inl x2), none, none, none, none, none] [] (er_Z K mi_M_layering (er_PI Q))
def wp_M_layering_34 (K : er_K) (x2 : Int) (x3 : Int) (m : er_M) (Q : Int → er_M → Prop) : Prop := er_WP K mi_M_layering 0 0 er_SH m 34 [some (.inr 83), none, some (.inl x2), some (.inl x3), none, none, none, none] [] (er_Z K mi_M_layering (er_PI Q))
def wp_M_layering_44 (K : er_K) (x2 : Int) (x3 : Int) (x4 : Int) (m : er_M) (Q : Int → er_M → Prop) : Prop := er_WP K mi_M_layering 0 0 er_SH m 44 [some (.inr 83), none, some (.inl x2), some (.inl x3), some (.inl x4), none, none, none] [] (er_Z K mi_M_layering (er_PI Q))
def wp_M_layering_103 (K : er_K) (x2 : Int) (x3 : Int) (x4 : Int) (x5 : Int) (m : er_M) (Q : Int → er_M → Prop) : Prop := er_WP K mi_M_layering 0 0 er_SH m 103 [some (.inr 83), none, some (.inl x2), some (.inl x3), some (.inl x4), some (.inl x5), none, none] [] (er_Z K mi_M_layering (er_PI Q))
def wp_M_layering_148 (K : er_K) (x2 : Int) (x3 : Int) (x4 : Int) (x5 : Int) (x6 : Int) (m : er_M) (Q : Int → er_M → Prop) : Prop := er_WP K mi_M_layering 0 0 er_SH m 148 [some (.inr 83), none, some (.inl x2), some (.inl x3), some (.inl x4), some (.inl x5), some (.inl x6), none] [] (er_Z K mi_M_layering (er_PI Q))
theorem vc_M_layering_7 {K : er_K} {x2 : Int} {m : er_M} {Q : Int → er_M → Prop}  (h : (er_in x2) ∧ (((36 ≤ x2 → wp_M_layering_34 K (m 83 20) 0 m Q) ∧ (x2 < 36 → (0 ≤ x2) ∧ (x2 < 36) ∧ (∀ m5 : er_M, m5 = er_st m 97 x2 (-9) → wp_M_layering_7 K (x2 + 1) m5 Q))))) : wp_M_layering_7 K x2 m Q := by
  show er_WP K mi_M_layering 0 0 er_SH m 7 [some (.inr 83), none, some (.inl x2), none, none, none, none, none] [] _
  refine er_iload_n rfl rfl d_M_layering_7 ?_
  refine er_bipush (by decide) d_M_layering_8 ?_
  obtain ⟨a1, h⟩ := h
  refine er_icmp_ge (tgt := 27) (by decide) a1 (by decide) d_M_layering_10 (fun c2 => ?_) (fun c2 => ?_)
  · have h := h.1 c2
    refine er_aload_n rfl rfl d_M_layering_27 ?_
    refine er_getIE 20 rfl fl_M_156 sh_83 (by decide) rfl d_M_layering_28 ?_
    refine er_istE 2 rfl (Nat.le_of_ble_eq_true rfl) (ls2 := [some (.inr 83), none, some (.inl (m 83 20)), none, none, none, none, none]) rfl d_M_layering_31 ?_
    refine er_iconst d_M_layering_32 ?_
    refine er_istE 3 rfl (Nat.le_of_ble_eq_true rfl) (ls2 := [some (.inr 83), none, some (.inl (m 83 20)), some (.inl 0), none, none, none, none]) rfl d_M_layering_33 ?_
    exact er_forget [some (.inr 83), none, some (.inl (m 83 20)), some (.inl 0), none, none, none, none] (And.intro rfl (And.intro rfl (And.intro rfl trivial))) h
  · have h := h.2 c2
    refine er_aload_n rfl rfl d_M_layering_13 ?_
    refine er_getR fl_M_51 sh_83 (by decide) rfl (by decide) d_M_layering_14 ?_
    refine er_iload_n rfl rfl d_M_layering_17 ?_
    refine er_bipush (by decide) d_M_layering_18 ?_
    obtain ⟨a3, a4, h⟩ := h
    refine er_iastE sh_97 (by decide) a3 a4 d_M_layering_20 (fun m5 hm => ?_)
    have h := h m5 hm
    refine er_incE (ls2 := [some (.inr 83), none, some (.inl (x2 + 1)), none, none, none, none, none]) rfl (Nat.le_of_ble_eq_true rfl) rfl d_M_layering_21 ?_
    refine er_goto (tgt := 7) (by decide) d_M_layering_24 ?_
    exact er_forget [some (.inr 83), none, some (.inl (x2 + 1)), none, none, none, none, none] (And.intro rfl (And.intro rfl trivial)) h
theorem vc_M_layering_34 {K : er_K} {x2 : Int} {x3 : Int} {m : er_M} {Q : Int → er_M → Prop}  (h : (er_in x2) ∧ (((x2 ≤ 0 → Q x3 m) ∧ (0 < x2 → wp_M_layering_44 K x2 (x3 + 1) 0 m Q)))) : wp_M_layering_34 K x2 x3 m Q := by
  show er_WP K mi_M_layering 0 0 er_SH m 34 [some (.inr 83), none, some (.inl x2), some (.inl x3), none, none, none, none] [] _
  refine er_iload_n rfl rfl d_M_layering_34 ?_
  obtain ⟨a1, h⟩ := h
  refine er_if_le (tgt := 205) (by decide) a1 d_M_layering_35 (fun c2 => ?_) (fun c2 => ?_)
  · have h := h.1 c2
    refine er_iload_n rfl rfl d_M_layering_205 ?_
    exact er_iretE rfl rfl d_M_layering_206 h
  · have h := h.2 c2
    refine er_incE (ls2 := [some (.inr 83), none, some (.inl x2), some (.inl (x3 + 1)), none, none, none, none]) rfl (Nat.le_of_ble_eq_true rfl) rfl d_M_layering_38 ?_
    refine er_iconst d_M_layering_41 ?_
    refine er_istF (Nat.le_of_ble_eq_true rfl) (ls2 := [some (.inr 83), none, some (.inl x2), some (.inl (x3 + 1)), some (.inl 0), none, none, none]) rfl d_M_layering_42 ?_
    exact er_forget [some (.inr 83), none, some (.inl x2), some (.inl (x3 + 1)), some (.inl 0), none, none, none] (And.intro rfl (And.intro rfl (And.intro rfl (And.intro rfl trivial)))) h
theorem vc_M_layering_44 {K : er_K} {x2 : Int} {x3 : Int} {x4 : Int} {m : er_M} {Q : Int → er_M → Prop}  (h : (er_in x4) ∧ (((36 ≤ x4 → er_SV K mi_M_lay [.inr 83] m (fun m3 => wp_M_layering_103 K x2 x3 x2 0 m3 Q)) ∧ (x4 < 36 → (0 ≤ (4 + x4)) ∧ ((4 + x4) < 112) ∧ ((er_in (m 84 (4 + x4))) ∧ ((((m 84 (4 + x4)) = 0 → (0 ≤ x4) ∧ (x4 < 36) ∧ (∀ m10 : er_M, m10 = er_st m 93 x4 1 → wp_M_layering_44 K x2 x3 (x4 + 1) m10 Q)) ∧ ((m 84 (4 + x4)) ≠ 0 → (0 ≤ x4) ∧ (x4 < 36) ∧ ((er_in (m 97 x4)) ∧ ((((m 97 x4) = (-9) → ∀ m15 : er_M, m15 = er_st m 93 x4 0 → wp_M_layering_44 K x2 x3 (x4 + 1) m15 Q) ∧ ((m 97 x4) ≠ (-9) → ∀ m16 : er_M, m16 = er_st m 93 x4 1 → wp_M_layering_44 K x2 x3 (x4 + 1) m16 Q)))))))))))) : wp_M_layering_44 K x2 x3 x4 m Q := by
  show er_WP K mi_M_layering 0 0 er_SH m 44 [some (.inr 83), none, some (.inl x2), some (.inl x3), some (.inl x4), none, none, none] [] _
  refine er_iload rfl d_M_layering_44 ?_
  refine er_bipush (by decide) d_M_layering_46 ?_
  obtain ⟨a1, h⟩ := h
  refine er_icmp_ge (tgt := 93) (by decide) a1 (by decide) d_M_layering_48 (fun c2 => ?_) (fun c2 => ?_)
  · have h := h.1 c2
    refine er_aload_n rfl rfl d_M_layering_93 ?_
    refine er_cVV (As := []) (st := []) ml_M_136 mw_M_lay md_M_lay ⟨rfl, rfl⟩ rfl (Nat.le_of_ble_eq_true rfl) sh_83 rfl ⟨(Nat.le_of_ble_eq_true rfl), (Nat.le_of_ble_eq_true rfl)⟩ rfl d_M_layering_94 h (fun m3 h => ?_)
    refine er_iload_n rfl rfl d_M_layering_97 ?_
    refine er_istF (Nat.le_of_ble_eq_true rfl) (ls2 := [some (.inr 83), none, some (.inl x2), some (.inl x3), some (.inl x2), none, none, none]) rfl d_M_layering_98 ?_
    refine er_iconst d_M_layering_100 ?_
    refine er_istF (Nat.le_of_ble_eq_true rfl) (ls2 := [some (.inr 83), none, some (.inl x2), some (.inl x3), some (.inl x2), some (.inl 0), none, none]) rfl d_M_layering_101 ?_
    exact er_forget [some (.inr 83), none, some (.inl x2), some (.inl x3), some (.inl x2), some (.inl 0), none, none] (And.intro rfl (And.intro rfl (And.intro rfl (And.intro rfl (And.intro rfl trivial))))) h
  · have h := h.2 c2
    refine er_aload_n rfl rfl d_M_layering_51 ?_
    refine er_getR fl_M_38 sh_83 (by decide) rfl (by decide) d_M_layering_52 ?_
    refine er_iload rfl d_M_layering_55 ?_
    refine er_aload_n rfl rfl d_M_layering_57 ?_
    refine er_getR fl_M_7 sh_83 (by decide) rfl (by decide) d_M_layering_58 ?_
    refine er_iconst d_M_layering_61 ?_
    refine er_iload rfl d_M_layering_62 ?_
    refine er_iadd d_M_layering_64 ?_
    obtain ⟨a4, a5, h⟩ := h
    refine er_iald sh_84 (by decide) a4 a5 d_M_layering_65 ?_
    obtain ⟨a6, h⟩ := h
    refine er_if_eq (tgt := 81) (by decide) a6 d_M_layering_66 (fun c7 => ?_) (fun c7 => ?_)
    · have h := h.1 c7
      refine er_iconst d_M_layering_81 ?_
      refine er_goto (tgt := 86) (by decide) d_M_layering_82 ?_
      obtain ⟨a8, a9, h⟩ := h
      refine er_zastE sh_93 (by decide) a8 a9 (Or.inr rfl) d_M_layering_86 (fun m10 hm => ?_)
      have h := h m10 hm
      refine er_incE (ls2 := [some (.inr 83), none, some (.inl x2), some (.inl x3), some (.inl (x4 + 1)), none, none, none]) rfl (Nat.le_of_ble_eq_true rfl) rfl d_M_layering_87 ?_
      refine er_goto (tgt := 44) (by decide) d_M_layering_90 ?_
      exact er_forget [some (.inr 83), none, some (.inl x2), some (.inl x3), some (.inl (x4 + 1)), none, none, none] (And.intro rfl (And.intro rfl (And.intro rfl (And.intro rfl trivial)))) h
    · have h := h.2 c7
      refine er_aload_n rfl rfl d_M_layering_69 ?_
      refine er_getR fl_M_51 sh_83 (by decide) rfl (by decide) d_M_layering_70 ?_
      refine er_iload rfl d_M_layering_73 ?_
      obtain ⟨a11, a12, h⟩ := h
      refine er_iald sh_97 (by decide) a11 a12 d_M_layering_75 ?_
      refine er_bipush (by decide) d_M_layering_76 ?_
      obtain ⟨a13, h⟩ := h
      refine er_icmp_eq (tgt := 85) (by decide) a13 (by decide) d_M_layering_78 (fun c14 => ?_) (fun c14 => ?_)
      · have h := h.1 c14
        refine er_iconst d_M_layering_85 ?_
        refine er_zastE sh_93 (by decide) a11 a12 (Or.inl rfl) d_M_layering_86 (fun m15 hm => ?_)
        have h := h m15 hm
        refine er_incE (ls2 := [some (.inr 83), none, some (.inl x2), some (.inl x3), some (.inl (x4 + 1)), none, none, none]) rfl (Nat.le_of_ble_eq_true rfl) rfl d_M_layering_87 ?_
        refine er_goto (tgt := 44) (by decide) d_M_layering_90 ?_
        exact er_forget [some (.inr 83), none, some (.inl x2), some (.inl x3), some (.inl (x4 + 1)), none, none, none] (And.intro rfl (And.intro rfl (And.intro rfl (And.intro rfl trivial)))) h
      · have h := h.2 c14
        refine er_iconst d_M_layering_81 ?_
        refine er_goto (tgt := 86) (by decide) d_M_layering_82 ?_
        refine er_zastE sh_93 (by decide) a11 a12 (Or.inr rfl) d_M_layering_86 (fun m16 hm => ?_)
        have h := h m16 hm
        refine er_incE (ls2 := [some (.inr 83), none, some (.inl x2), some (.inl x3), some (.inl (x4 + 1)), none, none, none]) rfl (Nat.le_of_ble_eq_true rfl) rfl d_M_layering_87 ?_
        refine er_goto (tgt := 44) (by decide) d_M_layering_90 ?_
        exact er_forget [some (.inr 83), none, some (.inl x2), some (.inl x3), some (.inl (x4 + 1)), none, none, none] (And.intro rfl (And.intro rfl (And.intro rfl (And.intro rfl trivial)))) h
theorem vc_M_layering_103 {K : er_K} {x2 : Int} {x3 : Int} {x4 : Int} {x5 : Int} {m : er_M} {Q : Int → er_M → Prop}  (h : (er_in x5) ∧ (er_in (m 83 20)) ∧ ((((m 83 20) ≤ x5 → (er_in x2) ∧ (er_in x4) ∧ (((x2 ≠ x4 → wp_M_layering_34 K x2 x3 m Q) ∧ (x2 = x4 → Q (-9) m)))) ∧ (x5 < (m 83 20) → (0 ≤ x5) ∧ (x5 < 36) ∧ ((0 ≤ (m 98 x5)) ∧ ((m 98 x5) < 36) ∧ ((er_in (m 97 (m 98 x5))) ∧ ((((m 97 (m 98 x5)) ≠ (-9) → wp_M_layering_148 K x2 x3 x4 x5 (m 98 x5) m Q) ∧ ((m 97 (m 98 x5)) = (-9) → er_SI K mi_M_isFirst [.inr 83, .inl (m 98 x5), .inl x5] m (fun v14 m13 => (er_in v14) ∧ (((v14 = 0 → wp_M_layering_148 K x2 x3 x4 x5 (m 98 x5) m13 Q) ∧ (v14 ≠ 0 → er_SI K mi_M_puts [.inr 83, .inl (m 98 x5), .inl x3] m13 (fun v19 m18 => (er_in v19) ∧ (((v19 = 0 → wp_M_layering_103 K x2 x3 x4 (x5 + 1) m18 Q) ∧ (v19 ≠ 0 → (0 ≤ (40 + (m 98 x5))) ∧ ((40 + (m 98 x5)) < 112) ∧ ((er_in (m18 84 (40 + (m 98 x5)))) ∧ ((((m18 84 (40 + (m 98 x5))) ≤ 0 → wp_M_layering_103 K (x2 - 1) x3 x4 (x5 + 1) m18 Q) ∧ (0 < (m18 84 (40 + (m 98 x5))) → wp_M_layering_103 K (x2 - 2) x3 x4 (x5 + 1) m18 Q))))))))))))))))))))) : wp_M_layering_103 K x2 x3 x4 x5 m Q := by
  show er_WP K mi_M_layering 0 0 er_SH m 103 [some (.inr 83), none, some (.inl x2), some (.inl x3), some (.inl x4), some (.inl x5), none, none] [] _
  refine er_iload rfl d_M_layering_103 ?_
  refine er_aload_n rfl rfl d_M_layering_105 ?_
  refine er_getIE 20 rfl fl_M_156 sh_83 (by decide) rfl d_M_layering_106 ?_
  obtain ⟨a1, a2, h⟩ := h
  refine er_icmp_ge (tgt := 193) (by decide) a1 a2 d_M_layering_109 (fun c3 => ?_) (fun c3 => ?_)
  · have h := h.1 c3
    refine er_iload_n rfl rfl d_M_layering_193 ?_
    refine er_iload rfl d_M_layering_194 ?_
    obtain ⟨a4, a5, h⟩ := h
    refine er_icmp_ne (tgt := 202) (by decide) a4 a5 d_M_layering_196 (fun c6 => ?_) (fun c6 => ?_)
    · have h := h.1 c6
      refine er_goto (tgt := 34) (by decide) d_M_layering_202 ?_
      exact er_forget [some (.inr 83), none, some (.inl x2), some (.inl x3), none, none, none, none] (And.intro rfl (And.intro rfl (And.intro rfl trivial))) h
    · have h := h.2 c6
      refine er_bipush (by decide) d_M_layering_199 ?_
      exact er_iretE rfl rfl d_M_layering_201 h
  · have h := h.2 c3
    refine er_aload_n rfl rfl d_M_layering_112 ?_
    refine er_getR fl_M_54 sh_83 (by decide) rfl (by decide) d_M_layering_113 ?_
    refine er_iload rfl d_M_layering_116 ?_
    obtain ⟨a7, a8, h⟩ := h
    refine er_iald sh_98 (by decide) a7 a8 d_M_layering_118 ?_
    refine er_istF (Nat.le_of_ble_eq_true rfl) (ls2 := [some (.inr 83), none, some (.inl x2), some (.inl x3), some (.inl x4), some (.inl x5), some (.inl (m 98 x5)), none]) rfl d_M_layering_119 ?_
    refine er_aload_n rfl rfl d_M_layering_121 ?_
    refine er_getR fl_M_51 sh_83 (by decide) rfl (by decide) d_M_layering_122 ?_
    refine er_iload rfl d_M_layering_125 ?_
    obtain ⟨a9, a10, h⟩ := h
    refine er_iald sh_97 (by decide) a9 a10 d_M_layering_127 ?_
    refine er_bipush (by decide) d_M_layering_128 ?_
    obtain ⟨a11, h⟩ := h
    refine er_icmp_ne (tgt := 148) (by decide) a11 (by decide) d_M_layering_130 (fun c12 => ?_) (fun c12 => ?_)
    · have h := h.1 c12
      exact er_forget [some (.inr 83), none, some (.inl x2), some (.inl x3), some (.inl x4), some (.inl x5), some (.inl (m 98 x5)), none] (And.intro rfl (And.intro rfl (And.intro rfl (And.intro rfl (And.intro rfl (And.intro rfl trivial)))))) h
    · have h := h.2 c12
      refine er_aload_n rfl rfl d_M_layering_133 ?_
      refine er_iload rfl d_M_layering_134 ?_
      refine er_iload rfl d_M_layering_136 ?_
      refine er_cVI (As := [.inl (m 98 x5), .inl x5]) (st := []) ml_M_168 mw_M_isFirst md_M_isFirst ⟨rfl, rfl⟩ rfl (Nat.le_of_ble_eq_true rfl) sh_83 rfl ⟨(Nat.le_of_ble_eq_true rfl), (Nat.le_of_ble_eq_true rfl)⟩ rfl d_M_layering_138 h (fun v14 m13 h => ?_)
      obtain ⟨a15, h⟩ := h
      refine er_if_eq (tgt := 148) (by decide) a15 d_M_layering_141 (fun c16 => ?_) (fun c16 => ?_)
      · have h := h.1 c16
        exact er_forget [some (.inr 83), none, some (.inl x2), some (.inl x3), some (.inl x4), some (.inl x5), some (.inl (m 98 x5)), none] (And.intro rfl (And.intro rfl (And.intro rfl (And.intro rfl (And.intro rfl (And.intro rfl trivial)))))) h
      · have h := h.2 c16
        refine er_iconst d_M_layering_144 ?_
        refine er_goto (tgt := 149) (by decide) d_M_layering_145 ?_
        refine er_istF (Nat.le_of_ble_eq_true rfl) (ls2 := [some (.inr 83), none, some (.inl x2), some (.inl x3), some (.inl x4), some (.inl x5), some (.inl (m 98 x5)), some (.inl 1)]) rfl d_M_layering_149 ?_
        refine er_iload rfl d_M_layering_151 ?_
        refine er_if_eq (tgt := 187) (by decide) (by decide) d_M_layering_153 (fun c17 => ?_) (fun c17 => ?_)
        · exact absurd c17 (by decide)
        · skip
          refine er_aload_n rfl rfl d_M_layering_156 ?_
          refine er_iload rfl d_M_layering_157 ?_
          refine er_iload_n rfl rfl d_M_layering_159 ?_
          refine er_cVI (As := [.inl (m 98 x5), .inl x3]) (st := []) ml_M_171 mw_M_puts md_M_puts ⟨rfl, rfl⟩ rfl (Nat.le_of_ble_eq_true rfl) sh_83 rfl ⟨(Nat.le_of_ble_eq_true rfl), (Nat.le_of_ble_eq_true rfl)⟩ rfl d_M_layering_160 h (fun v19 m18 h => ?_)
          obtain ⟨a20, h⟩ := h
          refine er_if_eq (tgt := 187) (by decide) a20 d_M_layering_163 (fun c21 => ?_) (fun c21 => ?_)
          · have h := h.1 c21
            refine er_incE (ls2 := [some (.inr 83), none, some (.inl x2), some (.inl x3), some (.inl x4), some (.inl (x5 + 1)), some (.inl (m 98 x5)), some (.inl 1)]) rfl (Nat.le_of_ble_eq_true rfl) rfl d_M_layering_187 ?_
            refine er_goto (tgt := 103) (by decide) d_M_layering_190 ?_
            exact er_forget [some (.inr 83), none, some (.inl x2), some (.inl x3), some (.inl x4), some (.inl (x5 + 1)), none, none] (And.intro rfl (And.intro rfl (And.intro rfl (And.intro rfl (And.intro rfl trivial))))) h
          · have h := h.2 c21
            refine er_iload_n rfl rfl d_M_layering_166 ?_
            refine er_aload_n rfl rfl d_M_layering_167 ?_
            refine er_getR fl_M_7 sh_83 (by decide) rfl (by decide) d_M_layering_168 ?_
            refine er_bipush (by decide) d_M_layering_171 ?_
            refine er_iload rfl d_M_layering_173 ?_
            refine er_iadd d_M_layering_175 ?_
            obtain ⟨a22, a23, h⟩ := h
            refine er_iald sh_84 (by decide) a22 a23 d_M_layering_176 ?_
            obtain ⟨a24, h⟩ := h
            refine er_if_le (tgt := 184) (by decide) a24 d_M_layering_177 (fun c25 => ?_) (fun c25 => ?_)
            · have h := h.1 c25
              refine er_iconst d_M_layering_184 ?_
              refine er_isub d_M_layering_185 ?_
              refine er_istE 2 rfl (Nat.le_of_ble_eq_true rfl) (ls2 := [some (.inr 83), none, some (.inl (x2 - 1)), some (.inl x3), some (.inl x4), some (.inl x5), some (.inl (m 98 x5)), some (.inl 1)]) rfl d_M_layering_186 ?_
              refine er_incE (ls2 := [some (.inr 83), none, some (.inl (x2 - 1)), some (.inl x3), some (.inl x4), some (.inl (x5 + 1)), some (.inl (m 98 x5)), some (.inl 1)]) rfl (Nat.le_of_ble_eq_true rfl) rfl d_M_layering_187 ?_
              refine er_goto (tgt := 103) (by decide) d_M_layering_190 ?_
              exact er_forget [some (.inr 83), none, some (.inl (x2 - 1)), some (.inl x3), some (.inl x4), some (.inl (x5 + 1)), none, none] (And.intro rfl (And.intro rfl (And.intro rfl (And.intro rfl (And.intro rfl trivial))))) h
            · have h := h.2 c25
              refine er_iconst d_M_layering_180 ?_
              refine er_goto (tgt := 185) (by decide) d_M_layering_181 ?_
              refine er_isub d_M_layering_185 ?_
              refine er_istE 2 rfl (Nat.le_of_ble_eq_true rfl) (ls2 := [some (.inr 83), none, some (.inl (x2 - 2)), some (.inl x3), some (.inl x4), some (.inl x5), some (.inl (m 98 x5)), some (.inl 1)]) rfl d_M_layering_186 ?_
              refine er_incE (ls2 := [some (.inr 83), none, some (.inl (x2 - 2)), some (.inl x3), some (.inl x4), some (.inl (x5 + 1)), some (.inl (m 98 x5)), some (.inl 1)]) rfl (Nat.le_of_ble_eq_true rfl) rfl d_M_layering_187 ?_
              refine er_goto (tgt := 103) (by decide) d_M_layering_190 ?_
              exact er_forget [some (.inr 83), none, some (.inl (x2 - 2)), some (.inl x3), some (.inl x4), some (.inl (x5 + 1)), none, none] (And.intro rfl (And.intro rfl (And.intro rfl (And.intro rfl (And.intro rfl trivial))))) h
theorem vc_M_layering_148 {K : er_K} {x2 : Int} {x3 : Int} {x4 : Int} {x5 : Int} {x6 : Int} {m : er_M} {Q : Int → er_M → Prop}  (h : wp_M_layering_103 K x2 x3 x4 (x5 + 1) m Q) : wp_M_layering_148 K x2 x3 x4 x5 x6 m Q := by
  show er_WP K mi_M_layering 0 0 er_SH m 148 [some (.inr 83), none, some (.inl x2), some (.inl x3), some (.inl x4), some (.inl x5), some (.inl x6), none] [] _
  refine er_iconst d_M_layering_148 ?_
  refine er_istF (Nat.le_of_ble_eq_true rfl) (ls2 := [some (.inr 83), none, some (.inl x2), some (.inl x3), some (.inl x4), some (.inl x5), some (.inl x6), some (.inl 0)]) rfl d_M_layering_149 ?_
  refine er_iload rfl d_M_layering_151 ?_
  refine er_if_eq (tgt := 187) (by decide) (by decide) d_M_layering_153 (fun c1 => ?_) (fun c1 => ?_)
  · skip
    refine er_incE (ls2 := [some (.inr 83), none, some (.inl x2), some (.inl x3), some (.inl x4), some (.inl (x5 + 1)), some (.inl x6), some (.inl 0)]) rfl (Nat.le_of_ble_eq_true rfl) rfl d_M_layering_187 ?_
    refine er_goto (tgt := 103) (by decide) d_M_layering_190 ?_
    exact er_forget [some (.inr 83), none, some (.inl x2), some (.inl x3), some (.inl x4), some (.inl (x5 + 1)), none, none] (And.intro rfl (And.intro rfl (And.intro rfl (And.intro rfl (And.intro rfl trivial))))) h
  · exact absurd c1 (by decide)
theorem vc_M_layering {K : er_K} {p1 : Int} {m : er_M} {Q : Int → er_M → Prop}  (h : er_SV K mi_M_sort [.inr 83, .inl p1] m (fun m1 => wp_M_layering_7 K 0 m1 Q)) : er_SI K mi_M_layering [.inr 83, .inl p1] m Q := by
  refine er_start (by decide) (Nat.le_of_ble_eq_true rfl) ?_
  show er_WP K mi_M_layering 0 0 er_SH m 0 [some (.inr 83), some (.inl p1), none, none, none, none, none, none] [] _
  refine er_aload_n rfl rfl d_M_layering_0 ?_
  refine er_iload_n rfl rfl d_M_layering_1 ?_
  refine er_cVV (As := [.inl p1]) (st := []) ml_M_165 mw_M_sort md_M_sort ⟨rfl, rfl⟩ rfl (Nat.le_of_ble_eq_true rfl) sh_83 rfl ⟨(Nat.le_of_ble_eq_true rfl), (Nat.le_of_ble_eq_true rfl)⟩ rfl d_M_layering_2 h (fun m1 h => ?_)
  refine er_iconst d_M_layering_5 ?_
  refine er_istE 2 rfl (Nat.le_of_ble_eq_true rfl) (ls2 := [some (.inr 83), some (.inl p1), some (.inl 0), none, none, none, none, none]) rfl d_M_layering_6 ?_
  exact er_forget [some (.inr 83), none, some (.inl 0), none, none, none, none, none] (And.intro rfl (And.intro rfl trivial)) h
def wp_M_isFirst_5 (K : er_K) (x1 : Int) (x2 : Int) (x3 : Int) (x4 : Int) (m : er_M) (Q : Int → er_M → Prop) : Prop := er_WP K mi_M_isFirst 0 0 er_SH m 5 [some (.inr 83), some (.inl x1), some (.inl x2), some (.inl x3), some (.inl x4)] [] (er_Z K mi_M_isFirst (er_PI Q))
theorem vc_M_isFirst_5 {K : er_K} {x1 : Int} {x2 : Int} {x3 : Int} {x4 : Int} {m : er_M} {Q : Int → er_M → Prop}  (h : (er_in x4) ∧ (er_in x2) ∧ (((x2 ≤ x4 → (x3 = 0 ∨ x3 = 1) ∧ Q x3 m) ∧ (x4 < x2 → (er_in x3) ∧ (((x3 = 0 → wp_M_isFirst_5 K x1 x2 0 (x4 + 1) m Q) ∧ (x3 ≠ 0 → (0 ≤ x4) ∧ (x4 < 36) ∧ ((0 ≤ (40 + x1)) ∧ ((40 + x1) < 112) ∧ ((er_in (m 98 x4)) ∧ (er_in ((m 84 (40 + x1)) - 1)) ∧ ((((m 98 x4) = ((m 84 (40 + x1)) - 1) → wp_M_isFirst_5 K x1 x2 0 (x4 + 1) m Q) ∧ ((m 98 x4) ≠ ((m 84 (40 + x1)) - 1) → wp_M_isFirst_5 K x1 x2 1 (x4 + 1) m Q)))))))))))) : wp_M_isFirst_5 K x1 x2 x3 x4 m Q := by
  show er_WP K mi_M_isFirst 0 0 er_SH m 5 [some (.inr 83), some (.inl x1), some (.inl x2), some (.inl x3), some (.inl x4)] [] _
  refine er_iload rfl d_M_isFirst_5 ?_
  refine er_iload_n rfl rfl d_M_isFirst_7 ?_
  obtain ⟨a1, a2, h⟩ := h
  refine er_icmp_ge (tgt := 48) (by decide) a1 a2 d_M_isFirst_8 (fun c3 => ?_) (fun c3 => ?_)
  · have h := h.1 c3
    refine er_iload_n rfl rfl d_M_isFirst_48 ?_
    obtain ⟨a4, h⟩ := h
    exact er_zretE rfl a4 rfl d_M_isFirst_49 h
  · have h := h.2 c3
    refine er_iload_n rfl rfl d_M_isFirst_11 ?_
    obtain ⟨a5, h⟩ := h
    refine er_if_eq (tgt := 40) (by decide) a5 d_M_isFirst_12 (fun c6 => ?_) (fun c6 => ?_)
    · have h := h.1 c6
      refine er_iconst d_M_isFirst_40 ?_
      refine er_istE 3 rfl (Nat.le_of_ble_eq_true rfl) (ls2 := [some (.inr 83), some (.inl x1), some (.inl x2), some (.inl 0), some (.inl x4)]) rfl d_M_isFirst_41 ?_
      refine er_incE (ls2 := [some (.inr 83), some (.inl x1), some (.inl x2), some (.inl 0), some (.inl (x4 + 1))]) rfl (Nat.le_of_ble_eq_true rfl) rfl d_M_isFirst_42 ?_
      refine er_goto (tgt := 5) (by decide) d_M_isFirst_45 ?_
      exact er_forget [some (.inr 83), some (.inl x1), some (.inl x2), some (.inl 0), some (.inl (x4 + 1))] (And.intro rfl (And.intro rfl (And.intro rfl (And.intro rfl (And.intro rfl trivial))))) h
    · have h := h.2 c6
      refine er_aload_n rfl rfl d_M_isFirst_15 ?_
      refine er_getR fl_M_54 sh_83 (by decide) rfl (by decide) d_M_isFirst_16 ?_
      refine er_iload rfl d_M_isFirst_19 ?_
      obtain ⟨a7, a8, h⟩ := h
      refine er_iald sh_98 (by decide) a7 a8 d_M_isFirst_21 ?_
      refine er_aload_n rfl rfl d_M_isFirst_22 ?_
      refine er_getR fl_M_7 sh_83 (by decide) rfl (by decide) d_M_isFirst_23 ?_
      refine er_bipush (by decide) d_M_isFirst_26 ?_
      refine er_iload_n rfl rfl d_M_isFirst_28 ?_
      refine er_iadd d_M_isFirst_29 ?_
      obtain ⟨a9, a10, h⟩ := h
      refine er_iald sh_84 (by decide) a9 a10 d_M_isFirst_30 ?_
      refine er_iconst d_M_isFirst_31 ?_
      refine er_isub d_M_isFirst_32 ?_
      obtain ⟨a11, a12, h⟩ := h
      refine er_icmp_eq (tgt := 40) (by decide) a11 a12 d_M_isFirst_33 (fun c13 => ?_) (fun c13 => ?_)
      · have h := h.1 c13
        refine er_iconst d_M_isFirst_40 ?_
        refine er_istE 3 rfl (Nat.le_of_ble_eq_true rfl) (ls2 := [some (.inr 83), some (.inl x1), some (.inl x2), some (.inl 0), some (.inl x4)]) rfl d_M_isFirst_41 ?_
        refine er_incE (ls2 := [some (.inr 83), some (.inl x1), some (.inl x2), some (.inl 0), some (.inl (x4 + 1))]) rfl (Nat.le_of_ble_eq_true rfl) rfl d_M_isFirst_42 ?_
        refine er_goto (tgt := 5) (by decide) d_M_isFirst_45 ?_
        exact er_forget [some (.inr 83), some (.inl x1), some (.inl x2), some (.inl 0), some (.inl (x4 + 1))] (And.intro rfl (And.intro rfl (And.intro rfl (And.intro rfl (And.intro rfl trivial))))) h
      · have h := h.2 c13
        refine er_iconst d_M_isFirst_36 ?_
        refine er_goto (tgt := 41) (by decide) d_M_isFirst_37 ?_
        refine er_istE 3 rfl (Nat.le_of_ble_eq_true rfl) (ls2 := [some (.inr 83), some (.inl x1), some (.inl x2), some (.inl 1), some (.inl x4)]) rfl d_M_isFirst_41 ?_
        refine er_incE (ls2 := [some (.inr 83), some (.inl x1), some (.inl x2), some (.inl 1), some (.inl (x4 + 1))]) rfl (Nat.le_of_ble_eq_true rfl) rfl d_M_isFirst_42 ?_
        refine er_goto (tgt := 5) (by decide) d_M_isFirst_45 ?_
        exact er_forget [some (.inr 83), some (.inl x1), some (.inl x2), some (.inl 1), some (.inl (x4 + 1))] (And.intro rfl (And.intro rfl (And.intro rfl (And.intro rfl (And.intro rfl trivial))))) h
theorem vc_M_isFirst {K : er_K} {p1 p2 : Int} {m : er_M} {Q : Int → er_M → Prop}  (h : wp_M_isFirst_5 K p1 p2 1 0 m Q) : er_SI K mi_M_isFirst [.inr 83, .inl p1, .inl p2] m Q := by
  refine er_start (by decide) (Nat.le_of_ble_eq_true rfl) ?_
  show er_WP K mi_M_isFirst 0 0 er_SH m 0 [some (.inr 83), some (.inl p1), some (.inl p2), none, none] [] _
  refine er_iconst d_M_isFirst_0 ?_
  refine er_istE 3 rfl (Nat.le_of_ble_eq_true rfl) (ls2 := [some (.inr 83), some (.inl p1), some (.inl p2), some (.inl 1), none]) rfl d_M_isFirst_1 ?_
  refine er_iconst d_M_isFirst_2 ?_
  refine er_istF (Nat.le_of_ble_eq_true rfl) (ls2 := [some (.inr 83), some (.inl p1), some (.inl p2), some (.inl 1), some (.inl 0)]) rfl d_M_isFirst_3 ?_
  exact er_forget [some (.inr 83), some (.inl p1), some (.inl p2), some (.inl 1), some (.inl 0)] (And.intro rfl (And.intro rfl (And.intro rfl (And.intro rfl (And.intro rfl trivial))))) h
theorem vc_M_isStrategy {K : er_K} {p0 : Int} {m : er_M} {Q : Int → er_M → Prop}  (h : er_SI K mi_M_in [.inl p0, .inl 0, .inl 3] m (fun v2 m1 => (v2 = 0 ∨ v2 = 1) ∧ Q v2 m1)) : er_SI K mi_M_isStrategy [.inl p0] m Q := by
  refine er_start (by decide) (Nat.le_of_ble_eq_true rfl) ?_
  show er_WP K mi_M_isStrategy 0 0 er_SH m 0 [some (.inl p0)] [] _
  refine er_iload_n rfl rfl d_M_isStrategy_0 ?_
  refine er_iconst d_M_isStrategy_1 ?_
  refine er_iconst d_M_isStrategy_2 ?_
  refine er_cS (As := [.inl p0, .inl 0, .inl 3]) (st := []) ml_M_64 rfl mw_M_in md_M_in ⟨rfl, rfl⟩ rfl (Nat.le_of_ble_eq_true rfl) ⟨(Nat.le_of_ble_eq_true rfl), (Nat.le_of_ble_eq_true rfl)⟩ rfl d_M_isStrategy_3 h (fun v2 m1 h => ?_)
  obtain ⟨a3, h⟩ := h
  exact er_zretE rfl a3 rfl d_M_isStrategy_6 h
theorem vc_M_layerCount {K : er_K} {p1 : Int} {m : er_M} {Q : Int → er_M → Prop}  (h : er_SI K mi_M_isStrategy [.inl p1] m (fun v2 m1 => (er_in v2) ∧ (((v2 = 0 → Q (-1) m1) ∧ (v2 ≠ 0 → er_SI K mi_M_layering [.inr 83, .inl p1] m1 (fun v6 m5 => Q v6 m5)))))) : er_SI K mi_M_layerCount [.inr 83, .inl p1] m Q := by
  refine er_start (by decide) (Nat.le_of_ble_eq_true rfl) ?_
  show er_WP K mi_M_layerCount 0 0 er_SH m 0 [some (.inr 83), some (.inl p1)] [] _
  refine er_iload_n rfl rfl d_M_layerCount_0 ?_
  refine er_cS (As := [.inl p1]) (st := []) ml_M_174 rfl mw_M_isStrategy md_M_isStrategy ⟨rfl, rfl⟩ rfl (Nat.le_of_ble_eq_true rfl) ⟨(Nat.le_of_ble_eq_true rfl), (Nat.le_of_ble_eq_true rfl)⟩ rfl d_M_layerCount_1 h (fun v2 m1 h => ?_)
  obtain ⟨a3, h⟩ := h
  refine er_if_eq (tgt := 15) (by decide) a3 d_M_layerCount_4 (fun c4 => ?_) (fun c4 => ?_)
  · have h := h.1 c4
    refine er_iconst d_M_layerCount_15 ?_
    exact er_iretE rfl rfl d_M_layerCount_16 h
  · have h := h.2 c4
    refine er_aload_n rfl rfl d_M_layerCount_7 ?_
    refine er_iload_n rfl rfl d_M_layerCount_8 ?_
    refine er_cVI (As := [.inl p1]) (st := []) ml_M_177 mw_M_layering md_M_layering ⟨rfl, rfl⟩ rfl (Nat.le_of_ble_eq_true rfl) sh_83 rfl ⟨(Nat.le_of_ble_eq_true rfl), (Nat.le_of_ble_eq_true rfl)⟩ rfl d_M_layerCount_9 h (fun v6 m5 h => ?_)
    refine er_goto (tgt := 16) (by decide) d_M_layerCount_12 ?_
    exact er_iretE rfl rfl d_M_layerCount_16 h
theorem vc_M_layerOf {K : er_K} {p1 p2 p3 : Int} {m : er_M} {Q : Int → er_M → Prop}  (h : er_SI K mi_M_isStrategy [.inl p1] m (fun v2 m1 => (er_in v2) ∧ (((v2 = 0 → Q (-1) m1) ∧ (v2 ≠ 0 → er_SI K mi_M_isPosition [.inr 83, .inl p2, .inl p3] m1 (fun v6 m5 => (er_in v6) ∧ (((v6 ≠ 0 → er_SI K mi_M_layering [.inr 83, .inl p1] m5 (fun v10 m9 => (0 ≤ ((6 * p2) + p3)) ∧ (((6 * p2) + p3) < 36) ∧ (Q (m9 97 ((6 * p2) + p3)) m9))) ∧ (v6 = 0 → Q (-1) m5))))))))) : er_SI K mi_M_layerOf [.inr 83, .inl p1, .inl p2, .inl p3] m Q := by
  refine er_start (by decide) (Nat.le_of_ble_eq_true rfl) ?_
  show er_WP K mi_M_layerOf 0 0 er_SH m 0 [some (.inr 83), some (.inl p1), some (.inl p2), some (.inl p3)] [] _
  refine er_iload_n rfl rfl d_M_layerOf_0 ?_
  refine er_cS (As := [.inl p1]) (st := []) ml_M_174 rfl mw_M_isStrategy md_M_isStrategy ⟨rfl, rfl⟩ rfl (Nat.le_of_ble_eq_true rfl) ⟨(Nat.le_of_ble_eq_true rfl), (Nat.le_of_ble_eq_true rfl)⟩ rfl d_M_layerOf_1 h (fun v2 m1 h => ?_)
  obtain ⟨a3, h⟩ := h
  refine er_if_eq (tgt := 16) (by decide) a3 d_M_layerOf_4 (fun c4 => ?_) (fun c4 => ?_)
  · have h := h.1 c4
    refine er_iconst d_M_layerOf_16 ?_
    exact er_iretE rfl rfl d_M_layerOf_17 h
  · have h := h.2 c4
    refine er_aload_n rfl rfl d_M_layerOf_7 ?_
    refine er_iload_n rfl rfl d_M_layerOf_8 ?_
    refine er_iload_n rfl rfl d_M_layerOf_9 ?_
    refine er_cVI (As := [.inl p2, .inl p3]) (st := []) ml_M_87 mw_M_isPosition md_M_isPosition ⟨rfl, rfl⟩ rfl (Nat.le_of_ble_eq_true rfl) sh_83 rfl ⟨(Nat.le_of_ble_eq_true rfl), (Nat.le_of_ble_eq_true rfl)⟩ rfl d_M_layerOf_10 h (fun v6 m5 h => ?_)
    obtain ⟨a7, h⟩ := h
    refine er_if_ne (tgt := 18) (by decide) a7 d_M_layerOf_13 (fun c8 => ?_) (fun c8 => ?_)
    · have h := h.1 c8
      refine er_aload_n rfl rfl d_M_layerOf_18 ?_
      refine er_iload_n rfl rfl d_M_layerOf_19 ?_
      refine er_cVI (As := [.inl p1]) (st := []) ml_M_177 mw_M_layering md_M_layering ⟨rfl, rfl⟩ rfl (Nat.le_of_ble_eq_true rfl) sh_83 rfl ⟨(Nat.le_of_ble_eq_true rfl), (Nat.le_of_ble_eq_true rfl)⟩ rfl d_M_layerOf_20 h (fun v10 m9 h => ?_)
      refine er_pop d_M_layerOf_23 ?_
      refine er_aload_n rfl rfl d_M_layerOf_24 ?_
      refine er_getR fl_M_51 sh_83 (by decide) rfl (by decide) d_M_layerOf_25 ?_
      refine er_bipush (by decide) d_M_layerOf_28 ?_
      refine er_iload_n rfl rfl d_M_layerOf_30 ?_
      refine er_imul d_M_layerOf_31 ?_
      refine er_iload_n rfl rfl d_M_layerOf_32 ?_
      refine er_iadd d_M_layerOf_33 ?_
      obtain ⟨a11, a12, h⟩ := h
      refine er_iald sh_97 (by decide) a11 a12 d_M_layerOf_34 ?_
      exact er_iretE rfl rfl d_M_layerOf_35 h
    · have h := h.2 c8
      refine er_iconst d_M_layerOf_16 ?_
      exact er_iretE rfl rfl d_M_layerOf_17 h
def wp_M_layerLoad_25 (K : er_K) (x2 : Int) (x3 : Int) (x4 : Int) (m : er_M) (Q : Int → er_M → Prop) : Prop := er_WP K mi_M_layerLoad 0 0 er_SH m 25 [some (.inr 83), none, some (.inl x2), some (.inl x3), some (.inl x4)] [] (er_Z K mi_M_layerLoad (er_PI Q))
theorem vc_M_layerLoad_25 {K : er_K} {x2 : Int} {x3 : Int} {x4 : Int} {m : er_M} {Q : Int → er_M → Prop}  (h : (er_in x4) ∧ (((36 ≤ x4 → Q x3 m) ∧ (x4 < 36 → (0 ≤ x4) ∧ (x4 < 36) ∧ ((er_in (m 97 x4)) ∧ (er_in x2) ∧ ((((m 97 x4) ≠ x2 → wp_M_layerLoad_25 K x2 (x3 + 0) (x4 + 1) m Q) ∧ ((m 97 x4) = x2 → wp_M_layerLoad_25 K x2 (x3 + 1) (x4 + 1) m Q)))))))) : wp_M_layerLoad_25 K x2 x3 x4 m Q := by
  show er_WP K mi_M_layerLoad 0 0 er_SH m 25 [some (.inr 83), none, some (.inl x2), some (.inl x3), some (.inl x4)] [] _
  refine er_iload rfl d_M_layerLoad_25 ?_
  refine er_bipush (by decide) d_M_layerLoad_27 ?_
  obtain ⟨a1, h⟩ := h
  refine er_icmp_ge (tgt := 57) (by decide) a1 (by decide) d_M_layerLoad_29 (fun c2 => ?_) (fun c2 => ?_)
  · have h := h.1 c2
    refine er_iload_n rfl rfl d_M_layerLoad_57 ?_
    exact er_iretE rfl rfl d_M_layerLoad_58 h
  · have h := h.2 c2
    refine er_iload_n rfl rfl d_M_layerLoad_32 ?_
    refine er_aload_n rfl rfl d_M_layerLoad_33 ?_
    refine er_getR fl_M_51 sh_83 (by decide) rfl (by decide) d_M_layerLoad_34 ?_
    refine er_iload rfl d_M_layerLoad_37 ?_
    obtain ⟨a3, a4, h⟩ := h
    refine er_iald sh_97 (by decide) a3 a4 d_M_layerLoad_39 ?_
    refine er_iload_n rfl rfl d_M_layerLoad_40 ?_
    obtain ⟨a5, a6, h⟩ := h
    refine er_icmp_ne (tgt := 48) (by decide) a5 a6 d_M_layerLoad_41 (fun c7 => ?_) (fun c7 => ?_)
    · have h := h.1 c7
      refine er_iconst d_M_layerLoad_48 ?_
      refine er_iadd d_M_layerLoad_49 ?_
      refine er_istE 3 rfl (Nat.le_of_ble_eq_true rfl) (ls2 := [some (.inr 83), none, some (.inl x2), some (.inl (x3 + 0)), some (.inl x4)]) rfl d_M_layerLoad_50 ?_
      refine er_incE (ls2 := [some (.inr 83), none, some (.inl x2), some (.inl (x3 + 0)), some (.inl (x4 + 1))]) rfl (Nat.le_of_ble_eq_true rfl) rfl d_M_layerLoad_51 ?_
      refine er_goto (tgt := 25) (by decide) d_M_layerLoad_54 ?_
      exact er_forget [some (.inr 83), none, some (.inl x2), some (.inl (x3 + 0)), some (.inl (x4 + 1))] (And.intro rfl (And.intro rfl (And.intro rfl (And.intro rfl trivial)))) h
    · have h := h.2 c7
      refine er_iconst d_M_layerLoad_44 ?_
      refine er_goto (tgt := 49) (by decide) d_M_layerLoad_45 ?_
      refine er_iadd d_M_layerLoad_49 ?_
      refine er_istE 3 rfl (Nat.le_of_ble_eq_true rfl) (ls2 := [some (.inr 83), none, some (.inl x2), some (.inl (x3 + 1)), some (.inl x4)]) rfl d_M_layerLoad_50 ?_
      refine er_incE (ls2 := [some (.inr 83), none, some (.inl x2), some (.inl (x3 + 1)), some (.inl (x4 + 1))]) rfl (Nat.le_of_ble_eq_true rfl) rfl d_M_layerLoad_51 ?_
      refine er_goto (tgt := 25) (by decide) d_M_layerLoad_54 ?_
      exact er_forget [some (.inr 83), none, some (.inl x2), some (.inl (x3 + 1)), some (.inl (x4 + 1))] (And.intro rfl (And.intro rfl (And.intro rfl (And.intro rfl trivial)))) h
theorem vc_M_layerLoad {K : er_K} {p1 p2 : Int} {m : er_M} {Q : Int → er_M → Prop}  (h : er_SI K mi_M_isStrategy [.inl p1] m (fun v2 m1 => (er_in v2) ∧ (((v2 = 0 → Q (-1) m1) ∧ (v2 ≠ 0 → (er_in p2) ∧ (((1 ≤ p2 → er_SI K mi_M_layering [.inr 83, .inl p1] m1 (fun v8 m7 => wp_M_layerLoad_25 K p2 0 0 m7 Q)) ∧ (p2 < 1 → Q (-1) m1)))))))) : er_SI K mi_M_layerLoad [.inr 83, .inl p1, .inl p2] m Q := by
  refine er_start (by decide) (Nat.le_of_ble_eq_true rfl) ?_
  show er_WP K mi_M_layerLoad 0 0 er_SH m 0 [some (.inr 83), some (.inl p1), some (.inl p2), none, none] [] _
  refine er_iload_n rfl rfl d_M_layerLoad_0 ?_
  refine er_cS (As := [.inl p1]) (st := []) ml_M_174 rfl mw_M_isStrategy md_M_isStrategy ⟨rfl, rfl⟩ rfl (Nat.le_of_ble_eq_true rfl) ⟨(Nat.le_of_ble_eq_true rfl), (Nat.le_of_ble_eq_true rfl)⟩ rfl d_M_layerLoad_1 h (fun v2 m1 h => ?_)
  obtain ⟨a3, h⟩ := h
  refine er_if_eq (tgt := 12) (by decide) a3 d_M_layerLoad_4 (fun c4 => ?_) (fun c4 => ?_)
  · have h := h.1 c4
    refine er_iconst d_M_layerLoad_12 ?_
    exact er_iretE rfl rfl d_M_layerLoad_13 h
  · have h := h.2 c4
    refine er_iload_n rfl rfl d_M_layerLoad_7 ?_
    refine er_iconst d_M_layerLoad_8 ?_
    obtain ⟨a5, h⟩ := h
    refine er_icmp_ge (tgt := 14) (by decide) a5 (by decide) d_M_layerLoad_9 (fun c6 => ?_) (fun c6 => ?_)
    · have h := h.1 c6
      refine er_aload_n rfl rfl d_M_layerLoad_14 ?_
      refine er_iload_n rfl rfl d_M_layerLoad_15 ?_
      refine er_cVI (As := [.inl p1]) (st := []) ml_M_177 mw_M_layering md_M_layering ⟨rfl, rfl⟩ rfl (Nat.le_of_ble_eq_true rfl) sh_83 rfl ⟨(Nat.le_of_ble_eq_true rfl), (Nat.le_of_ble_eq_true rfl)⟩ rfl d_M_layerLoad_16 h (fun v8 m7 h => ?_)
      refine er_pop d_M_layerLoad_19 ?_
      refine er_iconst d_M_layerLoad_20 ?_
      refine er_istE 3 rfl (Nat.le_of_ble_eq_true rfl) (ls2 := [some (.inr 83), some (.inl p1), some (.inl p2), some (.inl 0), none]) rfl d_M_layerLoad_21 ?_
      refine er_iconst d_M_layerLoad_22 ?_
      refine er_istF (Nat.le_of_ble_eq_true rfl) (ls2 := [some (.inr 83), some (.inl p1), some (.inl p2), some (.inl 0), some (.inl 0)]) rfl d_M_layerLoad_23 ?_
      exact er_forget [some (.inr 83), none, some (.inl p2), some (.inl 0), some (.inl 0)] (And.intro rfl (And.intro rfl (And.intro rfl (And.intro rfl trivial)))) h
    · have h := h.2 c6
      refine er_iconst d_M_layerLoad_12 ?_
      exact er_iretE rfl rfl d_M_layerLoad_13 h
def wp_M_bestStrategy_8 (K : er_K) (x1 : Int) (x2 : Int) (x3 : Int) (m : er_M) (Q : Int → er_M → Prop) : Prop := er_WP K mi_M_bestStrategy 0 0 er_SH m 8 [some (.inr 83), some (.inl x1), some (.inl x2), some (.inl x3), none] [] (er_Z K mi_M_bestStrategy (er_PI Q))
theorem vc_M_bestStrategy_8 {K : er_K} {x1 : Int} {x2 : Int} {x3 : Int} {m : er_M} {Q : Int → er_M → Prop}  (h : (er_in x3) ∧ (((4 ≤ x3 → Q x1 m) ∧ (x3 < 4 → er_SI K mi_M_layering [.inr 83, .inl x3] m (fun v4 m3 => (er_in v4) ∧ (((v4 = (-9) → wp_M_bestStrategy_8 K x1 x2 (x3 + 1) m3 Q) ∧ (v4 ≠ (-9) → (er_in x2) ∧ (((x2 ≤ v4 → wp_M_bestStrategy_8 K x1 x2 (x3 + 1) m3 Q) ∧ (v4 < x2 → wp_M_bestStrategy_8 K x3 v4 (x3 + 1) m3 Q))))))))))) : wp_M_bestStrategy_8 K x1 x2 x3 m Q := by
  show er_WP K mi_M_bestStrategy 0 0 er_SH m 8 [some (.inr 83), some (.inl x1), some (.inl x2), some (.inl x3), none] [] _
  refine er_iload_n rfl rfl d_M_bestStrategy_8 ?_
  refine er_iconst d_M_bestStrategy_9 ?_
  obtain ⟨a1, h⟩ := h
  refine er_icmp_ge (tgt := 44) (by decide) a1 (by decide) d_M_bestStrategy_10 (fun c2 => ?_) (fun c2 => ?_)
  · have h := h.1 c2
    refine er_iload_n rfl rfl d_M_bestStrategy_44 ?_
    exact er_iretE rfl rfl d_M_bestStrategy_45 h
  · have h := h.2 c2
    refine er_aload_n rfl rfl d_M_bestStrategy_13 ?_
    refine er_iload_n rfl rfl d_M_bestStrategy_14 ?_
    refine er_cVI (As := [.inl x3]) (st := []) ml_M_177 mw_M_layering md_M_layering ⟨rfl, rfl⟩ rfl (Nat.le_of_ble_eq_true rfl) sh_83 rfl ⟨(Nat.le_of_ble_eq_true rfl), (Nat.le_of_ble_eq_true rfl)⟩ rfl d_M_bestStrategy_15 h (fun v4 m3 h => ?_)
    refine er_istF (Nat.le_of_ble_eq_true rfl) (ls2 := [some (.inr 83), some (.inl x1), some (.inl x2), some (.inl x3), some (.inl v4)]) rfl d_M_bestStrategy_18 ?_
    refine er_iload rfl d_M_bestStrategy_20 ?_
    refine er_bipush (by decide) d_M_bestStrategy_22 ?_
    obtain ⟨a5, h⟩ := h
    refine er_icmp_eq (tgt := 38) (by decide) a5 (by decide) d_M_bestStrategy_24 (fun c6 => ?_) (fun c6 => ?_)
    · have h := h.1 c6
      refine er_incE (ls2 := [some (.inr 83), some (.inl x1), some (.inl x2), some (.inl (x3 + 1)), some (.inl v4)]) rfl (Nat.le_of_ble_eq_true rfl) rfl d_M_bestStrategy_38 ?_
      refine er_goto (tgt := 8) (by decide) d_M_bestStrategy_41 ?_
      exact er_forget [some (.inr 83), some (.inl x1), some (.inl x2), some (.inl (x3 + 1)), none] (And.intro rfl (And.intro rfl (And.intro rfl (And.intro rfl trivial)))) h
    · have h := h.2 c6
      refine er_iload rfl d_M_bestStrategy_27 ?_
      refine er_iload_n rfl rfl d_M_bestStrategy_29 ?_
      obtain ⟨a7, h⟩ := h
      refine er_icmp_ge (tgt := 38) (by decide) a5 a7 d_M_bestStrategy_30 (fun c8 => ?_) (fun c8 => ?_)
      · have h := h.1 c8
        refine er_incE (ls2 := [some (.inr 83), some (.inl x1), some (.inl x2), some (.inl (x3 + 1)), some (.inl v4)]) rfl (Nat.le_of_ble_eq_true rfl) rfl d_M_bestStrategy_38 ?_
        refine er_goto (tgt := 8) (by decide) d_M_bestStrategy_41 ?_
        exact er_forget [some (.inr 83), some (.inl x1), some (.inl x2), some (.inl (x3 + 1)), none] (And.intro rfl (And.intro rfl (And.intro rfl (And.intro rfl trivial)))) h
      · have h := h.2 c8
        refine er_iload_n rfl rfl d_M_bestStrategy_33 ?_
        refine er_istE 1 rfl (Nat.le_of_ble_eq_true rfl) (ls2 := [some (.inr 83), some (.inl x3), some (.inl x2), some (.inl x3), some (.inl v4)]) rfl d_M_bestStrategy_34 ?_
        refine er_iload rfl d_M_bestStrategy_35 ?_
        refine er_istE 2 rfl (Nat.le_of_ble_eq_true rfl) (ls2 := [some (.inr 83), some (.inl x3), some (.inl v4), some (.inl x3), some (.inl v4)]) rfl d_M_bestStrategy_37 ?_
        refine er_incE (ls2 := [some (.inr 83), some (.inl x3), some (.inl v4), some (.inl (x3 + 1)), some (.inl v4)]) rfl (Nat.le_of_ble_eq_true rfl) rfl d_M_bestStrategy_38 ?_
        refine er_goto (tgt := 8) (by decide) d_M_bestStrategy_41 ?_
        exact er_forget [some (.inr 83), some (.inl x3), some (.inl v4), some (.inl (x3 + 1)), none] (And.intro rfl (And.intro rfl (And.intro rfl (And.intro rfl trivial)))) h
theorem vc_M_bestStrategy {K : er_K} {m : er_M} {Q : Int → er_M → Prop}  (h : wp_M_bestStrategy_8 K (-9) 100000 0 m Q) : er_SI K mi_M_bestStrategy [.inr 83] m Q := by
  refine er_start (by decide) (Nat.le_of_ble_eq_true rfl) ?_
  show er_WP K mi_M_bestStrategy 0 0 er_SH m 0 [some (.inr 83), none, none, none, none] [] _
  refine er_bipush (by decide) d_M_bestStrategy_0 ?_
  refine er_istE 1 rfl (Nat.le_of_ble_eq_true rfl) (ls2 := [some (.inr 83), some (.inl (-9)), none, none, none]) rfl d_M_bestStrategy_2 ?_
  refine er_ldc kc_M_122 d_M_bestStrategy_3 ?_
  refine er_istE 2 rfl (Nat.le_of_ble_eq_true rfl) (ls2 := [some (.inr 83), some (.inl (-9)), some (.inl 100000), none, none]) rfl d_M_bestStrategy_5 ?_
  refine er_iconst d_M_bestStrategy_6 ?_
  refine er_istE 3 rfl (Nat.le_of_ble_eq_true rfl) (ls2 := [some (.inr 83), some (.inl (-9)), some (.inl 100000), some (.inl 0), none]) rfl d_M_bestStrategy_7 ?_
  exact er_forget [some (.inr 83), some (.inl (-9)), some (.inl 100000), some (.inl 0), none] (And.intro rfl (And.intro rfl (And.intro rfl (And.intro rfl trivial)))) h
def wp_M_most_2 (K : er_K) (x1 : Int) (m : er_M) (Q : Int → er_M → Prop) : Prop := er_WP K mi_M_most 0 0 er_SH m 2 [some (.inr 83), some (.inl x1)] [] (er_Z K mi_M_most (er_PI Q))
def wp_M_most_43 (K : er_K) (x1 : Int) (m : er_M) (Q : Int → er_M → Prop) : Prop := er_WP K mi_M_most 0 0 er_SH m 43 [some (.inr 83), some (.inl x1)] [] (er_Z K mi_M_most (er_PI Q))
theorem vc_M_most_2 {K : er_K} {x1 : Int} {m : er_M} {Q : Int → er_M → Prop}  (h : (er_in x1) ∧ (((36 ≤ x1 → er_SV K mi_M_lay [.inr 83] m (fun m3 => wp_M_most_43 K 0 m3 Q)) ∧ (x1 < 36 → (0 ≤ (4 + x1)) ∧ ((4 + x1) < 112) ∧ ((er_in (m 84 (4 + x1))) ∧ ((((m 84 (4 + x1)) = 2 → (0 ≤ x1) ∧ (x1 < 36) ∧ (∀ m10 : er_M, m10 = er_st m 93 x1 0 → wp_M_most_2 K (x1 + 1) m10 Q)) ∧ ((m 84 (4 + x1)) ≠ 2 → (0 ≤ x1) ∧ (x1 < 36) ∧ (∀ m13 : er_M, m13 = er_st m 93 x1 1 → wp_M_most_2 K (x1 + 1) m13 Q))))))))) : wp_M_most_2 K x1 m Q := by
  show er_WP K mi_M_most 0 0 er_SH m 2 [some (.inr 83), some (.inl x1)] [] _
  refine er_iload_n rfl rfl d_M_most_2 ?_
  refine er_bipush (by decide) d_M_most_3 ?_
  obtain ⟨a1, h⟩ := h
  refine er_icmp_ge (tgt := 37) (by decide) a1 (by decide) d_M_most_5 (fun c2 => ?_) (fun c2 => ?_)
  · have h := h.1 c2
    refine er_aload_n rfl rfl d_M_most_37 ?_
    refine er_cVV (As := []) (st := []) ml_M_136 mw_M_lay md_M_lay ⟨rfl, rfl⟩ rfl (Nat.le_of_ble_eq_true rfl) sh_83 rfl ⟨(Nat.le_of_ble_eq_true rfl), (Nat.le_of_ble_eq_true rfl)⟩ rfl d_M_most_38 h (fun m3 h => ?_)
    refine er_iconst d_M_most_41 ?_
    refine er_istE 1 rfl (Nat.le_of_ble_eq_true rfl) (ls2 := [some (.inr 83), some (.inl 0)]) rfl d_M_most_42 ?_
    exact er_forget [some (.inr 83), some (.inl 0)] (And.intro rfl (And.intro rfl trivial)) h
  · have h := h.2 c2
    refine er_aload_n rfl rfl d_M_most_8 ?_
    refine er_getR fl_M_38 sh_83 (by decide) rfl (by decide) d_M_most_9 ?_
    refine er_iload_n rfl rfl d_M_most_12 ?_
    refine er_aload_n rfl rfl d_M_most_13 ?_
    refine er_getR fl_M_7 sh_83 (by decide) rfl (by decide) d_M_most_14 ?_
    refine er_iconst d_M_most_17 ?_
    refine er_iload_n rfl rfl d_M_most_18 ?_
    refine er_iadd d_M_most_19 ?_
    obtain ⟨a4, a5, h⟩ := h
    refine er_iald sh_84 (by decide) a4 a5 d_M_most_20 ?_
    refine er_iconst d_M_most_21 ?_
    obtain ⟨a6, h⟩ := h
    refine er_icmp_eq (tgt := 29) (by decide) a6 (by decide) d_M_most_22 (fun c7 => ?_) (fun c7 => ?_)
    · have h := h.1 c7
      refine er_iconst d_M_most_29 ?_
      obtain ⟨a8, a9, h⟩ := h
      refine er_zastE sh_93 (by decide) a8 a9 (Or.inl rfl) d_M_most_30 (fun m10 hm => ?_)
      have h := h m10 hm
      refine er_incE (ls2 := [some (.inr 83), some (.inl (x1 + 1))]) rfl (Nat.le_of_ble_eq_true rfl) rfl d_M_most_31 ?_
      refine er_goto (tgt := 2) (by decide) d_M_most_34 ?_
      exact er_forget [some (.inr 83), some (.inl (x1 + 1))] (And.intro rfl (And.intro rfl trivial)) h
    · have h := h.2 c7
      refine er_iconst d_M_most_25 ?_
      refine er_goto (tgt := 30) (by decide) d_M_most_26 ?_
      obtain ⟨a11, a12, h⟩ := h
      refine er_zastE sh_93 (by decide) a11 a12 (Or.inr rfl) d_M_most_30 (fun m13 hm => ?_)
      have h := h m13 hm
      refine er_incE (ls2 := [some (.inr 83), some (.inl (x1 + 1))]) rfl (Nat.le_of_ble_eq_true rfl) rfl d_M_most_31 ?_
      refine er_goto (tgt := 2) (by decide) d_M_most_34 ?_
      exact er_forget [some (.inr 83), some (.inl (x1 + 1))] (And.intro rfl (And.intro rfl trivial)) h
theorem vc_M_most_43 {K : er_K} {x1 : Int} {m : er_M} {Q : Int → er_M → Prop}  (h : (er_in x1) ∧ (((36 ≤ x1 → er_SI K mi_M_augmentAll [.inr 83] m (fun v4 m3 => Q v4 m3)) ∧ (x1 < 36 → (0 ≤ (4 + x1)) ∧ ((4 + x1) < 112) ∧ ((er_in (m 84 (4 + x1))) ∧ ((((m 84 (4 + x1)) ≠ 1 → wp_M_most_43 K (x1 + 1) m Q) ∧ ((m 84 (4 + x1)) = 1 → er_SV K mi_M_layPin [.inr 83, .inl x1, .inl 100000] m (fun m9 => wp_M_most_43 K (x1 + 1) m9 Q))))))))) : wp_M_most_43 K x1 m Q := by
  show er_WP K mi_M_most 0 0 er_SH m 43 [some (.inr 83), some (.inl x1)] [] _
  refine er_iload_n rfl rfl d_M_most_43 ?_
  refine er_bipush (by decide) d_M_most_44 ?_
  obtain ⟨a1, h⟩ := h
  refine er_icmp_ge (tgt := 74) (by decide) a1 (by decide) d_M_most_46 (fun c2 => ?_) (fun c2 => ?_)
  · have h := h.1 c2
    refine er_aload_n rfl rfl d_M_most_74 ?_
    refine er_cVI (As := []) (st := []) ml_M_143 mw_M_augmentAll md_M_augmentAll ⟨rfl, rfl⟩ rfl (Nat.le_of_ble_eq_true rfl) sh_83 rfl ⟨(Nat.le_of_ble_eq_true rfl), (Nat.le_of_ble_eq_true rfl)⟩ rfl d_M_most_75 h (fun v4 m3 h => ?_)
    exact er_iretE rfl rfl d_M_most_78 h
  · have h := h.2 c2
    refine er_aload_n rfl rfl d_M_most_49 ?_
    refine er_getR fl_M_7 sh_83 (by decide) rfl (by decide) d_M_most_50 ?_
    refine er_iconst d_M_most_53 ?_
    refine er_iload_n rfl rfl d_M_most_54 ?_
    refine er_iadd d_M_most_55 ?_
    obtain ⟨a5, a6, h⟩ := h
    refine er_iald sh_84 (by decide) a5 a6 d_M_most_56 ?_
    refine er_iconst d_M_most_57 ?_
    obtain ⟨a7, h⟩ := h
    refine er_icmp_ne (tgt := 68) (by decide) a7 (by decide) d_M_most_58 (fun c8 => ?_) (fun c8 => ?_)
    · have h := h.1 c8
      refine er_incE (ls2 := [some (.inr 83), some (.inl (x1 + 1))]) rfl (Nat.le_of_ble_eq_true rfl) rfl d_M_most_68 ?_
      refine er_goto (tgt := 43) (by decide) d_M_most_71 ?_
      exact er_forget [some (.inr 83), some (.inl (x1 + 1))] (And.intro rfl (And.intro rfl trivial)) h
    · have h := h.2 c8
      refine er_aload_n rfl rfl d_M_most_61 ?_
      refine er_iload_n rfl rfl d_M_most_62 ?_
      refine er_ldc kc_M_122 d_M_most_63 ?_
      refine er_cVV (As := [.inl x1, .inl 100000]) (st := []) ml_M_139 mw_M_layPin md_M_layPin ⟨rfl, rfl⟩ rfl (Nat.le_of_ble_eq_true rfl) sh_83 rfl ⟨(Nat.le_of_ble_eq_true rfl), (Nat.le_of_ble_eq_true rfl)⟩ rfl d_M_most_65 h (fun m9 h => ?_)
      refine er_incE (ls2 := [some (.inr 83), some (.inl (x1 + 1))]) rfl (Nat.le_of_ble_eq_true rfl) rfl d_M_most_68 ?_
      refine er_goto (tgt := 43) (by decide) d_M_most_71 ?_
      exact er_forget [some (.inr 83), some (.inl (x1 + 1))] (And.intro rfl (And.intro rfl trivial)) h
theorem vc_M_most {K : er_K} {m : er_M} {Q : Int → er_M → Prop}  (h : wp_M_most_2 K 0 m Q) : er_SI K mi_M_most [.inr 83] m Q := by
  refine er_start (by decide) (Nat.le_of_ble_eq_true rfl) ?_
  show er_WP K mi_M_most 0 0 er_SH m 0 [some (.inr 83), none] [] _
  refine er_iconst d_M_most_0 ?_
  refine er_istE 1 rfl (Nat.le_of_ble_eq_true rfl) (ls2 := [some (.inr 83), some (.inl 0)]) rfl d_M_most_1 ?_
  exact er_forget [some (.inr 83), some (.inl 0)] (And.intro rfl (And.intro rfl trivial)) h
theorem vc_M_throughput {K : er_K} {m : er_M} {Q : Int → er_M → Prop}  (h : er_SI K mi_M_most [.inr 83] m (fun v2 m1 => Q v2 m1)) : er_SI K mi_M_throughput [.inr 83] m Q := by
  refine er_start (by decide) (Nat.le_of_ble_eq_true rfl) ?_
  show er_WP K mi_M_throughput 0 0 er_SH m 0 [some (.inr 83)] [] _
  refine er_aload_n rfl rfl d_M_throughput_0 ?_
  refine er_cVI (As := []) (st := []) ml_M_180 mw_M_most md_M_most ⟨rfl, rfl⟩ rfl (Nat.le_of_ble_eq_true rfl) sh_83 rfl ⟨(Nat.le_of_ble_eq_true rfl), (Nat.le_of_ble_eq_true rfl)⟩ rfl d_M_throughput_1 h (fun v2 m1 h => ?_)
  exact er_iretE rfl rfl d_M_throughput_4 h
theorem vc_M_lowerBound {K : er_K} {m : er_M} {Q : Int → er_M → Prop}  (h : er_SI K mi_M_signals [.inr 83] m (fun v2 m1 => er_SI K mi_M_most [.inr 83] m1 (fun v4 m3 => (er_in v2) ∧ (((v2 ≠ 0 → (er_in v4) ∧ (((v4 ≠ 0 → (0 ≤ ((v2 + v4) - 1)) ∧ (((v2 + v4) - 1) < 2147483648) ∧ (0 < v4) ∧ (v4 < 2147483648) ∧ (Q (((v2 + v4) - 1) / v4) m3)) ∧ (v4 = 0 → Q (-9) m3)))) ∧ (v2 = 0 → Q 0 m3)))))) : er_SI K mi_M_lowerBound [.inr 83] m Q := by
  refine er_start (by decide) (Nat.le_of_ble_eq_true rfl) ?_
  show er_WP K mi_M_lowerBound 0 0 er_SH m 0 [some (.inr 83), none, none] [] _
  refine er_aload_n rfl rfl d_M_lowerBound_0 ?_
  refine er_cVI (As := []) (st := []) ml_M_84 mw_M_signals md_M_signals ⟨rfl, rfl⟩ rfl (Nat.le_of_ble_eq_true rfl) sh_83 rfl ⟨(Nat.le_of_ble_eq_true rfl), (Nat.le_of_ble_eq_true rfl)⟩ rfl d_M_lowerBound_1 h (fun v2 m1 h => ?_)
  refine er_istE 1 rfl (Nat.le_of_ble_eq_true rfl) (ls2 := [some (.inr 83), some (.inl v2), none]) rfl d_M_lowerBound_4 ?_
  refine er_aload_n rfl rfl d_M_lowerBound_5 ?_
  refine er_cVI (As := []) (st := []) ml_M_180 mw_M_most md_M_most ⟨rfl, rfl⟩ rfl (Nat.le_of_ble_eq_true rfl) sh_83 rfl ⟨(Nat.le_of_ble_eq_true rfl), (Nat.le_of_ble_eq_true rfl)⟩ rfl d_M_lowerBound_6 h (fun v4 m3 h => ?_)
  refine er_istE 2 rfl (Nat.le_of_ble_eq_true rfl) (ls2 := [some (.inr 83), some (.inl v2), some (.inl v4)]) rfl d_M_lowerBound_9 ?_
  refine er_iload_n rfl rfl d_M_lowerBound_10 ?_
  obtain ⟨a5, h⟩ := h
  refine er_if_ne (tgt := 18) (by decide) a5 d_M_lowerBound_11 (fun c6 => ?_) (fun c6 => ?_)
  · have h := h.1 c6
    refine er_iload_n rfl rfl d_M_lowerBound_18 ?_
    obtain ⟨a7, h⟩ := h
    refine er_if_ne (tgt := 27) (by decide) a7 d_M_lowerBound_19 (fun c8 => ?_) (fun c8 => ?_)
    · have h := h.1 c8
      refine er_iload_n rfl rfl d_M_lowerBound_27 ?_
      refine er_iload_n rfl rfl d_M_lowerBound_28 ?_
      refine er_iadd d_M_lowerBound_29 ?_
      refine er_iconst d_M_lowerBound_30 ?_
      refine er_isub d_M_lowerBound_31 ?_
      refine er_iload_n rfl rfl d_M_lowerBound_32 ?_
      obtain ⟨a9, a10, a11, a12, h⟩ := h
      refine er_idiv a9 a10 a11 a12 d_M_lowerBound_33 ?_
      exact er_iretE rfl rfl d_M_lowerBound_34 h
    · have h := h.2 c8
      refine er_bipush (by decide) d_M_lowerBound_22 ?_
      refine er_goto (tgt := 34) (by decide) d_M_lowerBound_24 ?_
      exact er_iretE rfl rfl d_M_lowerBound_34 h
  · have h := h.2 c6
    refine er_iconst d_M_lowerBound_14 ?_
    refine er_goto (tgt := 34) (by decide) d_M_lowerBound_15 ?_
    exact er_iretE rfl rfl d_M_lowerBound_34 h
