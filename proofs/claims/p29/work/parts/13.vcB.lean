/-! conditions of the walks: printed by wip/whole/gen13.py -/
def wp_B_copyFrom_64 (K : er_K) (b b2 : Nat) (x2 : Int) (m : er_M) (Q : er_M → Prop) : Prop := er_WP K mi_B_copyFrom 0 0 er_SH m 64 [some (.inr b), some (.inr b2), some (.inl x2)] [] (er_Z K mi_B_copyFrom (er_PV Q))
theorem vc_B_copyFrom_64 {K : er_K} {b b2 : Nat} {x2 : Int} {m : er_M} {Q : er_M → Prop} (hb : er_isB b) (hb2 : er_isB b2) (h : (er_in x2) ∧ (((36 ≤ x2 → Q m) ∧ (x2 < 36 → (0 ≤ x2) ∧ (x2 < 36) ∧ (((m (b2 + 3) x2) = 0 ∨ (m (b2 + 3) x2) = 1) ∧ (∀ m5 : er_M, m5 = er_st m (b + 3) x2 (m (b2 + 3) x2) → wp_B_copyFrom_64 K b b2 (x2 + 1) m5 Q)))))) : wp_B_copyFrom_64 K b b2 x2 m Q := by
  show er_WP K mi_B_copyFrom 0 0 er_SH m 64 [some (.inr b), some (.inr b2), some (.inl x2)] [] _
  refine er_iload_n rfl rfl d_B_copyFrom_64 ?_
  refine er_bipush (by decide) d_B_copyFrom_65 ?_
  obtain ⟨a1, h⟩ := h
  refine er_icmp_ge (tgt := 88) (by decide) a1 (by decide) d_B_copyFrom_67 (fun c2 => ?_) (fun c2 => ?_)
  · have h := h.1 c2
    exact er_vretE rfl rfl d_B_copyFrom_88 h
  · have h := h.2 c2
    refine er_aload_n rfl rfl d_B_copyFrom_70 ?_
    refine er_getR fl_B_31 (shB_0 hb) (by decide) rfl (Nat.succ_ne_zero _) d_B_copyFrom_71 ?_
    refine er_iload_n rfl rfl d_B_copyFrom_74 ?_
    refine er_aload_n rfl rfl d_B_copyFrom_75 ?_
    refine er_getR fl_B_31 (shB_0 hb2) (by decide) rfl (Nat.succ_ne_zero _) d_B_copyFrom_76 ?_
    refine er_iload_n rfl rfl d_B_copyFrom_79 ?_
    obtain ⟨a3, a4, h⟩ := h
    refine er_zald (shB_3 hb2) (by decide) a3 a4 d_B_copyFrom_80 ?_
    obtain ⟨a6, h⟩ := h
    refine er_zastE (shB_3 hb) (by decide) a3 a4 a6 d_B_copyFrom_81 (fun m5 hm => ?_)
    have h := h m5 hm
    refine er_incE (ls2 := [some (.inr b), some (.inr b2), some (.inl (x2 + 1))]) rfl (Nat.le_of_ble_eq_true rfl) rfl d_B_copyFrom_82 ?_
    refine er_goto (tgt := 64) (by decide) d_B_copyFrom_85 ?_
    exact er_forget [some (.inr b), some (.inr b2), some (.inl (x2 + 1))] (And.intro rfl (And.intro rfl (And.intro rfl trivial))) h
theorem vc_B_copyFrom {K : er_K} {b b2 : Nat} {m : er_M} {Q : er_M → Prop} (hb : er_isB b) (hb2 : er_isB b2) (h : ∀ m1 : er_M, m1 = er_st m b 0 (m b2 0) → ∀ m2 : er_M, m2 = er_st m1 b 1 (m1 b2 1) → ∀ m3 : er_M, m3 = er_st m2 b 2 (m2 b2 2) → ∀ m4 : er_M, m4 = er_st m3 b 3 (m3 b2 3) → ∀ m5 : er_M, m5 = er_cpy m4 (b2 + 1) (b + 1) 36 → ∀ m6 : er_M, m6 = er_cpy m5 (b2 + 2) (b + 2) 36 → wp_B_copyFrom_64 K b b2 0 m6 Q) : er_SV K mi_B_copyFrom [.inr b, .inr b2] m Q := by
  refine er_start (by decide) (Nat.le_of_ble_eq_true rfl) ?_
  show er_WP K mi_B_copyFrom 0 0 er_SH m 0 [some (.inr b), some (.inr b2), none] [] _
  refine er_aload_n rfl rfl d_B_copyFrom_0 ?_
  refine er_aload_n rfl rfl d_B_copyFrom_1 ?_
  refine er_getIE 0 rfl fl_B_9 (shB_0 hb2) (by decide) rfl d_B_copyFrom_2 ?_
  refine er_putIE 0 rfl fl_B_9 (shB_0 hb) (by decide) rfl d_B_copyFrom_5 (fun m1 hm => ?_)
  have h := h m1 hm
  refine er_aload_n rfl rfl d_B_copyFrom_8 ?_
  refine er_aload_n rfl rfl d_B_copyFrom_9 ?_
  refine er_getIE 1 rfl fl_B_15 (shB_0 hb2) (by decide) rfl d_B_copyFrom_10 ?_
  refine er_putIE 1 rfl fl_B_15 (shB_0 hb) (by decide) rfl d_B_copyFrom_13 (fun m2 hm => ?_)
  have h := h m2 hm
  refine er_aload_n rfl rfl d_B_copyFrom_16 ?_
  refine er_aload_n rfl rfl d_B_copyFrom_17 ?_
  refine er_getIE 2 rfl fl_B_18 (shB_0 hb2) (by decide) rfl d_B_copyFrom_18 ?_
  refine er_putIE 2 rfl fl_B_18 (shB_0 hb) (by decide) rfl d_B_copyFrom_21 (fun m3 hm => ?_)
  have h := h m3 hm
  refine er_aload_n rfl rfl d_B_copyFrom_24 ?_
  refine er_aload_n rfl rfl d_B_copyFrom_25 ?_
  refine er_getIE 3 rfl fl_B_21 (shB_0 hb2) (by decide) rfl d_B_copyFrom_26 ?_
  refine er_putIE 3 rfl fl_B_21 (shB_0 hb) (by decide) rfl d_B_copyFrom_29 (fun m4 hm => ?_)
  have h := h m4 hm
  refine er_aload_n rfl rfl d_B_copyFrom_32 ?_
  refine er_getR fl_B_24 (shB_0 hb2) (by decide) rfl (Nat.succ_ne_zero _) d_B_copyFrom_33 ?_
  refine er_iconst d_B_copyFrom_36 ?_
  refine er_aload_n rfl rfl d_B_copyFrom_37 ?_
  refine er_getR fl_B_24 (shB_0 hb) (by decide) rfl (Nat.succ_ne_zero _) d_B_copyFrom_38 ?_
  refine er_iconst d_B_copyFrom_41 ?_
  refine er_bipush (by decide) d_B_copyFrom_42 ?_
  refine er_copyE mc_B_39 (by decide) (shB_1 hb2) (shB_1 hb) (by decide) (by decide) (by decide) (by decide) (fun z => absurd z (by decide)) (Nat.le_of_ble_eq_true rfl) ⟨(Nat.le_of_ble_eq_true rfl), (Nat.le_of_ble_eq_true rfl)⟩ d_B_copyFrom_44 (fun m5 hm => ?_)
  have h := h m5 hm
  refine er_aload_n rfl rfl d_B_copyFrom_47 ?_
  refine er_getR fl_B_28 (shB_0 hb2) (by decide) rfl (Nat.succ_ne_zero _) d_B_copyFrom_48 ?_
  refine er_iconst d_B_copyFrom_51 ?_
  refine er_aload_n rfl rfl d_B_copyFrom_52 ?_
  refine er_getR fl_B_28 (shB_0 hb) (by decide) rfl (Nat.succ_ne_zero _) d_B_copyFrom_53 ?_
  refine er_iconst d_B_copyFrom_56 ?_
  refine er_bipush (by decide) d_B_copyFrom_57 ?_
  refine er_copyE mc_B_39 (by decide) (shB_2 hb2) (shB_2 hb) (by decide) (by decide) (by decide) (by decide) (fun z => absurd z (by decide)) (Nat.le_of_ble_eq_true rfl) ⟨(Nat.le_of_ble_eq_true rfl), (Nat.le_of_ble_eq_true rfl)⟩ d_B_copyFrom_59 (fun m6 hm => ?_)
  have h := h m6 hm
  refine er_iconst d_B_copyFrom_62 ?_
  refine er_istE 2 rfl (Nat.le_of_ble_eq_true rfl) (ls2 := [some (.inr b), some (.inr b2), some (.inl 0)]) rfl d_B_copyFrom_63 ?_
  exact er_forget [some (.inr b), some (.inr b2), some (.inl 0)] (And.intro rfl (And.intro rfl (And.intro rfl trivial))) h
def wp_B_replaceGrid_18 (K : er_K) (x2 : Int) (m : er_M) (Q : er_M → Prop) : Prop := er_WP K mi_B_replaceGrid 0 0 er_SH m 18 [some (.inr 2), some (.inr 40), some (.inl x2), none, none] [] (er_Z K mi_B_replaceGrid (er_PV Q))
def wp_B_replaceGrid_26 (K : er_K) (x2 : Int) (x3 : Int) (m : er_M) (Q : er_M → Prop) : Prop := er_WP K mi_B_replaceGrid 0 0 er_SH m 26 [some (.inr 2), some (.inr 40), some (.inl x2), some (.inl x3), none] [] (er_Z K mi_B_replaceGrid (er_PV Q))
theorem vc_B_replaceGrid_18 {K : er_K} {x2 : Int} {m : er_M} {Q : er_M → Prop}  (h : (er_in x2) ∧ (((6 ≤ x2 → Q m) ∧ (x2 < 6 → wp_B_replaceGrid_26 K x2 0 m Q)))) : wp_B_replaceGrid_18 K x2 m Q := by
  show er_WP K mi_B_replaceGrid 0 0 er_SH m 18 [some (.inr 2), some (.inr 40), some (.inl x2), none, none] [] _
  refine er_iload_n rfl rfl d_B_replaceGrid_18 ?_
  refine er_bipush (by decide) d_B_replaceGrid_19 ?_
  obtain ⟨a1, h⟩ := h
  refine er_icmp_ge (tgt := 94) (by decide) a1 (by decide) d_B_replaceGrid_21 (fun c2 => ?_) (fun c2 => ?_)
  · have h := h.1 c2
    exact er_vretE rfl rfl d_B_replaceGrid_94 h
  · have h := h.2 c2
    refine er_iconst d_B_replaceGrid_24 ?_
    refine er_istE 3 rfl (Nat.le_of_ble_eq_true rfl) (ls2 := [some (.inr 2), some (.inr 40), some (.inl x2), some (.inl 0), none]) rfl d_B_replaceGrid_25 ?_
    exact er_forget [some (.inr 2), some (.inr 40), some (.inl x2), some (.inl 0), none] (And.intro rfl (And.intro rfl (And.intro rfl (And.intro rfl trivial)))) h
theorem vc_B_replaceGrid_26 {K : er_K} {x2 : Int} {x3 : Int} {m : er_M} {Q : er_M → Prop}  (h : (er_in x3) ∧ (((6 ≤ x3 → wp_B_replaceGrid_18 K (x2 + 1) m Q) ∧ (x3 < 6 → er_SI K mi_R_placeOf [.inl x2, .inl x3] m (fun v4 m3 => er_SI K mi_B_has [.inr 2, .inl x2, .inl x3] m3 (fun v6 m5 => (er_in v6) ∧ (((v6 = 0 → (0 ≤ v4) ∧ (v4 < 36) ∧ (∀ m11 : er_M, m11 = er_st m5 3 v4 0 → ∀ m12 : er_M, m12 = er_st m11 4 v4 (-1) → ∀ m13 : er_M, m13 = er_st m12 5 v4 0 → wp_B_replaceGrid_26 K x2 (x3 + 1) m13 Q)) ∧ (v6 ≠ 0 → (0 ≤ v4) ∧ (v4 < 36) ∧ (∀ m16 : er_M, m16 = er_st m5 3 v4 (m5 42 v4) → ∀ m17 : er_M, m17 = er_st m16 4 v4 (-1) → ∀ m18 : er_M, m18 = er_st m17 5 v4 0 → wp_B_replaceGrid_26 K x2 (x3 + 1) m18 Q)))))))))) : wp_B_replaceGrid_26 K x2 x3 m Q := by
  show er_WP K mi_B_replaceGrid 0 0 er_SH m 26 [some (.inr 2), some (.inr 40), some (.inl x2), some (.inl x3), none] [] _
  refine er_iload_n rfl rfl d_B_replaceGrid_26 ?_
  refine er_bipush (by decide) d_B_replaceGrid_27 ?_
  obtain ⟨a1, h⟩ := h
  refine er_icmp_ge (tgt := 88) (by decide) a1 (by decide) d_B_replaceGrid_29 (fun c2 => ?_) (fun c2 => ?_)
  · have h := h.1 c2
    refine er_incE (ls2 := [some (.inr 2), some (.inr 40), some (.inl (x2 + 1)), some (.inl x3), none]) rfl (Nat.le_of_ble_eq_true rfl) rfl d_B_replaceGrid_88 ?_
    refine er_goto (tgt := 18) (by decide) d_B_replaceGrid_91 ?_
    exact er_forget [some (.inr 2), some (.inr 40), some (.inl (x2 + 1)), none, none] (And.intro rfl (And.intro rfl (And.intro rfl trivial))) h
  · have h := h.2 c2
    refine er_iload_n rfl rfl d_B_replaceGrid_32 ?_
    refine er_iload_n rfl rfl d_B_replaceGrid_33 ?_
    refine er_cN (As := [.inl x2, .inl x3]) (st := []) ml_B_35 mw_R_placeOf md_R_placeOf ⟨rfl, rfl⟩ rfl (Nat.le_of_ble_eq_true rfl) ⟨(Nat.le_of_ble_eq_true rfl), (Nat.le_of_ble_eq_true rfl)⟩ rfl d_B_replaceGrid_34 h (fun v4 m3 h => ?_)
    refine er_istF (Nat.le_of_ble_eq_true rfl) (ls2 := [some (.inr 2), some (.inr 40), some (.inl x2), some (.inl x3), some (.inl v4)]) rfl d_B_replaceGrid_37 ?_
    refine er_aload_n rfl rfl d_B_replaceGrid_39 ?_
    refine er_getR fl_B_24 sh_2 (by decide) rfl (by decide) d_B_replaceGrid_40 ?_
    refine er_iload rfl d_B_replaceGrid_43 ?_
    refine er_aload_n rfl rfl d_B_replaceGrid_45 ?_
    refine er_iload_n rfl rfl d_B_replaceGrid_46 ?_
    refine er_iload_n rfl rfl d_B_replaceGrid_47 ?_
    refine er_cVI (As := [.inl x2, .inl x3]) (st := [.inl v4, .inr 3]) ml_B_49 mw_B_has md_B_has ⟨rfl, rfl⟩ rfl (Nat.le_of_ble_eq_true rfl) sh_2 rfl ⟨(Nat.le_of_ble_eq_true rfl), (Nat.le_of_ble_eq_true rfl)⟩ rfl d_B_replaceGrid_48 h (fun v6 m5 h => ?_)
    obtain ⟨a7, h⟩ := h
    refine er_if_eq (tgt := 64) (by decide) a7 d_B_replaceGrid_51 (fun c8 => ?_) (fun c8 => ?_)
    · have h := h.1 c8
      refine er_iconst d_B_replaceGrid_64 ?_
      obtain ⟨a9, a10, h⟩ := h
      refine er_iastE sh_3 (by decide) a9 a10 d_B_replaceGrid_65 (fun m11 hm => ?_)
      have h := h m11 hm
      refine er_aload_n rfl rfl d_B_replaceGrid_66 ?_
      refine er_getR fl_B_28 sh_2 (by decide) rfl (by decide) d_B_replaceGrid_67 ?_
      refine er_iload rfl d_B_replaceGrid_70 ?_
      refine er_iconst d_B_replaceGrid_72 ?_
      refine er_iastE sh_4 (by decide) a9 a10 d_B_replaceGrid_73 (fun m12 hm => ?_)
      have h := h m12 hm
      refine er_aload_n rfl rfl d_B_replaceGrid_74 ?_
      refine er_getR fl_B_31 sh_2 (by decide) rfl (by decide) d_B_replaceGrid_75 ?_
      refine er_iload rfl d_B_replaceGrid_78 ?_
      refine er_iconst d_B_replaceGrid_80 ?_
      refine er_zastE sh_5 (by decide) a9 a10 (Or.inl rfl) d_B_replaceGrid_81 (fun m13 hm => ?_)
      have h := h m13 hm
      refine er_incE (ls2 := [some (.inr 2), some (.inr 40), some (.inl x2), some (.inl (x3 + 1)), some (.inl v4)]) rfl (Nat.le_of_ble_eq_true rfl) rfl d_B_replaceGrid_82 ?_
      refine er_goto (tgt := 26) (by decide) d_B_replaceGrid_85 ?_
      exact er_forget [some (.inr 2), some (.inr 40), some (.inl x2), some (.inl (x3 + 1)), none] (And.intro rfl (And.intro rfl (And.intro rfl (And.intro rfl trivial)))) h
    · have h := h.2 c8
      refine er_aload_n rfl rfl d_B_replaceGrid_54 ?_
      refine er_getR fl_B_53 sh_40 (by decide) rfl (by decide) d_B_replaceGrid_55 ?_
      refine er_iload rfl d_B_replaceGrid_58 ?_
      obtain ⟨a14, a15, h⟩ := h
      refine er_iald sh_42 (by decide) a14 a15 d_B_replaceGrid_60 ?_
      refine er_goto (tgt := 65) (by decide) d_B_replaceGrid_61 ?_
      refine er_iastE sh_3 (by decide) a14 a15 d_B_replaceGrid_65 (fun m16 hm => ?_)
      have h := h m16 hm
      refine er_aload_n rfl rfl d_B_replaceGrid_66 ?_
      refine er_getR fl_B_28 sh_2 (by decide) rfl (by decide) d_B_replaceGrid_67 ?_
      refine er_iload rfl d_B_replaceGrid_70 ?_
      refine er_iconst d_B_replaceGrid_72 ?_
      refine er_iastE sh_4 (by decide) a14 a15 d_B_replaceGrid_73 (fun m17 hm => ?_)
      have h := h m17 hm
      refine er_aload_n rfl rfl d_B_replaceGrid_74 ?_
      refine er_getR fl_B_31 sh_2 (by decide) rfl (by decide) d_B_replaceGrid_75 ?_
      refine er_iload rfl d_B_replaceGrid_78 ?_
      refine er_iconst d_B_replaceGrid_80 ?_
      refine er_zastE sh_5 (by decide) a14 a15 (Or.inl rfl) d_B_replaceGrid_81 (fun m18 hm => ?_)
      have h := h m18 hm
      refine er_incE (ls2 := [some (.inr 2), some (.inr 40), some (.inl x2), some (.inl (x3 + 1)), some (.inl v4)]) rfl (Nat.le_of_ble_eq_true rfl) rfl d_B_replaceGrid_82 ?_
      refine er_goto (tgt := 26) (by decide) d_B_replaceGrid_85 ?_
      exact er_forget [some (.inr 2), some (.inr 40), some (.inl x2), some (.inl (x3 + 1)), none] (And.intro rfl (And.intro rfl (And.intro rfl (And.intro rfl trivial)))) h
theorem vc_B_replaceGrid {K : er_K} {m : er_M} {Q : er_M → Prop}  (h : ∀ m1 : er_M, m1 = er_st m 2 0 (m 40 2) → ∀ m2 : er_M, m2 = er_st m1 2 1 (m1 40 3) → wp_B_replaceGrid_18 K 0 m2 Q) : er_SV K mi_B_replaceGrid [.inr 2, .inr 40] m Q := by
  refine er_start (by decide) (Nat.le_of_ble_eq_true rfl) ?_
  show er_WP K mi_B_replaceGrid 0 0 er_SH m 0 [some (.inr 2), some (.inr 40), none, none, none] [] _
  refine er_aload_n rfl rfl d_B_replaceGrid_0 ?_
  refine er_aload_n rfl rfl d_B_replaceGrid_1 ?_
  refine er_getIE 2 rfl fl_B_45 sh_40 (by decide) rfl d_B_replaceGrid_2 ?_
  refine er_putIE 0 rfl fl_B_9 sh_2 (by decide) rfl d_B_replaceGrid_5 (fun m1 hm => ?_)
  have h := h m1 hm
  refine er_aload_n rfl rfl d_B_replaceGrid_8 ?_
  refine er_aload_n rfl rfl d_B_replaceGrid_9 ?_
  refine er_getIE 3 rfl fl_B_48 sh_40 (by decide) rfl d_B_replaceGrid_10 ?_
  refine er_putIE 1 rfl fl_B_15 sh_2 (by decide) rfl d_B_replaceGrid_13 (fun m2 hm => ?_)
  have h := h m2 hm
  refine er_iconst d_B_replaceGrid_16 ?_
  refine er_istE 2 rfl (Nat.le_of_ble_eq_true rfl) (ls2 := [some (.inr 2), some (.inr 40), some (.inl 0), none, none]) rfl d_B_replaceGrid_17 ?_
  exact er_forget [some (.inr 2), some (.inr 40), some (.inl 0), none, none] (And.intro rfl (And.intro rfl (And.intro rfl trivial))) h
theorem vc_B_has {K : er_K} {p1 p2 : Int} {m : er_M} {Q : Int → er_M → Prop}  (h : (er_in p1) ∧ (((p1 < 0 → Q 0 m) ∧ (0 ≤ p1 → (er_in (m 2 0)) ∧ ((((m 2 0) ≤ p1 → Q 0 m) ∧ (p1 < (m 2 0) → (er_in p2) ∧ (((p2 < 0 → Q 0 m) ∧ (0 ≤ p2 → (er_in (m 2 1)) ∧ ((((m 2 1) ≤ p2 → Q 0 m) ∧ (p2 < (m 2 1) → Q 1 m))))))))))))) : er_SI K mi_B_has [.inr 2, .inl p1, .inl p2] m Q := by
  refine er_start (by decide) (Nat.le_of_ble_eq_true rfl) ?_
  show er_WP K mi_B_has 0 0 er_SH m 0 [some (.inr 2), some (.inl p1), some (.inl p2)] [] _
  refine er_iload_n rfl rfl d_B_has_0 ?_
  obtain ⟨a1, h⟩ := h
  refine er_if_lt (tgt := 28) (by decide) a1 d_B_has_1 (fun c2 => ?_) (fun c2 => ?_)
  · have h := h.1 c2
    refine er_iconst d_B_has_28 ?_
    exact er_zretE rfl (Or.inl rfl) rfl d_B_has_29 h
  · have h := h.2 c2
    refine er_iload_n rfl rfl d_B_has_4 ?_
    refine er_aload_n rfl rfl d_B_has_5 ?_
    refine er_getIE 0 rfl fl_B_9 sh_2 (by decide) rfl d_B_has_6 ?_
    obtain ⟨a3, h⟩ := h
    refine er_icmp_ge (tgt := 28) (by decide) a1 a3 d_B_has_9 (fun c4 => ?_) (fun c4 => ?_)
    · have h := h.1 c4
      refine er_iconst d_B_has_28 ?_
      exact er_zretE rfl (Or.inl rfl) rfl d_B_has_29 h
    · have h := h.2 c4
      refine er_iload_n rfl rfl d_B_has_12 ?_
      obtain ⟨a5, h⟩ := h
      refine er_if_lt (tgt := 28) (by decide) a5 d_B_has_13 (fun c6 => ?_) (fun c6 => ?_)
      · have h := h.1 c6
        refine er_iconst d_B_has_28 ?_
        exact er_zretE rfl (Or.inl rfl) rfl d_B_has_29 h
      · have h := h.2 c6
        refine er_iload_n rfl rfl d_B_has_16 ?_
        refine er_aload_n rfl rfl d_B_has_17 ?_
        refine er_getIE 1 rfl fl_B_15 sh_2 (by decide) rfl d_B_has_18 ?_
        obtain ⟨a7, h⟩ := h
        refine er_icmp_ge (tgt := 28) (by decide) a5 a7 d_B_has_21 (fun c8 => ?_) (fun c8 => ?_)
        · have h := h.1 c8
          refine er_iconst d_B_has_28 ?_
          exact er_zretE rfl (Or.inl rfl) rfl d_B_has_29 h
        · have h := h.2 c8
          refine er_iconst d_B_has_24 ?_
          refine er_goto (tgt := 29) (by decide) d_B_has_25 ?_
          exact er_zretE rfl (Or.inr rfl) rfl d_B_has_29 h
theorem vc_B_isFreeForPair {K : er_K} {p1 : Int} {m : er_M} {Q : Int → er_M → Prop}  (h : (0 ≤ p1) ∧ (p1 < 36) ∧ ((er_in (m 3 p1)) ∧ ((((m 3 p1) ≠ 1 → Q 0 m) ∧ ((m 3 p1) = 1 → (er_in (m 4 p1)) ∧ ((((m 4 p1) ≠ (-1) → Q 0 m) ∧ ((m 4 p1) = (-1) → Q 1 m)))))))) : er_SI K mi_B_isFreeForPair [.inr 2, .inl p1] m Q := by
  refine er_start (by decide) (Nat.le_of_ble_eq_true rfl) ?_
  show er_WP K mi_B_isFreeForPair 0 0 er_SH m 0 [some (.inr 2), some (.inl p1)] [] _
  refine er_aload_n rfl rfl d_B_isFreeForPair_0 ?_
  refine er_getR fl_B_24 sh_2 (by decide) rfl (by decide) d_B_isFreeForPair_1 ?_
  refine er_iload_n rfl rfl d_B_isFreeForPair_4 ?_
  obtain ⟨a1, a2, h⟩ := h
  refine er_iald sh_3 (by decide) a1 a2 d_B_isFreeForPair_5 ?_
  refine er_iconst d_B_isFreeForPair_6 ?_
  obtain ⟨a3, h⟩ := h
  refine er_icmp_ne (tgt := 24) (by decide) a3 (by decide) d_B_isFreeForPair_7 (fun c4 => ?_) (fun c4 => ?_)
  · have h := h.1 c4
    refine er_iconst d_B_isFreeForPair_24 ?_
    exact er_zretE rfl (Or.inl rfl) rfl d_B_isFreeForPair_25 h
  · have h := h.2 c4
    refine er_aload_n rfl rfl d_B_isFreeForPair_10 ?_
    refine er_getR fl_B_28 sh_2 (by decide) rfl (by decide) d_B_isFreeForPair_11 ?_
    refine er_iload_n rfl rfl d_B_isFreeForPair_14 ?_
    refine er_iald sh_4 (by decide) a1 a2 d_B_isFreeForPair_15 ?_
    refine er_iconst d_B_isFreeForPair_16 ?_
    obtain ⟨a5, h⟩ := h
    refine er_icmp_ne (tgt := 24) (by decide) a5 (by decide) d_B_isFreeForPair_17 (fun c6 => ?_) (fun c6 => ?_)
    · have h := h.1 c6
      refine er_iconst d_B_isFreeForPair_24 ?_
      exact er_zretE rfl (Or.inl rfl) rfl d_B_isFreeForPair_25 h
    · have h := h.2 c6
      refine er_iconst d_B_isFreeForPair_20 ?_
      refine er_goto (tgt := 25) (by decide) d_B_isFreeForPair_21 ?_
      exact er_zretE rfl (Or.inr rfl) rfl d_B_isFreeForPair_25 h
theorem vc_B_separate {K : er_K} {p1 : Int} {m : er_M} {Q : er_M → Prop}  (h : (0 ≤ p1) ∧ (p1 < 36) ∧ ((er_in (m 4 p1)) ∧ ((((m 4 p1) = (-1) → Q m) ∧ ((m 4 p1) ≠ (-1) → (0 ≤ (m 4 p1)) ∧ ((m 4 p1) < 36) ∧ (∀ m7 : er_M, m7 = er_st m 4 (m 4 p1) (-1) → ∀ m8 : er_M, m8 = er_st m7 4 p1 (-1) → Q m8)))))) : er_SV K mi_B_separate [.inr 2, .inl p1] m Q := by
  refine er_start (by decide) (Nat.le_of_ble_eq_true rfl) ?_
  show er_WP K mi_B_separate 0 0 er_SH m 0 [some (.inr 2), some (.inl p1), none] [] _
  refine er_aload_n rfl rfl d_B_separate_0 ?_
  refine er_getR fl_B_28 sh_2 (by decide) rfl (by decide) d_B_separate_1 ?_
  refine er_iload_n rfl rfl d_B_separate_4 ?_
  obtain ⟨a1, a2, h⟩ := h
  refine er_iald sh_4 (by decide) a1 a2 d_B_separate_5 ?_
  refine er_istE 2 rfl (Nat.le_of_ble_eq_true rfl) (ls2 := [some (.inr 2), some (.inl p1), some (.inl (m 4 p1))]) rfl d_B_separate_6 ?_
  refine er_iload_n rfl rfl d_B_separate_7 ?_
  refine er_iconst d_B_separate_8 ?_
  obtain ⟨a3, h⟩ := h
  refine er_icmp_eq (tgt := 26) (by decide) a3 (by decide) d_B_separate_9 (fun c4 => ?_) (fun c4 => ?_)
  · have h := h.1 c4
    exact er_vretE rfl rfl d_B_separate_26 h
  · have h := h.2 c4
    refine er_aload_n rfl rfl d_B_separate_12 ?_
    refine er_getR fl_B_28 sh_2 (by decide) rfl (by decide) d_B_separate_13 ?_
    refine er_iload_n rfl rfl d_B_separate_16 ?_
    refine er_iconst d_B_separate_17 ?_
    obtain ⟨a5, a6, h⟩ := h
    refine er_iastE sh_4 (by decide) a5 a6 d_B_separate_18 (fun m7 hm => ?_)
    have h := h m7 hm
    refine er_aload_n rfl rfl d_B_separate_19 ?_
    refine er_getR fl_B_28 sh_2 (by decide) rfl (by decide) d_B_separate_20 ?_
    refine er_iload_n rfl rfl d_B_separate_23 ?_
    refine er_iconst d_B_separate_24 ?_
    refine er_iastE sh_4 (by decide) a1 a2 d_B_separate_25 (fun m8 hm => ?_)
    have h := h m8 hm
    exact er_vretE rfl rfl d_B_separate_26 h
def wp_B_countSignals_4 (K : er_K) (x1 : Int) (x2 : Int) (m : er_M) (Q : Int → er_M → Prop) : Prop := er_WP K mi_B_countSignals 0 0 er_SH m 4 [some (.inr 2), some (.inl x1), some (.inl x2)] [] (er_Z K mi_B_countSignals (er_PI Q))
theorem vc_B_countSignals_4 {K : er_K} {x1 : Int} {x2 : Int} {m : er_M} {Q : Int → er_M → Prop}  (h : (er_in x2) ∧ (((36 ≤ x2 → Q x1 m) ∧ (x2 < 36 → (0 ≤ x2) ∧ (x2 < 36) ∧ ((er_in (m 3 x2)) ∧ ((((m 3 x2) ≠ 1 → wp_B_countSignals_4 K x1 (x2 + 1) m Q) ∧ ((m 3 x2) = 1 → wp_B_countSignals_4 K (x1 + 1) (x2 + 1) m Q)))))))) : wp_B_countSignals_4 K x1 x2 m Q := by
  show er_WP K mi_B_countSignals 0 0 er_SH m 4 [some (.inr 2), some (.inl x1), some (.inl x2)] [] _
  refine er_iload_n rfl rfl d_B_countSignals_4 ?_
  refine er_bipush (by decide) d_B_countSignals_5 ?_
  obtain ⟨a1, h⟩ := h
  refine er_icmp_ge (tgt := 29) (by decide) a1 (by decide) d_B_countSignals_7 (fun c2 => ?_) (fun c2 => ?_)
  · have h := h.1 c2
    refine er_iload_n rfl rfl d_B_countSignals_29 ?_
    exact er_iretE rfl rfl d_B_countSignals_30 h
  · have h := h.2 c2
    refine er_aload_n rfl rfl d_B_countSignals_10 ?_
    refine er_getR fl_B_24 sh_2 (by decide) rfl (by decide) d_B_countSignals_11 ?_
    refine er_iload_n rfl rfl d_B_countSignals_14 ?_
    obtain ⟨a3, a4, h⟩ := h
    refine er_iald sh_3 (by decide) a3 a4 d_B_countSignals_15 ?_
    refine er_iconst d_B_countSignals_16 ?_
    obtain ⟨a5, h⟩ := h
    refine er_icmp_ne (tgt := 23) (by decide) a5 (by decide) d_B_countSignals_17 (fun c6 => ?_) (fun c6 => ?_)
    · have h := h.1 c6
      refine er_incE (ls2 := [some (.inr 2), some (.inl x1), some (.inl (x2 + 1))]) rfl (Nat.le_of_ble_eq_true rfl) rfl d_B_countSignals_23 ?_
      refine er_goto (tgt := 4) (by decide) d_B_countSignals_26 ?_
      exact er_forget [some (.inr 2), some (.inl x1), some (.inl (x2 + 1))] (And.intro rfl (And.intro rfl (And.intro rfl trivial))) h
    · have h := h.2 c6
      refine er_incE (ls2 := [some (.inr 2), some (.inl (x1 + 1)), some (.inl x2)]) rfl (Nat.le_of_ble_eq_true rfl) rfl d_B_countSignals_20 ?_
      refine er_incE (ls2 := [some (.inr 2), some (.inl (x1 + 1)), some (.inl (x2 + 1))]) rfl (Nat.le_of_ble_eq_true rfl) rfl d_B_countSignals_23 ?_
      refine er_goto (tgt := 4) (by decide) d_B_countSignals_26 ?_
      exact er_forget [some (.inr 2), some (.inl (x1 + 1)), some (.inl (x2 + 1))] (And.intro rfl (And.intro rfl (And.intro rfl trivial))) h
theorem vc_B_countSignals {K : er_K} {m : er_M} {Q : Int → er_M → Prop}  (h : wp_B_countSignals_4 K 0 0 m Q) : er_SI K mi_B_countSignals [.inr 2] m Q := by
  refine er_start (by decide) (Nat.le_of_ble_eq_true rfl) ?_
  show er_WP K mi_B_countSignals 0 0 er_SH m 0 [some (.inr 2), none, none] [] _
  refine er_iconst d_B_countSignals_0 ?_
  refine er_istE 1 rfl (Nat.le_of_ble_eq_true rfl) (ls2 := [some (.inr 2), some (.inl 0), none]) rfl d_B_countSignals_1 ?_
  refine er_iconst d_B_countSignals_2 ?_
  refine er_istE 2 rfl (Nat.le_of_ble_eq_true rfl) (ls2 := [some (.inr 2), some (.inl 0), some (.inl 0)]) rfl d_B_countSignals_3 ?_
  exact er_forget [some (.inr 2), some (.inl 0), some (.inl 0)] (And.intro rfl (And.intro rfl (And.intro rfl trivial))) h
def wp_B_countPairs_4 (K : er_K) (x1 : Int) (x2 : Int) (m : er_M) (Q : Int → er_M → Prop) : Prop := er_WP K mi_B_countPairs 0 0 er_SH m 4 [some (.inr 2), some (.inl x1), some (.inl x2)] [] (er_Z K mi_B_countPairs (er_PI Q))
theorem vc_B_countPairs_4 {K : er_K} {x1 : Int} {x2 : Int} {m : er_M} {Q : Int → er_M → Prop}  (h : (er_in x2) ∧ (((36 ≤ x2 → Q x1 m) ∧ (x2 < 36 → (0 ≤ x2) ∧ (x2 < 36) ∧ ((er_in (m 4 x2)) ∧ ((((m 4 x2) ≤ x2 → wp_B_countPairs_4 K x1 (x2 + 1) m Q) ∧ (x2 < (m 4 x2) → wp_B_countPairs_4 K (x1 + 1) (x2 + 1) m Q)))))))) : wp_B_countPairs_4 K x1 x2 m Q := by
  show er_WP K mi_B_countPairs 0 0 er_SH m 4 [some (.inr 2), some (.inl x1), some (.inl x2)] [] _
  refine er_iload_n rfl rfl d_B_countPairs_4 ?_
  refine er_bipush (by decide) d_B_countPairs_5 ?_
  obtain ⟨a1, h⟩ := h
  refine er_icmp_ge (tgt := 29) (by decide) a1 (by decide) d_B_countPairs_7 (fun c2 => ?_) (fun c2 => ?_)
  · have h := h.1 c2
    refine er_iload_n rfl rfl d_B_countPairs_29 ?_
    exact er_iretE rfl rfl d_B_countPairs_30 h
  · have h := h.2 c2
    refine er_aload_n rfl rfl d_B_countPairs_10 ?_
    refine er_getR fl_B_28 sh_2 (by decide) rfl (by decide) d_B_countPairs_11 ?_
    refine er_iload_n rfl rfl d_B_countPairs_14 ?_
    obtain ⟨a3, a4, h⟩ := h
    refine er_iald sh_4 (by decide) a3 a4 d_B_countPairs_15 ?_
    refine er_iload_n rfl rfl d_B_countPairs_16 ?_
    obtain ⟨a5, h⟩ := h
    refine er_icmp_le (tgt := 23) (by decide) a5 a1 d_B_countPairs_17 (fun c6 => ?_) (fun c6 => ?_)
    · have h := h.1 c6
      refine er_incE (ls2 := [some (.inr 2), some (.inl x1), some (.inl (x2 + 1))]) rfl (Nat.le_of_ble_eq_true rfl) rfl d_B_countPairs_23 ?_
      refine er_goto (tgt := 4) (by decide) d_B_countPairs_26 ?_
      exact er_forget [some (.inr 2), some (.inl x1), some (.inl (x2 + 1))] (And.intro rfl (And.intro rfl (And.intro rfl trivial))) h
    · have h := h.2 c6
      refine er_incE (ls2 := [some (.inr 2), some (.inl (x1 + 1)), some (.inl x2)]) rfl (Nat.le_of_ble_eq_true rfl) rfl d_B_countPairs_20 ?_
      refine er_incE (ls2 := [some (.inr 2), some (.inl (x1 + 1)), some (.inl (x2 + 1))]) rfl (Nat.le_of_ble_eq_true rfl) rfl d_B_countPairs_23 ?_
      refine er_goto (tgt := 4) (by decide) d_B_countPairs_26 ?_
      exact er_forget [some (.inr 2), some (.inl (x1 + 1)), some (.inl (x2 + 1))] (And.intro rfl (And.intro rfl (And.intro rfl trivial))) h
theorem vc_B_countPairs {K : er_K} {m : er_M} {Q : Int → er_M → Prop}  (h : wp_B_countPairs_4 K 0 0 m Q) : er_SI K mi_B_countPairs [.inr 2] m Q := by
  refine er_start (by decide) (Nat.le_of_ble_eq_true rfl) ?_
  show er_WP K mi_B_countPairs 0 0 er_SH m 0 [some (.inr 2), none, none] [] _
  refine er_iconst d_B_countPairs_0 ?_
  refine er_istE 1 rfl (Nat.le_of_ble_eq_true rfl) (ls2 := [some (.inr 2), some (.inl 0), none]) rfl d_B_countPairs_1 ?_
  refine er_iconst d_B_countPairs_2 ?_
  refine er_istE 2 rfl (Nat.le_of_ble_eq_true rfl) (ls2 := [some (.inr 2), some (.inl 0), some (.inl 0)]) rfl d_B_countPairs_3 ?_
  exact er_forget [some (.inr 2), some (.inl 0), some (.inl 0)] (And.intro rfl (And.intro rfl (And.intro rfl trivial))) h
def wp_B_countSelected_4 (K : er_K) (x1 : Int) (x2 : Int) (m : er_M) (Q : Int → er_M → Prop) : Prop := er_WP K mi_B_countSelected 0 0 er_SH m 4 [some (.inr 2), some (.inl x1), some (.inl x2)] [] (er_Z K mi_B_countSelected (er_PI Q))
theorem vc_B_countSelected_4 {K : er_K} {x1 : Int} {x2 : Int} {m : er_M} {Q : Int → er_M → Prop}  (h : (er_in x2) ∧ (((36 ≤ x2 → Q x1 m) ∧ (x2 < 36 → (0 ≤ x2) ∧ (x2 < 36) ∧ ((er_in (m 5 x2)) ∧ ((((m 5 x2) = 0 → wp_B_countSelected_4 K x1 (x2 + 1) m Q) ∧ ((m 5 x2) ≠ 0 → wp_B_countSelected_4 K (x1 + 1) (x2 + 1) m Q)))))))) : wp_B_countSelected_4 K x1 x2 m Q := by
  show er_WP K mi_B_countSelected 0 0 er_SH m 4 [some (.inr 2), some (.inl x1), some (.inl x2)] [] _
  refine er_iload_n rfl rfl d_B_countSelected_4 ?_
  refine er_bipush (by decide) d_B_countSelected_5 ?_
  obtain ⟨a1, h⟩ := h
  refine er_icmp_ge (tgt := 28) (by decide) a1 (by decide) d_B_countSelected_7 (fun c2 => ?_) (fun c2 => ?_)
  · have h := h.1 c2
    refine er_iload_n rfl rfl d_B_countSelected_28 ?_
    exact er_iretE rfl rfl d_B_countSelected_29 h
  · have h := h.2 c2
    refine er_aload_n rfl rfl d_B_countSelected_10 ?_
    refine er_getR fl_B_31 sh_2 (by decide) rfl (by decide) d_B_countSelected_11 ?_
    refine er_iload_n rfl rfl d_B_countSelected_14 ?_
    obtain ⟨a3, a4, h⟩ := h
    refine er_zald sh_5 (by decide) a3 a4 d_B_countSelected_15 ?_
    obtain ⟨a5, h⟩ := h
    refine er_if_eq (tgt := 22) (by decide) a5 d_B_countSelected_16 (fun c6 => ?_) (fun c6 => ?_)
    · have h := h.1 c6
      refine er_incE (ls2 := [some (.inr 2), some (.inl x1), some (.inl (x2 + 1))]) rfl (Nat.le_of_ble_eq_true rfl) rfl d_B_countSelected_22 ?_
      refine er_goto (tgt := 4) (by decide) d_B_countSelected_25 ?_
      exact er_forget [some (.inr 2), some (.inl x1), some (.inl (x2 + 1))] (And.intro rfl (And.intro rfl (And.intro rfl trivial))) h
    · have h := h.2 c6
      refine er_incE (ls2 := [some (.inr 2), some (.inl (x1 + 1)), some (.inl x2)]) rfl (Nat.le_of_ble_eq_true rfl) rfl d_B_countSelected_19 ?_
      refine er_incE (ls2 := [some (.inr 2), some (.inl (x1 + 1)), some (.inl (x2 + 1))]) rfl (Nat.le_of_ble_eq_true rfl) rfl d_B_countSelected_22 ?_
      refine er_goto (tgt := 4) (by decide) d_B_countSelected_25 ?_
      exact er_forget [some (.inr 2), some (.inl (x1 + 1)), some (.inl (x2 + 1))] (And.intro rfl (And.intro rfl (And.intro rfl trivial))) h
theorem vc_B_countSelected {K : er_K} {m : er_M} {Q : Int → er_M → Prop}  (h : wp_B_countSelected_4 K 0 0 m Q) : er_SI K mi_B_countSelected [.inr 2] m Q := by
  refine er_start (by decide) (Nat.le_of_ble_eq_true rfl) ?_
  show er_WP K mi_B_countSelected 0 0 er_SH m 0 [some (.inr 2), none, none] [] _
  refine er_iconst d_B_countSelected_0 ?_
  refine er_istE 1 rfl (Nat.le_of_ble_eq_true rfl) (ls2 := [some (.inr 2), some (.inl 0), none]) rfl d_B_countSelected_1 ?_
  refine er_iconst d_B_countSelected_2 ?_
  refine er_istE 2 rfl (Nat.le_of_ble_eq_true rfl) (ls2 := [some (.inr 2), some (.inl 0), some (.inl 0)]) rfl d_B_countSelected_3 ?_
  exact er_forget [some (.inr 2), some (.inl 0), some (.inl 0)] (And.intro rfl (And.intro rfl (And.intro rfl trivial))) h
theorem vc_G_add {K : er_K} {p1 : Int} {m : er_M} {Q : Int → er_M → Prop}  (h : (er_in (m 40 1)) ∧ ((((m 40 1) < 60 → (0 ≤ (m 40 1)) ∧ ((m 40 1) < 60) ∧ (∀ m5 : er_M, m5 = er_st m 41 (m 40 1) p1 → ∀ m6 : er_M, m6 = er_st m5 40 1 ((m5 40 1) + 1) → Q 1 m6)) ∧ (60 ≤ (m 40 1) → Q 0 m)))) : er_SI K mi_G_add [.inr 40, .inl p1] m Q := by
  refine er_start (by decide) (Nat.le_of_ble_eq_true rfl) ?_
  show er_WP K mi_G_add 0 0 er_SH m 0 [some (.inr 40), some (.inl p1)] [] _
  refine er_aload_n rfl rfl d_G_add_0 ?_
  refine er_getIE 1 rfl fl_G_15 sh_40 (by decide) rfl d_G_add_1 ?_
  refine er_bipush (by decide) d_G_add_4 ?_
  obtain ⟨a1, h⟩ := h
  refine er_icmp_lt (tgt := 11) (by decide) a1 (by decide) d_G_add_6 (fun c2 => ?_) (fun c2 => ?_)
  · have h := h.1 c2
    refine er_aload_n rfl rfl d_G_add_11 ?_
    refine er_getR fl_G_11 sh_40 (by decide) rfl (by decide) d_G_add_12 ?_
    refine er_aload_n rfl rfl d_G_add_15 ?_
    refine er_getIE 1 rfl fl_G_15 sh_40 (by decide) rfl d_G_add_16 ?_
    refine er_iload_n rfl rfl d_G_add_19 ?_
    obtain ⟨a3, a4, h⟩ := h
    refine er_iastE sh_41 (by decide) a3 a4 d_G_add_20 (fun m5 hm => ?_)
    have h := h m5 hm
    refine er_aload_n rfl rfl d_G_add_21 ?_
    refine er_dup d_G_add_22 ?_
    refine er_getIE 1 rfl fl_G_15 sh_40 (by decide) rfl d_G_add_23 ?_
    refine er_iconst d_G_add_26 ?_
    refine er_iadd d_G_add_27 ?_
    refine er_putIE 1 rfl fl_G_15 sh_40 (by decide) rfl d_G_add_28 (fun m6 hm => ?_)
    have h := h m6 hm
    refine er_iconst d_G_add_31 ?_
    exact er_zretE rfl (Or.inr rfl) rfl d_G_add_32 h
  · have h := h.2 c2
    refine er_iconst d_G_add_9 ?_
    exact er_zretE rfl (Or.inl rfl) rfl d_G_add_10 h
def wp_G_read_15 (K : er_K) (x1 : Int) (x2 : Int) (m : er_M) (Q : Int → er_M → Prop) : Prop := er_WP K mi_G_read 0 0 er_SH m 15 [some (.inr 40), some (.inl x1), some (.inl x2), none] [] (er_Z K mi_G_read (er_PI Q))
theorem vc_G_read_15 {K : er_K} {x1 : Int} {x2 : Int} {m : er_M} {Q : Int → er_M → Prop}  (h : (er_in x2) ∧ (er_in (m 40 1)) ∧ ((((m 40 1) ≤ x2 → (er_in (m 40 2)) ∧ ((((m 40 2) = 0 → Q (m 40 1) m) ∧ ((m 40 2) ≠ 0 → (er_in x1) ∧ (((x1 ≤ 0 → Q (-1) m) ∧ (0 < x1 → Q (m 40 1) m))))))) ∧ (x2 < (m 40 1) → (0 ≤ x2) ∧ (x2 < 60) ∧ ((er_in (m 41 x2)) ∧ ((((m 41 x2) ≠ 32 → er_SI K mi_G_isAllowed [.inr 40, .inl (m 41 x2), .inl x1] m (fun v13 m12 => (er_in v13) ∧ (((v13 ≠ 0 → (((m 41 x2) ≠ 59 → er_SI K mi_R_placeOf [.inl (m12 40 2), .inl x1] m12 (fun v18 m17 => er_SI K mi_G_kindOf [.inl (m 41 x2)] m17 (fun v20 m19 => (0 ≤ v18) ∧ (v18 < 36) ∧ (∀ m23 : er_M, m23 = er_st m19 42 v18 v20 → wp_G_read_15 K (x1 + 1) (x2 + 1) m23 Q)))) ∧ ((m 41 x2) = 59 → ∀ m24 : er_M, m24 = er_st m12 40 3 x1 → ∀ m25 : er_M, m25 = er_st m24 40 2 ((m24 40 2) + 1) → wp_G_read_15 K 0 (x2 + 1) m25 Q))) ∧ (v13 = 0 → Q x2 m12))))) ∧ ((m 41 x2) = 32 → wp_G_read_15 K x1 (x2 + 1) m Q)))))))) : wp_G_read_15 K x1 x2 m Q := by
  show er_WP K mi_G_read 0 0 er_SH m 15 [some (.inr 40), some (.inl x1), some (.inl x2), none] [] _
  refine er_iload_n rfl rfl d_G_read_15 ?_
  refine er_aload_n rfl rfl d_G_read_16 ?_
  refine er_getIE 1 rfl fl_G_15 sh_40 (by decide) rfl d_G_read_17 ?_
  obtain ⟨a1, a2, h⟩ := h
  refine er_icmp_ge (tgt := 102) (by decide) a1 a2 d_G_read_20 (fun c3 => ?_) (fun c3 => ?_)
  · have h := h.1 c3
    refine er_aload_n rfl rfl d_G_read_102 ?_
    refine er_getIE 2 rfl fl_G_19 sh_40 (by decide) rfl d_G_read_103 ?_
    obtain ⟨a4, h⟩ := h
    refine er_if_eq (tgt := 113) (by decide) a4 d_G_read_106 (fun c5 => ?_) (fun c5 => ?_)
    · have h := h.1 c5
      refine er_aload_n rfl rfl d_G_read_113 ?_
      refine er_getIE 1 rfl fl_G_15 sh_40 (by decide) rfl d_G_read_114 ?_
      refine er_goto (tgt := 121) (by decide) d_G_read_117 ?_
      exact er_iretE rfl rfl d_G_read_121 h
    · have h := h.2 c5
      refine er_iload_n rfl rfl d_G_read_109 ?_
      obtain ⟨a6, h⟩ := h
      refine er_if_le (tgt := 120) (by decide) a6 d_G_read_110 (fun c7 => ?_) (fun c7 => ?_)
      · have h := h.1 c7
        refine er_iconst d_G_read_120 ?_
        exact er_iretE rfl rfl d_G_read_121 h
      · have h := h.2 c7
        refine er_aload_n rfl rfl d_G_read_113 ?_
        refine er_getIE 1 rfl fl_G_15 sh_40 (by decide) rfl d_G_read_114 ?_
        refine er_goto (tgt := 121) (by decide) d_G_read_117 ?_
        exact er_iretE rfl rfl d_G_read_121 h
  · have h := h.2 c3
    refine er_aload_n rfl rfl d_G_read_23 ?_
    refine er_getR fl_G_11 sh_40 (by decide) rfl (by decide) d_G_read_24 ?_
    refine er_iload_n rfl rfl d_G_read_27 ?_
    obtain ⟨a8, a9, h⟩ := h
    refine er_iald sh_41 (by decide) a8 a9 d_G_read_28 ?_
    refine er_istE 3 rfl (Nat.le_of_ble_eq_true rfl) (ls2 := [some (.inr 40), some (.inl x1), some (.inl x2), some (.inl (m 41 x2))]) rfl d_G_read_29 ?_
    refine er_iload_n rfl rfl d_G_read_30 ?_
    refine er_bipush (by decide) d_G_read_31 ?_
    obtain ⟨a10, h⟩ := h
    refine er_icmp_ne (tgt := 39) (by decide) a10 (by decide) d_G_read_33 (fun c11 => ?_) (fun c11 => ?_)
    · have h := h.1 c11
      refine er_aload_n rfl rfl d_G_read_39 ?_
      refine er_iload_n rfl rfl d_G_read_40 ?_
      refine er_iload_n rfl rfl d_G_read_41 ?_
      refine er_cVI (As := [.inl (m 41 x2), .inl x1]) (st := []) ml_G_28 mw_G_isAllowed md_G_isAllowed ⟨rfl, rfl⟩ rfl (Nat.le_of_ble_eq_true rfl) sh_40 rfl ⟨(Nat.le_of_ble_eq_true rfl), (Nat.le_of_ble_eq_true rfl)⟩ rfl d_G_read_42 h (fun v13 m12 h => ?_)
      obtain ⟨a14, h⟩ := h
      refine er_if_ne (tgt := 50) (by decide) a14 d_G_read_45 (fun c15 => ?_) (fun c15 => ?_)
      · have h := h.1 c15
        refine er_iload_n rfl rfl d_G_read_50 ?_
        refine er_bipush (by decide) d_G_read_51 ?_
        refine er_icmp_ne (tgt := 76) (by decide) a10 (by decide) d_G_read_53 (fun c16 => ?_) (fun c16 => ?_)
        · have h := h.1 c16
          refine er_aload_n rfl rfl d_G_read_76 ?_
          refine er_getR fl_G_25 sh_40 (by decide) rfl (by decide) d_G_read_77 ?_
          refine er_aload_n rfl rfl d_G_read_80 ?_
          refine er_getIE 2 rfl fl_G_19 sh_40 (by decide) rfl d_G_read_81 ?_
          refine er_iload_n rfl rfl d_G_read_84 ?_
          refine er_cN (As := [.inl (m12 40 2), .inl x1]) (st := [.inr 42]) ml_G_32 mw_R_placeOf md_R_placeOf ⟨rfl, rfl⟩ rfl (Nat.le_of_ble_eq_true rfl) ⟨(Nat.le_of_ble_eq_true rfl), (Nat.le_of_ble_eq_true rfl)⟩ rfl d_G_read_85 h (fun v18 m17 h => ?_)
          refine er_iload_n rfl rfl d_G_read_88 ?_
          refine er_cS (As := [.inl (m 41 x2)]) (st := [.inl v18, .inr 42]) ml_G_36 rfl mw_G_kindOf md_G_kindOf ⟨rfl, rfl⟩ rfl (Nat.le_of_ble_eq_true rfl) ⟨(Nat.le_of_ble_eq_true rfl), (Nat.le_of_ble_eq_true rfl)⟩ rfl d_G_read_89 h (fun v20 m19 h => ?_)
          obtain ⟨a21, a22, h⟩ := h
          refine er_iastE sh_42 (by decide) a21 a22 d_G_read_92 (fun m23 hm => ?_)
          have h := h m23 hm
          refine er_incE (ls2 := [some (.inr 40), some (.inl (x1 + 1)), some (.inl x2), some (.inl (m 41 x2))]) rfl (Nat.le_of_ble_eq_true rfl) rfl d_G_read_93 ?_
          refine er_incE (ls2 := [some (.inr 40), some (.inl (x1 + 1)), some (.inl (x2 + 1)), some (.inl (m 41 x2))]) rfl (Nat.le_of_ble_eq_true rfl) rfl d_G_read_96 ?_
          refine er_goto (tgt := 15) (by decide) d_G_read_99 ?_
          exact er_forget [some (.inr 40), some (.inl (x1 + 1)), some (.inl (x2 + 1)), none] (And.intro rfl (And.intro rfl (And.intro rfl trivial))) h
        · have h := h.2 c16
          refine er_aload_n rfl rfl d_G_read_56 ?_
          refine er_iload_n rfl rfl d_G_read_57 ?_
          refine er_putIE 3 rfl fl_G_22 sh_40 (by decide) rfl d_G_read_58 (fun m24 hm => ?_)
          have h := h m24 hm
          refine er_aload_n rfl rfl d_G_read_61 ?_
          refine er_dup d_G_read_62 ?_
          refine er_getIE 2 rfl fl_G_19 sh_40 (by decide) rfl d_G_read_63 ?_
          refine er_iconst d_G_read_66 ?_
          refine er_iadd d_G_read_67 ?_
          refine er_putIE 2 rfl fl_G_19 sh_40 (by decide) rfl d_G_read_68 (fun m25 hm => ?_)
          have h := h m25 hm
          refine er_iconst d_G_read_71 ?_
          refine er_istE 1 rfl (Nat.le_of_ble_eq_true rfl) (ls2 := [some (.inr 40), some (.inl 0), some (.inl x2), some (.inl (m 41 x2))]) rfl d_G_read_72 ?_
          refine er_goto (tgt := 96) (by decide) d_G_read_73 ?_
          refine er_incE (ls2 := [some (.inr 40), some (.inl 0), some (.inl (x2 + 1)), some (.inl (m 41 x2))]) rfl (Nat.le_of_ble_eq_true rfl) rfl d_G_read_96 ?_
          refine er_goto (tgt := 15) (by decide) d_G_read_99 ?_
          exact er_forget [some (.inr 40), some (.inl 0), some (.inl (x2 + 1)), none] (And.intro rfl (And.intro rfl (And.intro rfl trivial))) h
      · have h := h.2 c15
        refine er_iload_n rfl rfl d_G_read_48 ?_
        exact er_iretE rfl rfl d_G_read_49 h
    · have h := h.2 c11
      refine er_goto (tgt := 96) (by decide) d_G_read_36 ?_
      refine er_incE (ls2 := [some (.inr 40), some (.inl x1), some (.inl (x2 + 1)), some (.inl (m 41 x2))]) rfl (Nat.le_of_ble_eq_true rfl) rfl d_G_read_96 ?_
      refine er_goto (tgt := 15) (by decide) d_G_read_99 ?_
      exact er_forget [some (.inr 40), some (.inl x1), some (.inl (x2 + 1)), none] (And.intro rfl (And.intro rfl (And.intro rfl trivial))) h
theorem vc_G_read {K : er_K} {m : er_M} {Q : Int → er_M → Prop}  (h : ∀ m1 : er_M, m1 = er_st m 40 2 0 → ∀ m2 : er_M, m2 = er_st m1 40 3 6 → wp_G_read_15 K 0 0 m2 Q) : er_SI K mi_G_read [.inr 40] m Q := by
  refine er_start (by decide) (Nat.le_of_ble_eq_true rfl) ?_
  show er_WP K mi_G_read 0 0 er_SH m 0 [some (.inr 40), none, none, none] [] _
  refine er_aload_n rfl rfl d_G_read_0 ?_
  refine er_iconst d_G_read_1 ?_
  refine er_putIE 2 rfl fl_G_19 sh_40 (by decide) rfl d_G_read_2 (fun m1 hm => ?_)
  have h := h m1 hm
  refine er_aload_n rfl rfl d_G_read_5 ?_
  refine er_bipush (by decide) d_G_read_6 ?_
  refine er_putIE 3 rfl fl_G_22 sh_40 (by decide) rfl d_G_read_8 (fun m2 hm => ?_)
  have h := h m2 hm
  refine er_iconst d_G_read_11 ?_
  refine er_istE 1 rfl (Nat.le_of_ble_eq_true rfl) (ls2 := [some (.inr 40), some (.inl 0), none, none]) rfl d_G_read_12 ?_
  refine er_iconst d_G_read_13 ?_
  refine er_istE 2 rfl (Nat.le_of_ble_eq_true rfl) (ls2 := [some (.inr 40), some (.inl 0), some (.inl 0), none]) rfl d_G_read_14 ?_
  exact er_forget [some (.inr 40), some (.inl 0), some (.inl 0), none] (And.intro rfl (And.intro rfl (And.intro rfl trivial))) h
theorem vc_G_isAllowed {K : er_K} {p1 p2 : Int} {m : er_M} {Q : Int → er_M → Prop}  (h : (er_in (m 40 2)) ∧ ((((m 40 2) < 6 → (er_in p1) ∧ (((p1 ≠ 59 → er_SI K mi_G_kindOf [.inl p1] m (fun v6 m5 => (er_in v6) ∧ (((v6 = (-1) → Q 0 m5) ∧ (v6 ≠ (-1) → (er_in p2) ∧ (er_in (m5 40 3)) ∧ ((((m5 40 3) ≤ p2 → Q 0 m5) ∧ (p2 < (m5 40 3) → Q 1 m5)))))))) ∧ (p1 = 59 → (((m 40 2) ≠ 0 → (er_in p2) ∧ (er_in (m 40 3)) ∧ (((p2 ≠ (m 40 3) → Q 0 m) ∧ (p2 = (m 40 3) → Q 1 m)))) ∧ ((m 40 2) = 0 → (er_in p2) ∧ (((p2 ≤ 0 → Q 0 m) ∧ (0 < p2 → Q 1 m))))))))) ∧ (6 ≤ (m 40 2) → Q 0 m)))) : er_SI K mi_G_isAllowed [.inr 40, .inl p1, .inl p2] m Q := by
  refine er_start (by decide) (Nat.le_of_ble_eq_true rfl) ?_
  show er_WP K mi_G_isAllowed 0 0 er_SH m 0 [some (.inr 40), some (.inl p1), some (.inl p2)] [] _
  refine er_aload_n rfl rfl d_G_isAllowed_0 ?_
  refine er_getIE 2 rfl fl_G_19 sh_40 (by decide) rfl d_G_isAllowed_1 ?_
  refine er_bipush (by decide) d_G_isAllowed_4 ?_
  obtain ⟨a1, h⟩ := h
  refine er_icmp_lt (tgt := 11) (by decide) a1 (by decide) d_G_isAllowed_6 (fun c2 => ?_) (fun c2 => ?_)
  · have h := h.1 c2
    refine er_iload_n rfl rfl d_G_isAllowed_11 ?_
    refine er_bipush (by decide) d_G_isAllowed_12 ?_
    obtain ⟨a3, h⟩ := h
    refine er_icmp_ne (tgt := 50) (by decide) a3 (by decide) d_G_isAllowed_14 (fun c4 => ?_) (fun c4 => ?_)
    · have h := h.1 c4
      refine er_iload_n rfl rfl d_G_isAllowed_50 ?_
      refine er_cS (As := [.inl p1]) (st := []) ml_G_36 rfl mw_G_kindOf md_G_kindOf ⟨rfl, rfl⟩ rfl (Nat.le_of_ble_eq_true rfl) ⟨(Nat.le_of_ble_eq_true rfl), (Nat.le_of_ble_eq_true rfl)⟩ rfl d_G_isAllowed_51 h (fun v6 m5 h => ?_)
      refine er_iconst d_G_isAllowed_54 ?_
      obtain ⟨a7, h⟩ := h
      refine er_icmp_eq (tgt := 70) (by decide) a7 (by decide) d_G_isAllowed_55 (fun c8 => ?_) (fun c8 => ?_)
      · have h := h.1 c8
        refine er_iconst d_G_isAllowed_70 ?_
        exact er_zretE rfl (Or.inl rfl) rfl d_G_isAllowed_71 h
      · have h := h.2 c8
        refine er_iload_n rfl rfl d_G_isAllowed_58 ?_
        refine er_aload_n rfl rfl d_G_isAllowed_59 ?_
        refine er_getIE 3 rfl fl_G_22 sh_40 (by decide) rfl d_G_isAllowed_60 ?_
        obtain ⟨a9, a10, h⟩ := h
        refine er_icmp_ge (tgt := 70) (by decide) a9 a10 d_G_isAllowed_63 (fun c11 => ?_) (fun c11 => ?_)
        · have h := h.1 c11
          refine er_iconst d_G_isAllowed_70 ?_
          exact er_zretE rfl (Or.inl rfl) rfl d_G_isAllowed_71 h
        · have h := h.2 c11
          refine er_iconst d_G_isAllowed_66 ?_
          refine er_goto (tgt := 71) (by decide) d_G_isAllowed_67 ?_
          exact er_zretE rfl (Or.inr rfl) rfl d_G_isAllowed_71 h
    · have h := h.2 c4
      refine er_aload_n rfl rfl d_G_isAllowed_17 ?_
      refine er_getIE 2 rfl fl_G_19 sh_40 (by decide) rfl d_G_isAllowed_18 ?_
      refine er_if_ne (tgt := 36) (by decide) a1 d_G_isAllowed_21 (fun c12 => ?_) (fun c12 => ?_)
      · have h := h.1 c12
        refine er_iload_n rfl rfl d_G_isAllowed_36 ?_
        refine er_aload_n rfl rfl d_G_isAllowed_37 ?_
        refine er_getIE 3 rfl fl_G_22 sh_40 (by decide) rfl d_G_isAllowed_38 ?_
        obtain ⟨a13, a14, h⟩ := h
        refine er_icmp_ne (tgt := 48) (by decide) a13 a14 d_G_isAllowed_41 (fun c15 => ?_) (fun c15 => ?_)
        · have h := h.1 c15
          refine er_iconst d_G_isAllowed_48 ?_
          exact er_zretE rfl (Or.inl rfl) rfl d_G_isAllowed_49 h
        · have h := h.2 c15
          refine er_iconst d_G_isAllowed_44 ?_
          refine er_goto (tgt := 49) (by decide) d_G_isAllowed_45 ?_
          exact er_zretE rfl (Or.inr rfl) rfl d_G_isAllowed_49 h
      · have h := h.2 c12
        refine er_iload_n rfl rfl d_G_isAllowed_24 ?_
        obtain ⟨a16, h⟩ := h
        refine er_if_le (tgt := 32) (by decide) a16 d_G_isAllowed_25 (fun c17 => ?_) (fun c17 => ?_)
        · have h := h.1 c17
          refine er_iconst d_G_isAllowed_32 ?_
          refine er_goto (tgt := 49) (by decide) d_G_isAllowed_33 ?_
          exact er_zretE rfl (Or.inl rfl) rfl d_G_isAllowed_49 h
        · have h := h.2 c17
          refine er_iconst d_G_isAllowed_28 ?_
          refine er_goto (tgt := 49) (by decide) d_G_isAllowed_29 ?_
          exact er_zretE rfl (Or.inr rfl) rfl d_G_isAllowed_49 h
  · have h := h.2 c2
    refine er_iconst d_G_isAllowed_9 ?_
    exact er_zretE rfl (Or.inl rfl) rfl d_G_isAllowed_10 h
theorem vc_G_kindOf {K : er_K} {p0 : Int} {m : er_M} {Q : Int → er_M → Prop}  (h : (er_in p0) ∧ (((p0 = 46 → Q 0 m) ∧ (p0 = 112 → Q 2 m) ∧ (p0 = 115 → Q 1 m) ∧ (p0 ≠ 46 ∧ p0 ≠ 112 ∧ p0 ≠ 115 → Q (-1) m)))) : er_SI K mi_G_kindOf [.inl p0] m Q := by
  refine er_start (by decide) (Nat.le_of_ble_eq_true rfl) ?_
  show er_WP K mi_G_kindOf 0 0 er_SH m 0 [some (.inl p0)] [] _
  refine er_iload_n rfl rfl d_G_kindOf_0 ?_
  obtain ⟨a1, h⟩ := h
  rcases (by omega : p0 = 46 ∨ p0 = 112 ∨ p0 = 115 ∨ (p0 ≠ 46 ∧ p0 ≠ 112 ∧ p0 ≠ 115)) with c2 | c2 | c2 | c2
  · have h := h.1 c2
    refine er_look (tgt := 40) a1 (by decide) (off := 39) (by rw [c2]; decide) (by decide) d_G_kindOf_1 ?_
    refine er_iconst d_G_kindOf_40 ?_
    exact er_iretE rfl rfl d_G_kindOf_41 h
  · have h := h.2.1 c2
    refine er_look (tgt := 38) a1 (by decide) (off := 37) (by rw [c2]; decide) (by decide) d_G_kindOf_1 ?_
    refine er_iconst d_G_kindOf_38 ?_
    exact er_iretE rfl rfl d_G_kindOf_39 h
  · have h := h.2.2.1 c2
    refine er_look (tgt := 36) a1 (by decide) (off := 35) (by rw [c2]; decide) (by decide) d_G_kindOf_1 ?_
    refine er_iconst d_G_kindOf_36 ?_
    exact er_iretE rfl rfl d_G_kindOf_37 h
  · have h := h.2.2.2 c2
    refine er_look (tgt := 42) a1 (by decide) (off := 41) (by simp [Op.lookupswitch.offset, c2.1, c2.2.1, c2.2.2, Ne.symm c2.1, Ne.symm c2.2.1, Ne.symm c2.2.2]) (by decide) d_G_kindOf_1 ?_
    refine er_iconst d_G_kindOf_42 ?_
    exact er_iretE rfl rfl d_G_kindOf_43 h
def wp_H_keep_13 (K : er_K) (m : er_M) (Q : er_M → Prop) : Prop := er_WP K mi_H_keep 0 0 er_SH m 13 [some (.inr 6), some (.inr 2)] [] (er_Z K mi_H_keep (er_PV Q))
theorem vc_H_keep_13 {K : er_K} {m : er_M} {Q : er_M → Prop}  (h : (0 ≤ (m 6 1)) ∧ ((m 6 1) < 8) ∧ (∃ w3 : Nat, m 7 (m 6 1) = (w3 : Int) ∧ er_isB w3 ∧ (er_SV K mi_B_copyFrom [.inr w3, .inr 2] m (fun m6 => ∀ m7 : er_M, m7 = er_st m6 6 1 ((m6 6 1) + 1) → Q m7)))) : wp_H_keep_13 K m Q := by
  show er_WP K mi_H_keep 0 0 er_SH m 13 [some (.inr 6), some (.inr 2)] [] _
  refine er_aload_n rfl rfl d_H_keep_13 ?_
  refine er_getR fl_H_11 sh_6 (by decide) rfl (by decide) d_H_keep_14 ?_
  refine er_aload_n rfl rfl d_H_keep_17 ?_
  refine er_getIE 1 rfl fl_H_16 sh_6 (by decide) rfl d_H_keep_18 ?_
  obtain ⟨a1, a2, h⟩ := h
  obtain ⟨w3, e4, k5, h⟩ := h
  refine er_aald sh_7 (by decide) (by decide) a1 a2 e4 (shB_ne k5) d_H_keep_21 ?_
  refine er_aload_n rfl rfl d_H_keep_22 ?_
  refine er_cVV (As := [.inr 2]) (st := []) ml_H_23 mw_B_copyFrom md_B_copyFrom ⟨rfl, rfl⟩ rfl (Nat.le_of_ble_eq_true rfl) (shB_0 k5) rfl ⟨(Nat.le_of_ble_eq_true rfl), (Nat.le_of_ble_eq_true rfl)⟩ rfl d_H_keep_23 h (fun m6 h => ?_)
  refine er_aload_n rfl rfl d_H_keep_26 ?_
  refine er_dup d_H_keep_27 ?_
  refine er_getIE 1 rfl fl_H_16 sh_6 (by decide) rfl d_H_keep_28 ?_
  refine er_iconst d_H_keep_31 ?_
  refine er_iadd d_H_keep_32 ?_
  refine er_putIE 1 rfl fl_H_16 sh_6 (by decide) rfl d_H_keep_33 (fun m7 hm => ?_)
  have h := h m7 hm
  exact er_vretE rfl rfl d_H_keep_36 h
theorem vc_H_keep {K : er_K} {m : er_M} {Q : er_M → Prop}  (h : (er_in (m 6 1)) ∧ ((((m 6 1) ≠ 8 → wp_H_keep_13 K m Q) ∧ ((m 6 1) = 8 → er_SV K mi_H_dropOldest [.inr 6] m (fun m3 => wp_H_keep_13 K m3 Q))))) : er_SV K mi_H_keep [.inr 6, .inr 2] m Q := by
  refine er_start (by decide) (Nat.le_of_ble_eq_true rfl) ?_
  show er_WP K mi_H_keep 0 0 er_SH m 0 [some (.inr 6), some (.inr 2)] [] _
  refine er_aload_n rfl rfl d_H_keep_0 ?_
  refine er_getIE 1 rfl fl_H_16 sh_6 (by decide) rfl d_H_keep_1 ?_
  refine er_bipush (by decide) d_H_keep_4 ?_
  obtain ⟨a1, h⟩ := h
  refine er_icmp_ne (tgt := 13) (by decide) a1 (by decide) d_H_keep_6 (fun c2 => ?_) (fun c2 => ?_)
  · have h := h.1 c2
    exact er_forget [some (.inr 6), some (.inr 2)] (And.intro rfl (And.intro rfl trivial)) h
  · have h := h.2 c2
    refine er_aload_n rfl rfl d_H_keep_9 ?_
    refine er_cVV (As := []) (st := []) ml_H_20 mw_H_dropOldest md_H_dropOldest ⟨rfl, rfl⟩ rfl (Nat.le_of_ble_eq_true rfl) sh_6 rfl ⟨(Nat.le_of_ble_eq_true rfl), (Nat.le_of_ble_eq_true rfl)⟩ rfl d_H_keep_10 h (fun m3 h => ?_)
    exact er_forget [some (.inr 6), some (.inr 2)] (And.intro rfl (And.intro rfl trivial)) h
def wp_H_dropOldest_9 (K : er_K) (r1 : Nat) (x2 : Int) (m : er_M) (Q : er_M → Prop) : Prop := er_WP K mi_H_dropOldest 0 0 er_SH m 9 [some (.inr 6), some (.inr r1), some (.inl x2)] [] (er_Z K mi_H_dropOldest (er_PV Q))
theorem vc_H_dropOldest_9 {K : er_K} {r1 : Nat} {x2 : Int} {m : er_M} {Q : er_M → Prop}  (hr1 : er_isB r1) (h : (er_in x2) ∧ (((8 ≤ x2 → ∀ m3 : er_M, m3 = er_st m 7 7 (r1 : Nat) → ∀ m4 : er_M, m4 = er_st m3 6 1 7 → Q m4) ∧ (x2 < 8 → (0 ≤ x2) ∧ (x2 < 8) ∧ (∃ w7 : Nat, m 7 x2 = (w7 : Int) ∧ er_isB w7 ∧ ((0 ≤ (x2 - 1)) ∧ ((x2 - 1) < 8) ∧ (∀ m12 : er_M, m12 = er_st m 7 (x2 - 1) (w7 : Nat) → wp_H_dropOldest_9 K r1 (x2 + 1) m12 Q))))))) : wp_H_dropOldest_9 K r1 x2 m Q := by
  show er_WP K mi_H_dropOldest 0 0 er_SH m 9 [some (.inr 6), some (.inr r1), some (.inl x2)] [] _
  refine er_iload_n rfl rfl d_H_dropOldest_9 ?_
  refine er_bipush (by decide) d_H_dropOldest_10 ?_
  obtain ⟨a1, h⟩ := h
  refine er_icmp_ge (tgt := 35) (by decide) a1 (by decide) d_H_dropOldest_12 (fun c2 => ?_) (fun c2 => ?_)
  · have h := h.1 c2
    refine er_aload_n rfl rfl d_H_dropOldest_35 ?_
    refine er_getR fl_H_11 sh_6 (by decide) rfl (by decide) d_H_dropOldest_36 ?_
    refine er_bipush (by decide) d_H_dropOldest_39 ?_
    refine er_aload_n rfl rfl d_H_dropOldest_41 ?_
    refine er_aastE sh_7 (Or.inl ⟨rfl, rfl⟩) (by decide) (by decide) (by decide) (shB_0 hr1) d_H_dropOldest_42 (fun m3 hm => ?_)
    have h := h m3 hm
    refine er_aload_n rfl rfl d_H_dropOldest_43 ?_
    refine er_bipush (by decide) d_H_dropOldest_44 ?_
    refine er_putIE 1 rfl fl_H_16 sh_6 (by decide) rfl d_H_dropOldest_46 (fun m4 hm => ?_)
    have h := h m4 hm
    exact er_vretE rfl rfl d_H_dropOldest_49 h
  · have h := h.2 c2
    refine er_aload_n rfl rfl d_H_dropOldest_15 ?_
    refine er_getR fl_H_11 sh_6 (by decide) rfl (by decide) d_H_dropOldest_16 ?_
    refine er_iload_n rfl rfl d_H_dropOldest_19 ?_
    refine er_iconst d_H_dropOldest_20 ?_
    refine er_isub d_H_dropOldest_21 ?_
    refine er_aload_n rfl rfl d_H_dropOldest_22 ?_
    refine er_getR fl_H_11 sh_6 (by decide) rfl (by decide) d_H_dropOldest_23 ?_
    refine er_iload_n rfl rfl d_H_dropOldest_26 ?_
    obtain ⟨a5, a6, h⟩ := h
    obtain ⟨w7, e8, k9, h⟩ := h
    refine er_aald sh_7 (by decide) (by decide) a5 a6 e8 (shB_ne k9) d_H_dropOldest_27 ?_
    obtain ⟨a10, a11, h⟩ := h
    refine er_aastE sh_7 (Or.inl ⟨rfl, rfl⟩) (by decide) a10 a11 (shB_0 k9) d_H_dropOldest_28 (fun m12 hm => ?_)
    have h := h m12 hm
    refine er_incE (ls2 := [some (.inr 6), some (.inr r1), some (.inl (x2 + 1))]) rfl (Nat.le_of_ble_eq_true rfl) rfl d_H_dropOldest_29 ?_
    refine er_goto (tgt := 9) (by decide) d_H_dropOldest_32 ?_
    exact er_forget [some (.inr 6), some (.inr r1), some (.inl (x2 + 1))] (And.intro rfl (And.intro rfl (And.intro rfl trivial))) h
theorem vc_H_dropOldest {K : er_K} {m : er_M} {Q : er_M → Prop}  (h : ∃ w1 : Nat, m 7 0 = (w1 : Int) ∧ er_isB w1 ∧ (wp_H_dropOldest_9 K w1 1 m Q)) : er_SV K mi_H_dropOldest [.inr 6] m Q := by
  refine er_start (by decide) (Nat.le_of_ble_eq_true rfl) ?_
  show er_WP K mi_H_dropOldest 0 0 er_SH m 0 [some (.inr 6), none, none] [] _
  refine er_aload_n rfl rfl d_H_dropOldest_0 ?_
  refine er_getR fl_H_11 sh_6 (by decide) rfl (by decide) d_H_dropOldest_1 ?_
  refine er_iconst d_H_dropOldest_4 ?_
  obtain ⟨w1, e2, k3, h⟩ := h
  refine er_aald sh_7 (by decide) (by decide) (by decide) (by decide) e2 (shB_ne k3) d_H_dropOldest_5 ?_
  refine er_astE 1 rfl (Nat.le_of_ble_eq_true rfl) (ls2 := [some (.inr 6), some (.inr w1), none]) rfl d_H_dropOldest_6 ?_
  refine er_iconst d_H_dropOldest_7 ?_
  refine er_istE 2 rfl (Nat.le_of_ble_eq_true rfl) (ls2 := [some (.inr 6), some (.inr w1), some (.inl 1)]) rfl d_H_dropOldest_8 ?_
  exact er_forget [some (.inr 6), some (.inr w1), some (.inl 1)] (And.intro rfl (And.intro rfl (And.intro rfl trivial))) h
theorem vc_H_giveBack {K : er_K} {m : er_M} {Q : er_M → Prop}  (h : (er_in (m 6 1)) ∧ ((((m 6 1) ≤ 0 → Q m) ∧ (0 < (m 6 1) → ∀ m3 : er_M, m3 = er_st m 6 1 ((m 6 1) - 1) → (0 ≤ (m3 6 1)) ∧ ((m3 6 1) < 8) ∧ (∃ w6 : Nat, m3 7 (m3 6 1) = (w6 : Int) ∧ er_isB w6 ∧ (er_SV K mi_B_copyFrom [.inr 2, .inr w6] m3 (fun m9 => Q m9))))))) : er_SV K mi_H_giveBack [.inr 6, .inr 2] m Q := by
  refine er_start (by decide) (Nat.le_of_ble_eq_true rfl) ?_
  show er_WP K mi_H_giveBack 0 0 er_SH m 0 [some (.inr 6), some (.inr 2)] [] _
  refine er_aload_n rfl rfl d_H_giveBack_0 ?_
  refine er_getIE 1 rfl fl_H_16 sh_6 (by decide) rfl d_H_giveBack_1 ?_
  obtain ⟨a1, h⟩ := h
  refine er_if_le (tgt := 30) (by decide) a1 d_H_giveBack_4 (fun c2 => ?_) (fun c2 => ?_)
  · have h := h.1 c2
    exact er_vretE rfl rfl d_H_giveBack_30 h
  · have h := h.2 c2
    refine er_aload_n rfl rfl d_H_giveBack_7 ?_
    refine er_dup d_H_giveBack_8 ?_
    refine er_getIE 1 rfl fl_H_16 sh_6 (by decide) rfl d_H_giveBack_9 ?_
    refine er_iconst d_H_giveBack_12 ?_
    refine er_isub d_H_giveBack_13 ?_
    refine er_putIE 1 rfl fl_H_16 sh_6 (by decide) rfl d_H_giveBack_14 (fun m3 hm => ?_)
    have h := h m3 hm
    refine er_aload_n rfl rfl d_H_giveBack_17 ?_
    refine er_aload_n rfl rfl d_H_giveBack_18 ?_
    refine er_getR fl_H_11 sh_6 (by decide) rfl (by decide) d_H_giveBack_19 ?_
    refine er_aload_n rfl rfl d_H_giveBack_22 ?_
    refine er_getIE 1 rfl fl_H_16 sh_6 (by decide) rfl d_H_giveBack_23 ?_
    obtain ⟨a4, a5, h⟩ := h
    obtain ⟨w6, e7, k8, h⟩ := h
    refine er_aald sh_7 (by decide) (by decide) a4 a5 e7 (shB_ne k8) d_H_giveBack_26 ?_
    refine er_cVV (As := [.inr w6]) (st := []) ml_H_23 mw_B_copyFrom md_B_copyFrom ⟨rfl, rfl⟩ rfl (Nat.le_of_ble_eq_true rfl) sh_2 rfl ⟨(Nat.le_of_ble_eq_true rfl), (Nat.le_of_ble_eq_true rfl)⟩ rfl d_H_giveBack_27 h (fun m9 h => ?_)
    exact er_vretE rfl rfl d_H_giveBack_30 h
