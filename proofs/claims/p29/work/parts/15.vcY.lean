/-! conditions of the walks: printed by wip/whole/gen13.py -/
def wp_Y_countOn_4 (K : er_K) (y : Nat) (x1 : Int) (x2 : Int) (x3 : Int) (m : er_M) (Q : Int → er_M → Prop) : Prop := er_WP K mi_Y_countOn 0 0 er_SH m 4 [some (.inr y), some (.inl x1), some (.inl x2), some (.inl x3)] [] (er_Z K mi_Y_countOn (er_PI Q))
theorem vc_Y_countOn_4 {K : er_K} {y : Nat} {x1 : Int} {x2 : Int} {x3 : Int} {m : er_M} {Q : Int → er_M → Prop} (hy : er_isY y) (h : (er_in x3) ∧ (((36 ≤ x3 → Q x2 m) ∧ (x3 < 36 → (0 ≤ x3) ∧ (x3 < 36) ∧ ((er_in (m (y + 4) x3)) ∧ (er_in x1) ∧ ((((m (y + 4) x3) ≠ x1 → wp_Y_countOn_4 K y x1 x2 (x3 + 1) m Q) ∧ ((m (y + 4) x3) = x1 → wp_Y_countOn_4 K y x1 (x2 + 1) (x3 + 1) m Q)))))))) : wp_Y_countOn_4 K y x1 x2 x3 m Q := by
  show er_WP K mi_Y_countOn 0 0 er_SH m 4 [some (.inr y), some (.inl x1), some (.inl x2), some (.inl x3)] [] _
  refine er_iload_n rfl rfl d_Y_countOn_4 ?_
  refine er_bipush (by decide) d_Y_countOn_5 ?_
  obtain ⟨a1, h⟩ := h
  refine er_icmp_ge (tgt := 29) (by decide) a1 (by decide) d_Y_countOn_7 (fun c2 => ?_) (fun c2 => ?_)
  · have h := h.1 c2
    refine er_iload_n rfl rfl d_Y_countOn_29 ?_
    exact er_iretE rfl rfl d_Y_countOn_30 h
  · have h := h.2 c2
    refine er_aload_n rfl rfl d_Y_countOn_10 ?_
    refine er_getR fl_Y_29 (shY_0 hy) (by decide) rfl (Nat.succ_ne_zero _) d_Y_countOn_11 ?_
    refine er_iload_n rfl rfl d_Y_countOn_14 ?_
    obtain ⟨a3, a4, h⟩ := h
    refine er_iald (shY_4 hy) (by decide) a3 a4 d_Y_countOn_15 ?_
    refine er_iload_n rfl rfl d_Y_countOn_16 ?_
    obtain ⟨a5, a6, h⟩ := h
    refine er_icmp_ne (tgt := 23) (by decide) a5 a6 d_Y_countOn_17 (fun c7 => ?_) (fun c7 => ?_)
    · have h := h.1 c7
      refine er_incE (ls2 := [some (.inr y), some (.inl x1), some (.inl x2), some (.inl (x3 + 1))]) rfl (Nat.le_of_ble_eq_true rfl) rfl d_Y_countOn_23 ?_
      refine er_goto (tgt := 4) (by decide) d_Y_countOn_26 ?_
      exact er_forget [some (.inr y), some (.inl x1), some (.inl x2), some (.inl (x3 + 1))] (And.intro rfl (And.intro rfl (And.intro rfl (And.intro rfl trivial)))) h
    · have h := h.2 c7
      refine er_incE (ls2 := [some (.inr y), some (.inl x1), some (.inl (x2 + 1)), some (.inl x3)]) rfl (Nat.le_of_ble_eq_true rfl) rfl d_Y_countOn_20 ?_
      refine er_incE (ls2 := [some (.inr y), some (.inl x1), some (.inl (x2 + 1)), some (.inl (x3 + 1))]) rfl (Nat.le_of_ble_eq_true rfl) rfl d_Y_countOn_23 ?_
      refine er_goto (tgt := 4) (by decide) d_Y_countOn_26 ?_
      exact er_forget [some (.inr y), some (.inl x1), some (.inl (x2 + 1)), some (.inl (x3 + 1))] (And.intro rfl (And.intro rfl (And.intro rfl (And.intro rfl trivial)))) h
theorem vc_Y_countOn {K : er_K} {y : Nat} {p1 : Int} {m : er_M} {Q : Int → er_M → Prop} (hy : er_isY y) (h : wp_Y_countOn_4 K y p1 0 0 m Q) : er_SI K mi_Y_countOn [.inr y, .inl p1] m Q := by
  refine er_start (by decide) (Nat.le_of_ble_eq_true rfl) ?_
  show er_WP K mi_Y_countOn 0 0 er_SH m 0 [some (.inr y), some (.inl p1), none, none] [] _
  refine er_iconst d_Y_countOn_0 ?_
  refine er_istE 2 rfl (Nat.le_of_ble_eq_true rfl) (ls2 := [some (.inr y), some (.inl p1), some (.inl 0), none]) rfl d_Y_countOn_1 ?_
  refine er_iconst d_Y_countOn_2 ?_
  refine er_istE 3 rfl (Nat.le_of_ble_eq_true rfl) (ls2 := [some (.inr y), some (.inl p1), some (.inl 0), some (.inl 0)]) rfl d_Y_countOn_3 ?_
  exact er_forget [some (.inr y), some (.inl p1), some (.inl 0), some (.inl 0)] (And.intro rfl (And.intro rfl (And.intro rfl (And.intro rfl trivial)))) h
def wp_Y_refresh_16 (K : er_K) (y : Nat) (x3 : Int) (m : er_M) (Q : Nat → er_M → Prop) : Prop := er_WP K mi_Y_refresh 0 0 er_SH m 16 [some (.inr y), some (.inr 2), some (.inr 52), some (.inl x3), none, none] [] (er_Z K mi_Y_refresh (er_PR Q))
def wp_Y_refresh_55 (K : er_K) (y : Nat) (x3 : Int) (x4 : Int) (m : er_M) (Q : Nat → er_M → Prop) : Prop := er_WP K mi_Y_refresh 0 0 er_SH m 55 [some (.inr y), some (.inr 2), some (.inr 52), some (.inl x3), some (.inl x4), none] [] (er_Z K mi_Y_refresh (er_PR Q))
def wp_Y_refresh_101 (K : er_K) (y : Nat) (x3 : Int) (m : er_M) (Q : Nat → er_M → Prop) : Prop := er_WP K mi_Y_refresh 0 0 er_SH m 101 [some (.inr y), none, none, some (.inl x3), none, none] [] (er_Z K mi_Y_refresh (er_PR Q))
theorem vc_Y_refresh_16 {K : er_K} {y : Nat} {x3 : Int} {m : er_M} {Q : Nat → er_M → Prop} (hy : er_isY y) (h : (er_in x3) ∧ (((36 ≤ x3 → ∀ m3 : er_M, m3 = er_st m y 6 0 → er_SI K mi_B_countSignals [.inr 2] m3 (fun v5 m4 => wp_Y_refresh_55 K y v5 1 m4 Q)) ∧ (x3 < 36 → (0 ≤ x3) ∧ (x3 < 36) ∧ (∀ m8 : er_M, m8 = er_st m (y + 4) x3 0 → ∀ m9 : er_M, m9 = er_st m8 (y + 2) x3 0 → wp_Y_refresh_16 K y (x3 + 1) m9 Q))))) : wp_Y_refresh_16 K y x3 m Q := by
  show er_WP K mi_Y_refresh 0 0 er_SH m 16 [some (.inr y), some (.inr 2), some (.inr 52), some (.inl x3), none, none] [] _
  refine er_iload_n rfl rfl d_Y_refresh_16 ?_
  refine er_bipush (by decide) d_Y_refresh_17 ?_
  obtain ⟨a1, h⟩ := h
  refine er_icmp_ge (tgt := 42) (by decide) a1 (by decide) d_Y_refresh_19 (fun c2 => ?_) (fun c2 => ?_)
  · have h := h.1 c2
    refine er_aload_n rfl rfl d_Y_refresh_42 ?_
    refine er_iconst d_Y_refresh_43 ?_
    refine er_putIE 6 rfl fl_Y_32 (shY_0 hy) (by decide) rfl d_Y_refresh_44 (fun m3 hm => ?_)
    have h := h m3 hm
    refine er_aload_n rfl rfl d_Y_refresh_47 ?_
    refine er_cVI (As := []) (st := []) ml_Y_46 mw_B_countSignals md_B_countSignals ⟨rfl, rfl⟩ rfl (Nat.le_of_ble_eq_true rfl) sh_2 rfl ⟨(Nat.le_of_ble_eq_true rfl), (Nat.le_of_ble_eq_true rfl)⟩ rfl d_Y_refresh_48 h (fun v5 m4 h => ?_)
    refine er_istE 3 rfl (Nat.le_of_ble_eq_true rfl) (ls2 := [some (.inr y), some (.inr 2), some (.inr 52), some (.inl v5), none, none]) rfl d_Y_refresh_51 ?_
    refine er_iconst d_Y_refresh_52 ?_
    refine er_istF (Nat.le_of_ble_eq_true rfl) (ls2 := [some (.inr y), some (.inr 2), some (.inr 52), some (.inl v5), some (.inl 1), none]) rfl d_Y_refresh_53 ?_
    exact er_forget [some (.inr y), some (.inr 2), some (.inr 52), some (.inl v5), some (.inl 1), none] (And.intro rfl (And.intro rfl (And.intro rfl (And.intro rfl (And.intro rfl trivial))))) h
  · have h := h.2 c2
    refine er_aload_n rfl rfl d_Y_refresh_22 ?_
    refine er_getR fl_Y_29 (shY_0 hy) (by decide) rfl (Nat.succ_ne_zero _) d_Y_refresh_23 ?_
    refine er_iload_n rfl rfl d_Y_refresh_26 ?_
    refine er_iconst d_Y_refresh_27 ?_
    obtain ⟨a6, a7, h⟩ := h
    refine er_iastE (shY_4 hy) (by decide) a6 a7 d_Y_refresh_28 (fun m8 hm => ?_)
    have h := h m8 hm
    refine er_aload_n rfl rfl d_Y_refresh_29 ?_
    refine er_getR fl_Y_22 (shY_0 hy) (by decide) rfl (Nat.succ_ne_zero _) d_Y_refresh_30 ?_
    refine er_iload_n rfl rfl d_Y_refresh_33 ?_
    refine er_iconst d_Y_refresh_34 ?_
    refine er_iastE (shY_2 hy) (by decide) a6 a7 d_Y_refresh_35 (fun m9 hm => ?_)
    have h := h m9 hm
    refine er_incE (ls2 := [some (.inr y), some (.inr 2), some (.inr 52), some (.inl (x3 + 1)), none, none]) rfl (Nat.le_of_ble_eq_true rfl) rfl d_Y_refresh_36 ?_
    refine er_goto (tgt := 16) (by decide) d_Y_refresh_39 ?_
    exact er_forget [some (.inr y), some (.inr 2), some (.inr 52), some (.inl (x3 + 1)), none, none] (And.intro rfl (And.intro rfl (And.intro rfl (And.intro rfl trivial)))) h
theorem vc_Y_refresh_55 {K : er_K} {y : Nat} {x3 : Int} {x4 : Int} {m : er_M} {Q : Nat → er_M → Prop} (hy : er_isY y) (h : (er_in x4) ∧ (((36 < x4 → wp_Y_refresh_101 K y x3 m Q) ∧ (x4 ≤ 36 → (er_in x3) ∧ (((x3 ≤ 0 → wp_Y_refresh_101 K y x3 m Q) ∧ (0 < x3 → er_SI K mi_Y_fill [.inr y, .inl x4, .inr 2, .inr 52] m (fun v6 m5 => (er_in v6) ∧ (((v6 ≠ 0 → ∀ m9 : er_M, m9 = er_st m5 y 6 x4 → wp_Y_refresh_55 K y (x3 - v6) (x4 + 1) m9 Q) ∧ (v6 = 0 → wp_Y_refresh_101 K y x3 m5 Q))))))))))) : wp_Y_refresh_55 K y x3 x4 m Q := by
  show er_WP K mi_Y_refresh 0 0 er_SH m 55 [some (.inr y), some (.inr 2), some (.inr 52), some (.inl x3), some (.inl x4), none] [] _
  refine er_iload rfl d_Y_refresh_55 ?_
  refine er_bipush (by decide) d_Y_refresh_57 ?_
  obtain ⟨a1, h⟩ := h
  refine er_icmp_gt (tgt := 101) (by decide) a1 (by decide) d_Y_refresh_59 (fun c2 => ?_) (fun c2 => ?_)
  · have h := h.1 c2
    exact er_forget [some (.inr y), none, none, some (.inl x3), none, none] (And.intro rfl (And.intro rfl trivial)) h
  · have h := h.2 c2
    refine er_iload_n rfl rfl d_Y_refresh_62 ?_
    obtain ⟨a3, h⟩ := h
    refine er_if_le (tgt := 101) (by decide) a3 d_Y_refresh_63 (fun c4 => ?_) (fun c4 => ?_)
    · have h := h.1 c4
      exact er_forget [some (.inr y), none, none, some (.inl x3), none, none] (And.intro rfl (And.intro rfl trivial)) h
    · have h := h.2 c4
      refine er_aload_n rfl rfl d_Y_refresh_66 ?_
      refine er_iload rfl d_Y_refresh_67 ?_
      refine er_aload_n rfl rfl d_Y_refresh_69 ?_
      refine er_aload_n rfl rfl d_Y_refresh_70 ?_
      refine er_cVI (As := [.inl x4, .inr 2, .inr 52]) (st := []) ml_Y_52 mw_Y_fill md_Y_fill ⟨rfl, rfl⟩ rfl (Nat.le_of_ble_eq_true rfl) (shY_0 hy) rfl ⟨(Nat.le_of_ble_eq_true rfl), (Nat.le_of_ble_eq_true rfl)⟩ rfl d_Y_refresh_71 h (fun v6 m5 h => ?_)
      refine er_istF (Nat.le_of_ble_eq_true rfl) (ls2 := [some (.inr y), some (.inr 2), some (.inr 52), some (.inl x3), some (.inl x4), some (.inl v6)]) rfl d_Y_refresh_74 ?_
      refine er_iload rfl d_Y_refresh_76 ?_
      obtain ⟨a7, h⟩ := h
      refine er_if_ne (tgt := 84) (by decide) a7 d_Y_refresh_78 (fun c8 => ?_) (fun c8 => ?_)
      · have h := h.1 c8
        refine er_aload_n rfl rfl d_Y_refresh_84 ?_
        refine er_iload rfl d_Y_refresh_85 ?_
        refine er_putIE 6 rfl fl_Y_32 (shY_0 hy) (by decide) rfl d_Y_refresh_87 (fun m9 hm => ?_)
        have h := h m9 hm
        refine er_iload_n rfl rfl d_Y_refresh_90 ?_
        refine er_iload rfl d_Y_refresh_91 ?_
        refine er_isub d_Y_refresh_93 ?_
        refine er_istE 3 rfl (Nat.le_of_ble_eq_true rfl) (ls2 := [some (.inr y), some (.inr 2), some (.inr 52), some (.inl (x3 - v6)), some (.inl x4), some (.inl v6)]) rfl d_Y_refresh_94 ?_
        refine er_incE (ls2 := [some (.inr y), some (.inr 2), some (.inr 52), some (.inl (x3 - v6)), some (.inl (x4 + 1)), some (.inl v6)]) rfl (Nat.le_of_ble_eq_true rfl) rfl d_Y_refresh_95 ?_
        refine er_goto (tgt := 55) (by decide) d_Y_refresh_98 ?_
        exact er_forget [some (.inr y), some (.inr 2), some (.inr 52), some (.inl (x3 - v6)), some (.inl (x4 + 1)), none] (And.intro rfl (And.intro rfl (And.intro rfl (And.intro rfl (And.intro rfl trivial))))) h
      · have h := h.2 c8
        refine er_goto (tgt := 101) (by decide) d_Y_refresh_81 ?_
        exact er_forget [some (.inr y), none, none, some (.inl x3), none, none] (And.intro rfl (And.intro rfl trivial)) h
theorem vc_Y_refresh_101 {K : er_K} {y : Nat} {x3 : Int} {m : er_M} {Q : Nat → er_M → Prop} (hy : er_isY y) (h : (er_in x3) ∧ (((x3 ≠ 0 → ∀ m3 : er_M, m3 = er_st m y 7 0 → ∀ m4 : er_M, m4 = er_st m3 y 8 1 → Q y m4) ∧ (x3 = 0 → ∀ m5 : er_M, m5 = er_st m y 7 1 → ∀ m6 : er_M, m6 = er_st m5 y 8 1 → Q y m6)))) : wp_Y_refresh_101 K y x3 m Q := by
  show er_WP K mi_Y_refresh 0 0 er_SH m 101 [some (.inr y), none, none, some (.inl x3), none, none] [] _
  refine er_aload_n rfl rfl d_Y_refresh_101 ?_
  refine er_iload_n rfl rfl d_Y_refresh_102 ?_
  obtain ⟨a1, h⟩ := h
  refine er_if_ne (tgt := 110) (by decide) a1 d_Y_refresh_103 (fun c2 => ?_) (fun c2 => ?_)
  · have h := h.1 c2
    refine er_iconst d_Y_refresh_110 ?_
    refine er_putZE 7 rfl fl_Y_35 (shY_0 hy) (by decide) rfl (Or.inl rfl) d_Y_refresh_111 (fun m3 hm => ?_)
    have h := h m3 hm
    refine er_aload_n rfl rfl d_Y_refresh_114 ?_
    refine er_iconst d_Y_refresh_115 ?_
    refine er_putZE 8 rfl fl_Y_39 (shY_0 hy) (by decide) rfl (Or.inr rfl) d_Y_refresh_116 (fun m4 hm => ?_)
    have h := h m4 hm
    refine er_aload_n rfl rfl d_Y_refresh_119 ?_
    exact er_aretE rfl rfl d_Y_refresh_120 h
  · have h := h.2 c2
    refine er_iconst d_Y_refresh_106 ?_
    refine er_goto (tgt := 111) (by decide) d_Y_refresh_107 ?_
    refine er_putZE 7 rfl fl_Y_35 (shY_0 hy) (by decide) rfl (Or.inr rfl) d_Y_refresh_111 (fun m5 hm => ?_)
    have h := h m5 hm
    refine er_aload_n rfl rfl d_Y_refresh_114 ?_
    refine er_iconst d_Y_refresh_115 ?_
    refine er_putZE 8 rfl fl_Y_39 (shY_0 hy) (by decide) rfl (Or.inr rfl) d_Y_refresh_116 (fun m6 hm => ?_)
    have h := h m6 hm
    refine er_aload_n rfl rfl d_Y_refresh_119 ?_
    exact er_aretE rfl rfl d_Y_refresh_120 h
theorem vc_Y_refresh {K : er_K} {y : Nat} {m : er_M} {Q : Nat → er_M → Prop} (hy : er_isY y) (h : (er_in (m y 8)) ∧ ((((m y 8) = 0 → er_SV K mi_Y_putInOrder [.inr y, .inr 2] m (fun m3 => wp_Y_refresh_16 K y 0 m3 Q)) ∧ ((m y 8) ≠ 0 → Q y m)))) : er_SR K mi_Y_refresh [.inr y, .inr 2, .inr 52] m Q := by
  refine er_start (by decide) (Nat.le_of_ble_eq_true rfl) ?_
  show er_WP K mi_Y_refresh 0 0 er_SH m 0 [some (.inr y), some (.inr 2), some (.inr 52), none, none, none] [] _
  refine er_aload_n rfl rfl d_Y_refresh_0 ?_
  refine er_getIE 8 rfl fl_Y_39 (shY_0 hy) (by decide) rfl d_Y_refresh_1 ?_
  obtain ⟨a1, h⟩ := h
  refine er_if_eq (tgt := 9) (by decide) a1 d_Y_refresh_4 (fun c2 => ?_) (fun c2 => ?_)
  · have h := h.1 c2
    refine er_aload_n rfl rfl d_Y_refresh_9 ?_
    refine er_aload_n rfl rfl d_Y_refresh_10 ?_
    refine er_cVV (As := [.inr 2]) (st := []) ml_Y_42 mw_Y_putInOrder md_Y_putInOrder ⟨rfl, rfl⟩ rfl (Nat.le_of_ble_eq_true rfl) (shY_0 hy) rfl ⟨(Nat.le_of_ble_eq_true rfl), (Nat.le_of_ble_eq_true rfl)⟩ rfl d_Y_refresh_11 h (fun m3 h => ?_)
    refine er_iconst d_Y_refresh_14 ?_
    refine er_istE 3 rfl (Nat.le_of_ble_eq_true rfl) (ls2 := [some (.inr y), some (.inr 2), some (.inr 52), some (.inl 0), none, none]) rfl d_Y_refresh_15 ?_
    exact er_forget [some (.inr y), some (.inr 2), some (.inr 52), some (.inl 0), none, none] (And.intro rfl (And.intro rfl (And.intro rfl (And.intro rfl trivial)))) h
  · have h := h.2 c2
    refine er_aload_n rfl rfl d_Y_refresh_7 ?_
    exact er_aretE rfl rfl d_Y_refresh_8 h
def wp_Y_fill_3 (K : er_K) (y : Nat) (x1 : Int) (x4 : Int) (m : er_M) (Q : Int → er_M → Prop) : Prop := er_WP K mi_Y_fill 0 0 er_SH m 3 [some (.inr y), some (.inl x1), some (.inr 2), some (.inr 52), some (.inl x4), none, none, none] [] (er_Z K mi_Y_fill (er_PI Q))
def wp_Y_fill_64 (K : er_K) (y : Nat) (x1 : Int) (x4 : Int) (x5 : Int) (m : er_M) (Q : Int → er_M → Prop) : Prop := er_WP K mi_Y_fill 0 0 er_SH m 64 [some (.inr y), some (.inl x1), some (.inr 2), some (.inr 52), some (.inl x4), some (.inl x5), none, none] [] (er_Z K mi_Y_fill (er_PI Q))
def wp_Y_fill_107 (K : er_K) (y : Nat) (x1 : Int) (x4 : Int) (x5 : Int) (x6 : Int) (m : er_M) (Q : Int → er_M → Prop) : Prop := er_WP K mi_Y_fill 0 0 er_SH m 107 [some (.inr y), some (.inl x1), some (.inr 2), some (.inr 52), some (.inl x4), some (.inl x5), some (.inl x6), none] [] (er_Z K mi_Y_fill (er_PI Q))
theorem vc_Y_fill_3 {K : er_K} {y : Nat} {x1 : Int} {x4 : Int} {m : er_M} {Q : Int → er_M → Prop} (hy : er_isY y) (h : (er_in x4) ∧ (((36 ≤ x4 → er_SV K mi_N_build [.inr 52, .inr 2, .inr (y + 3), .inl 1] m (fun m3 => wp_Y_fill_64 K y x1 0 0 m3 Q)) ∧ (x4 < 36 → (0 ≤ x4) ∧ (x4 < 36) ∧ ((er_in (m 3 x4)) ∧ ((((m 3 x4) = 0 → ∀ m8 : er_M, m8 = er_st m (y + 3) x4 1 → wp_Y_fill_3 K y x1 (x4 + 1) m8 Q) ∧ ((m 3 x4) ≠ 0 → (er_in (m (y + 4) x4)) ∧ ((((m (y + 4) x4) = 0 → ∀ m11 : er_M, m11 = er_st m (y + 3) x4 0 → wp_Y_fill_3 K y x1 (x4 + 1) m11 Q) ∧ ((m (y + 4) x4) ≠ 0 → ∀ m12 : er_M, m12 = er_st m (y + 3) x4 1 → wp_Y_fill_3 K y x1 (x4 + 1) m12 Q))))))))))) : wp_Y_fill_3 K y x1 x4 m Q := by
  show er_WP K mi_Y_fill 0 0 er_SH m 3 [some (.inr y), some (.inl x1), some (.inr 2), some (.inr 52), some (.inl x4), none, none, none] [] _
  refine er_iload rfl d_Y_fill_3 ?_
  refine er_bipush (by decide) d_Y_fill_5 ?_
  obtain ⟨a1, h⟩ := h
  refine er_icmp_ge (tgt := 48) (by decide) a1 (by decide) d_Y_fill_7 (fun c2 => ?_) (fun c2 => ?_)
  · have h := h.1 c2
    refine er_aload_n rfl rfl d_Y_fill_48 ?_
    refine er_aload_n rfl rfl d_Y_fill_49 ?_
    refine er_aload_n rfl rfl d_Y_fill_50 ?_
    refine er_getR fl_Y_25 (shY_0 hy) (by decide) rfl (Nat.succ_ne_zero _) d_Y_fill_51 ?_
    refine er_iconst d_Y_fill_54 ?_
    refine er_cVV (As := [.inr 2, .inr (y + 3), .inl 1]) (st := []) ml_Y_59 mw_N_build md_N_build ⟨rfl, rfl⟩ rfl (Nat.le_of_ble_eq_true rfl) sh_52 rfl ⟨(Nat.le_of_ble_eq_true rfl), (Nat.le_of_ble_eq_true rfl)⟩ rfl d_Y_fill_55 h (fun m3 h => ?_)
    refine er_iconst d_Y_fill_58 ?_
    refine er_istF (Nat.le_of_ble_eq_true rfl) (ls2 := [some (.inr y), some (.inl x1), some (.inr 2), some (.inr 52), some (.inl 0), none, none, none]) rfl d_Y_fill_59 ?_
    refine er_iconst d_Y_fill_61 ?_
    refine er_istF (Nat.le_of_ble_eq_true rfl) (ls2 := [some (.inr y), some (.inl x1), some (.inr 2), some (.inr 52), some (.inl 0), some (.inl 0), none, none]) rfl d_Y_fill_62 ?_
    exact er_forget [some (.inr y), some (.inl x1), some (.inr 2), some (.inr 52), some (.inl 0), some (.inl 0), none, none] (And.intro rfl (And.intro rfl (And.intro rfl (And.intro rfl (And.intro rfl (And.intro rfl trivial)))))) h
  · have h := h.2 c2
    refine er_aload_n rfl rfl d_Y_fill_10 ?_
    refine er_getR fl_Y_25 (shY_0 hy) (by decide) rfl (Nat.succ_ne_zero _) d_Y_fill_11 ?_
    refine er_iload rfl d_Y_fill_14 ?_
    refine er_aload_n rfl rfl d_Y_fill_16 ?_
    refine er_getR fl_Y_56 sh_2 (by decide) rfl (by decide) d_Y_fill_17 ?_
    refine er_iload rfl d_Y_fill_20 ?_
    obtain ⟨a4, a5, h⟩ := h
    refine er_iald sh_3 (by decide) a4 a5 d_Y_fill_22 ?_
    obtain ⟨a6, h⟩ := h
    refine er_if_eq (tgt := 36) (by decide) a6 d_Y_fill_23 (fun c7 => ?_) (fun c7 => ?_)
    · have h := h.1 c7
      refine er_iconst d_Y_fill_36 ?_
      refine er_goto (tgt := 41) (by decide) d_Y_fill_37 ?_
      refine er_zastE (shY_3 hy) (by decide) a4 a5 (Or.inr rfl) d_Y_fill_41 (fun m8 hm => ?_)
      have h := h m8 hm
      refine er_incE (ls2 := [some (.inr y), some (.inl x1), some (.inr 2), some (.inr 52), some (.inl (x4 + 1)), none, none, none]) rfl (Nat.le_of_ble_eq_true rfl) rfl d_Y_fill_42 ?_
      refine er_goto (tgt := 3) (by decide) d_Y_fill_45 ?_
      exact er_forget [some (.inr y), some (.inl x1), some (.inr 2), some (.inr 52), some (.inl (x4 + 1)), none, none, none] (And.intro rfl (And.intro rfl (And.intro rfl (And.intro rfl (And.intro rfl trivial))))) h
    · have h := h.2 c7
      refine er_aload_n rfl rfl d_Y_fill_26 ?_
      refine er_getR fl_Y_29 (shY_0 hy) (by decide) rfl (Nat.succ_ne_zero _) d_Y_fill_27 ?_
      refine er_iload rfl d_Y_fill_30 ?_
      refine er_iald (shY_4 hy) (by decide) a4 a5 d_Y_fill_32 ?_
      obtain ⟨a9, h⟩ := h
      refine er_if_eq (tgt := 40) (by decide) a9 d_Y_fill_33 (fun c10 => ?_) (fun c10 => ?_)
      · have h := h.1 c10
        refine er_iconst d_Y_fill_40 ?_
        refine er_zastE (shY_3 hy) (by decide) a4 a5 (Or.inl rfl) d_Y_fill_41 (fun m11 hm => ?_)
        have h := h m11 hm
        refine er_incE (ls2 := [some (.inr y), some (.inl x1), some (.inr 2), some (.inr 52), some (.inl (x4 + 1)), none, none, none]) rfl (Nat.le_of_ble_eq_true rfl) rfl d_Y_fill_42 ?_
        refine er_goto (tgt := 3) (by decide) d_Y_fill_45 ?_
        exact er_forget [some (.inr y), some (.inl x1), some (.inr 2), some (.inr 52), some (.inl (x4 + 1)), none, none, none] (And.intro rfl (And.intro rfl (And.intro rfl (And.intro rfl (And.intro rfl trivial))))) h
      · have h := h.2 c10
        refine er_iconst d_Y_fill_36 ?_
        refine er_goto (tgt := 41) (by decide) d_Y_fill_37 ?_
        refine er_zastE (shY_3 hy) (by decide) a4 a5 (Or.inr rfl) d_Y_fill_41 (fun m12 hm => ?_)
        have h := h m12 hm
        refine er_incE (ls2 := [some (.inr y), some (.inl x1), some (.inr 2), some (.inr 52), some (.inl (x4 + 1)), none, none, none]) rfl (Nat.le_of_ble_eq_true rfl) rfl d_Y_fill_42 ?_
        refine er_goto (tgt := 3) (by decide) d_Y_fill_45 ?_
        exact er_forget [some (.inr y), some (.inl x1), some (.inr 2), some (.inr 52), some (.inl (x4 + 1)), none, none, none] (And.intro rfl (And.intro rfl (And.intro rfl (And.intro rfl (And.intro rfl trivial))))) h
theorem vc_Y_fill_64 {K : er_K} {y : Nat} {x1 : Int} {x4 : Int} {x5 : Int} {m : er_M} {Q : Int → er_M → Prop} (hy : er_isY y) (h : (er_in x5) ∧ (er_in (m y 2)) ∧ ((((m y 2) ≤ x5 → Q x4 m) ∧ (x5 < (m y 2) → (0 ≤ x5) ∧ (x5 < 36) ∧ ((0 ≤ (m (y + 1) x5)) ∧ ((m (y + 1) x5) < 36) ∧ ((er_in (m 3 (m (y + 1) x5))) ∧ ((((m 3 (m (y + 1) x5)) ≠ 1 → wp_Y_fill_107 K y x1 x4 x5 (m (y + 1) x5) m Q) ∧ ((m 3 (m (y + 1) x5)) = 1 → (er_in (m (y + 4) (m (y + 1) x5))) ∧ ((((m (y + 4) (m (y + 1) x5)) ≠ 0 → wp_Y_fill_107 K y x1 x4 x5 (m (y + 1) x5) m Q) ∧ ((m (y + 4) (m (y + 1) x5)) = 0 → (er_in (m (y + 2) (m (y + 1) x5))) ∧ (er_in x1) ∧ ((((m (y + 2) (m (y + 1) x5)) = x1 → wp_Y_fill_64 K y x1 x4 (x5 + 1) m Q) ∧ ((m (y + 2) (m (y + 1) x5)) ≠ x1 → er_SI K mi_Y_consider [.inr y, .inl (m (y + 1) x5), .inl (m 4 (m (y + 1) x5)), .inl x1, .inr 52] m (fun v17 m16 => wp_Y_fill_64 K y x1 (x4 + v17) (x5 + 1) m16 Q)))))))))))))))) : wp_Y_fill_64 K y x1 x4 x5 m Q := by
  show er_WP K mi_Y_fill 0 0 er_SH m 64 [some (.inr y), some (.inl x1), some (.inr 2), some (.inr 52), some (.inl x4), some (.inl x5), none, none] [] _
  refine er_iload rfl d_Y_fill_64 ?_
  refine er_aload_n rfl rfl d_Y_fill_66 ?_
  refine er_getIE 2 rfl fl_Y_19 (shY_0 hy) (by decide) rfl d_Y_fill_67 ?_
  obtain ⟨a1, a2, h⟩ := h
  refine er_icmp_ge (tgt := 152) (by decide) a1 a2 d_Y_fill_70 (fun c3 => ?_) (fun c3 => ?_)
  · have h := h.1 c3
    refine er_iload rfl d_Y_fill_152 ?_
    exact er_iretE rfl rfl d_Y_fill_154 h
  · have h := h.2 c3
    refine er_aload_n rfl rfl d_Y_fill_73 ?_
    refine er_getR fl_Y_15 (shY_0 hy) (by decide) rfl (Nat.succ_ne_zero _) d_Y_fill_74 ?_
    refine er_iload rfl d_Y_fill_77 ?_
    obtain ⟨a4, a5, h⟩ := h
    refine er_iald (shY_1 hy) (by decide) a4 a5 d_Y_fill_79 ?_
    refine er_istF (Nat.le_of_ble_eq_true rfl) (ls2 := [some (.inr y), some (.inl x1), some (.inr 2), some (.inr 52), some (.inl x4), some (.inl x5), some (.inl (m (y + 1) x5)), none]) rfl d_Y_fill_80 ?_
    refine er_aload_n rfl rfl d_Y_fill_82 ?_
    refine er_getR fl_Y_56 sh_2 (by decide) rfl (by decide) d_Y_fill_83 ?_
    refine er_iload rfl d_Y_fill_86 ?_
    obtain ⟨a6, a7, h⟩ := h
    refine er_iald sh_3 (by decide) a6 a7 d_Y_fill_88 ?_
    refine er_iconst d_Y_fill_89 ?_
    obtain ⟨a8, h⟩ := h
    refine er_icmp_ne (tgt := 107) (by decide) a8 (by decide) d_Y_fill_90 (fun c9 => ?_) (fun c9 => ?_)
    · have h := h.1 c9
      exact er_forget [some (.inr y), some (.inl x1), some (.inr 2), some (.inr 52), some (.inl x4), some (.inl x5), some (.inl (m (y + 1) x5)), none] (And.intro rfl (And.intro rfl (And.intro rfl (And.intro rfl (And.intro rfl (And.intro rfl (And.intro rfl trivial))))))) h
    · have h := h.2 c9
      refine er_aload_n rfl rfl d_Y_fill_93 ?_
      refine er_getR fl_Y_29 (shY_0 hy) (by decide) rfl (Nat.succ_ne_zero _) d_Y_fill_94 ?_
      refine er_iload rfl d_Y_fill_97 ?_
      refine er_iald (shY_4 hy) (by decide) a6 a7 d_Y_fill_99 ?_
      obtain ⟨a10, h⟩ := h
      refine er_if_ne (tgt := 107) (by decide) a10 d_Y_fill_100 (fun c11 => ?_) (fun c11 => ?_)
      · have h := h.1 c11
        exact er_forget [some (.inr y), some (.inl x1), some (.inr 2), some (.inr 52), some (.inl x4), some (.inl x5), some (.inl (m (y + 1) x5)), none] (And.intro rfl (And.intro rfl (And.intro rfl (And.intro rfl (And.intro rfl (And.intro rfl (And.intro rfl trivial))))))) h
      · have h := h.2 c11
        refine er_iconst d_Y_fill_103 ?_
        refine er_goto (tgt := 108) (by decide) d_Y_fill_104 ?_
        refine er_istF (Nat.le_of_ble_eq_true rfl) (ls2 := [some (.inr y), some (.inl x1), some (.inr 2), some (.inr 52), some (.inl x4), some (.inl x5), some (.inl (m (y + 1) x5)), some (.inl 1)]) rfl d_Y_fill_108 ?_
        refine er_iload rfl d_Y_fill_110 ?_
        refine er_if_eq (tgt := 146) (by decide) (by decide) d_Y_fill_112 (fun c12 => ?_) (fun c12 => ?_)
        · exact absurd c12 (by decide)
        · skip
          refine er_aload_n rfl rfl d_Y_fill_115 ?_
          refine er_getR fl_Y_22 (shY_0 hy) (by decide) rfl (Nat.succ_ne_zero _) d_Y_fill_116 ?_
          refine er_iload rfl d_Y_fill_119 ?_
          refine er_iald (shY_2 hy) (by decide) a6 a7 d_Y_fill_121 ?_
          refine er_iload_n rfl rfl d_Y_fill_122 ?_
          obtain ⟨a13, a14, h⟩ := h
          refine er_icmp_eq (tgt := 146) (by decide) a13 a14 d_Y_fill_123 (fun c15 => ?_) (fun c15 => ?_)
          · have h := h.1 c15
            refine er_incE (ls2 := [some (.inr y), some (.inl x1), some (.inr 2), some (.inr 52), some (.inl x4), some (.inl (x5 + 1)), some (.inl (m (y + 1) x5)), some (.inl 1)]) rfl (Nat.le_of_ble_eq_true rfl) rfl d_Y_fill_146 ?_
            refine er_goto (tgt := 64) (by decide) d_Y_fill_149 ?_
            exact er_forget [some (.inr y), some (.inl x1), some (.inr 2), some (.inr 52), some (.inl x4), some (.inl (x5 + 1)), none, none] (And.intro rfl (And.intro rfl (And.intro rfl (And.intro rfl (And.intro rfl (And.intro rfl trivial)))))) h
          · have h := h.2 c15
            refine er_iload rfl d_Y_fill_126 ?_
            refine er_aload_n rfl rfl d_Y_fill_128 ?_
            refine er_iload rfl d_Y_fill_129 ?_
            refine er_aload_n rfl rfl d_Y_fill_131 ?_
            refine er_getR fl_Y_65 sh_2 (by decide) rfl (by decide) d_Y_fill_132 ?_
            refine er_iload rfl d_Y_fill_135 ?_
            refine er_iald sh_4 (by decide) a6 a7 d_Y_fill_137 ?_
            refine er_iload_n rfl rfl d_Y_fill_138 ?_
            refine er_aload_n rfl rfl d_Y_fill_139 ?_
            refine er_cVI (As := [.inl (m (y + 1) x5), .inl (m 4 (m (y + 1) x5)), .inl x1, .inr 52]) (st := [.inl x4]) ml_Y_68 mw_Y_consider md_Y_consider ⟨rfl, rfl⟩ rfl (Nat.le_of_ble_eq_true rfl) (shY_0 hy) rfl ⟨(Nat.le_of_ble_eq_true rfl), (Nat.le_of_ble_eq_true rfl)⟩ rfl d_Y_fill_140 h (fun v17 m16 h => ?_)
            refine er_iadd d_Y_fill_143 ?_
            refine er_istF (Nat.le_of_ble_eq_true rfl) (ls2 := [some (.inr y), some (.inl x1), some (.inr 2), some (.inr 52), some (.inl (x4 + v17)), some (.inl x5), some (.inl (m (y + 1) x5)), some (.inl 1)]) rfl d_Y_fill_144 ?_
            refine er_incE (ls2 := [some (.inr y), some (.inl x1), some (.inr 2), some (.inr 52), some (.inl (x4 + v17)), some (.inl (x5 + 1)), some (.inl (m (y + 1) x5)), some (.inl 1)]) rfl (Nat.le_of_ble_eq_true rfl) rfl d_Y_fill_146 ?_
            refine er_goto (tgt := 64) (by decide) d_Y_fill_149 ?_
            exact er_forget [some (.inr y), some (.inl x1), some (.inr 2), some (.inr 52), some (.inl (x4 + v17)), some (.inl (x5 + 1)), none, none] (And.intro rfl (And.intro rfl (And.intro rfl (And.intro rfl (And.intro rfl (And.intro rfl trivial)))))) h
theorem vc_Y_fill_107 {K : er_K} {y : Nat} {x1 : Int} {x4 : Int} {x5 : Int} {x6 : Int} {m : er_M} {Q : Int → er_M → Prop} (hy : er_isY y) (h : wp_Y_fill_64 K y x1 x4 (x5 + 1) m Q) : wp_Y_fill_107 K y x1 x4 x5 x6 m Q := by
  show er_WP K mi_Y_fill 0 0 er_SH m 107 [some (.inr y), some (.inl x1), some (.inr 2), some (.inr 52), some (.inl x4), some (.inl x5), some (.inl x6), none] [] _
  refine er_iconst d_Y_fill_107 ?_
  refine er_istF (Nat.le_of_ble_eq_true rfl) (ls2 := [some (.inr y), some (.inl x1), some (.inr 2), some (.inr 52), some (.inl x4), some (.inl x5), some (.inl x6), some (.inl 0)]) rfl d_Y_fill_108 ?_
  refine er_iload rfl d_Y_fill_110 ?_
  refine er_if_eq (tgt := 146) (by decide) (by decide) d_Y_fill_112 (fun c1 => ?_) (fun c1 => ?_)
  · skip
    refine er_incE (ls2 := [some (.inr y), some (.inl x1), some (.inr 2), some (.inr 52), some (.inl x4), some (.inl (x5 + 1)), some (.inl x6), some (.inl 0)]) rfl (Nat.le_of_ble_eq_true rfl) rfl d_Y_fill_146 ?_
    refine er_goto (tgt := 64) (by decide) d_Y_fill_149 ?_
    exact er_forget [some (.inr y), some (.inl x1), some (.inr 2), some (.inr 52), some (.inl x4), some (.inl (x5 + 1)), none, none] (And.intro rfl (And.intro rfl (And.intro rfl (And.intro rfl (And.intro rfl (And.intro rfl trivial)))))) h
  · exact absurd c1 (by decide)
theorem vc_Y_fill {K : er_K} {y : Nat} {p1 : Int} {m : er_M} {Q : Int → er_M → Prop} (hy : er_isY y) (h : wp_Y_fill_3 K y p1 0 m Q) : er_SI K mi_Y_fill [.inr y, .inl p1, .inr 2, .inr 52] m Q := by
  refine er_start (by decide) (Nat.le_of_ble_eq_true rfl) ?_
  show er_WP K mi_Y_fill 0 0 er_SH m 0 [some (.inr y), some (.inl p1), some (.inr 2), some (.inr 52), none, none, none, none] [] _
  refine er_iconst d_Y_fill_0 ?_
  refine er_istF (Nat.le_of_ble_eq_true rfl) (ls2 := [some (.inr y), some (.inl p1), some (.inr 2), some (.inr 52), some (.inl 0), none, none, none]) rfl d_Y_fill_1 ?_
  exact er_forget [some (.inr y), some (.inl p1), some (.inr 2), some (.inr 52), some (.inl 0), none, none, none] (And.intro rfl (And.intro rfl (And.intro rfl (And.intro rfl (And.intro rfl trivial))))) h
def wp_Y_consider_50 (K : er_K) (y : Nat) (x1 : Int) (x2 : Int) (x3 : Int) (x5 : Int) (m : er_M) (Q : Int → er_M → Prop) : Prop := er_WP K mi_Y_consider 0 0 er_SH m 50 [some (.inr y), some (.inl x1), some (.inl x2), some (.inl x3), some (.inr 52), some (.inl x5), none, none] [] (er_Z K mi_Y_consider (er_PI Q))
def wp_Y_consider_65 (K : er_K) (y : Nat) (x1 : Int) (x2 : Int) (x3 : Int) (x5 : Int) (x6 : Int) (x7 : Int) (m : er_M) (Q : Int → er_M → Prop) : Prop := er_WP K mi_Y_consider 0 0 er_SH m 65 [some (.inr y), some (.inl x1), some (.inl x2), some (.inl x3), some (.inr 52), some (.inl x5), some (.inl x6), some (.inl x7)] [] (er_Z K mi_Y_consider (er_PI Q))
theorem vc_Y_consider_50 {K : er_K} {y : Nat} {x1 : Int} {x2 : Int} {x3 : Int} {x5 : Int} {m : er_M} {Q : Int → er_M → Prop} (hy : er_isY y) (h : (er_in x5) ∧ (((x5 = 0 → wp_Y_consider_65 K y x1 x2 x3 x5 1 0 m Q) ∧ (x5 ≠ 0 → wp_Y_consider_65 K y x1 x2 x3 x5 2 0 m Q)))) : wp_Y_consider_50 K y x1 x2 x3 x5 m Q := by
  show er_WP K mi_Y_consider 0 0 er_SH m 50 [some (.inr y), some (.inl x1), some (.inl x2), some (.inl x3), some (.inr 52), some (.inl x5), none, none] [] _
  refine er_iload rfl d_Y_consider_50 ?_
  obtain ⟨a1, h⟩ := h
  refine er_if_eq (tgt := 59) (by decide) a1 d_Y_consider_52 (fun c2 => ?_) (fun c2 => ?_)
  · have h := h.1 c2
    refine er_iconst d_Y_consider_59 ?_
    refine er_istF (Nat.le_of_ble_eq_true rfl) (ls2 := [some (.inr y), some (.inl x1), some (.inl x2), some (.inl x3), some (.inr 52), some (.inl x5), some (.inl 1), none]) rfl d_Y_consider_60 ?_
    refine er_iconst d_Y_consider_62 ?_
    refine er_istF (Nat.le_of_ble_eq_true rfl) (ls2 := [some (.inr y), some (.inl x1), some (.inl x2), some (.inl x3), some (.inr 52), some (.inl x5), some (.inl 1), some (.inl 0)]) rfl d_Y_consider_63 ?_
    exact er_forget [some (.inr y), some (.inl x1), some (.inl x2), some (.inl x3), some (.inr 52), some (.inl x5), some (.inl 1), some (.inl 0)] (And.intro rfl (And.intro rfl (And.intro rfl (And.intro rfl (And.intro rfl (And.intro rfl (And.intro rfl (And.intro rfl trivial)))))))) h
  · have h := h.2 c2
    refine er_iconst d_Y_consider_55 ?_
    refine er_goto (tgt := 60) (by decide) d_Y_consider_56 ?_
    refine er_istF (Nat.le_of_ble_eq_true rfl) (ls2 := [some (.inr y), some (.inl x1), some (.inl x2), some (.inl x3), some (.inr 52), some (.inl x5), some (.inl 2), none]) rfl d_Y_consider_60 ?_
    refine er_iconst d_Y_consider_62 ?_
    refine er_istF (Nat.le_of_ble_eq_true rfl) (ls2 := [some (.inr y), some (.inl x1), some (.inl x2), some (.inl x3), some (.inr 52), some (.inl x5), some (.inl 2), some (.inl 0)]) rfl d_Y_consider_63 ?_
    exact er_forget [some (.inr y), some (.inl x1), some (.inl x2), some (.inl x3), some (.inr 52), some (.inl x5), some (.inl 2), some (.inl 0)] (And.intro rfl (And.intro rfl (And.intro rfl (And.intro rfl (And.intro rfl (And.intro rfl (And.intro rfl (And.intro rfl trivial)))))))) h
theorem vc_Y_consider_65 {K : er_K} {y : Nat} {x1 : Int} {x2 : Int} {x3 : Int} {x5 : Int} {x6 : Int} {x7 : Int} {m : er_M} {Q : Int → er_M → Prop} (hy : er_isY y) (h : (er_in x7) ∧ (er_in x6) ∧ (((x6 ≤ x7 → (0 ≤ x1) ∧ (x1 < 36) ∧ (∀ m6 : er_M, m6 = er_st m (y + 4) x1 x3 → (er_in x5) ∧ (((x5 = 0 → Q x6 m6) ∧ (x5 ≠ 0 → (0 ≤ x2) ∧ (x2 < 36) ∧ (∀ m11 : er_M, m11 = er_st m6 (y + 4) x2 x3 → Q x6 m11)))))) ∧ (x7 < x6 → er_SI K mi_N_push [.inr 52] m (fun v13 m12 => (er_in v13) ∧ (((v13 ≠ 0 → wp_Y_consider_65 K y x1 x2 x3 x5 x6 (x7 + 1) m12 Q) ∧ (v13 = 0 → er_SV K mi_N_giveFlowBack [.inr 52] m12 (fun m16 => Q 0 m16))))))))) : wp_Y_consider_65 K y x1 x2 x3 x5 x6 x7 m Q := by
  show er_WP K mi_Y_consider 0 0 er_SH m 65 [some (.inr y), some (.inl x1), some (.inl x2), some (.inl x3), some (.inr 52), some (.inl x5), some (.inl x6), some (.inl x7)] [] _
  refine er_iload rfl d_Y_consider_65 ?_
  refine er_iload rfl d_Y_consider_67 ?_
  obtain ⟨a1, a2, h⟩ := h
  refine er_icmp_ge (tgt := 93) (by decide) a1 a2 d_Y_consider_69 (fun c3 => ?_) (fun c3 => ?_)
  · have h := h.1 c3
    refine er_aload_n rfl rfl d_Y_consider_93 ?_
    refine er_getR fl_Y_29 (shY_0 hy) (by decide) rfl (Nat.succ_ne_zero _) d_Y_consider_94 ?_
    refine er_iload_n rfl rfl d_Y_consider_97 ?_
    refine er_iload_n rfl rfl d_Y_consider_98 ?_
    obtain ⟨a4, a5, h⟩ := h
    refine er_iastE (shY_4 hy) (by decide) a4 a5 d_Y_consider_99 (fun m6 hm => ?_)
    have h := h m6 hm
    refine er_iload rfl d_Y_consider_100 ?_
    obtain ⟨a7, h⟩ := h
    refine er_if_eq (tgt := 112) (by decide) a7 d_Y_consider_102 (fun c8 => ?_) (fun c8 => ?_)
    · have h := h.1 c8
      refine er_iload rfl d_Y_consider_112 ?_
      exact er_iretE rfl rfl d_Y_consider_114 h
    · have h := h.2 c8
      refine er_aload_n rfl rfl d_Y_consider_105 ?_
      refine er_getR fl_Y_29 (shY_0 hy) (by decide) rfl (Nat.succ_ne_zero _) d_Y_consider_106 ?_
      refine er_iload_n rfl rfl d_Y_consider_109 ?_
      refine er_iload_n rfl rfl d_Y_consider_110 ?_
      obtain ⟨a9, a10, h⟩ := h
      refine er_iastE (shY_4 hy) (by decide) a9 a10 d_Y_consider_111 (fun m11 hm => ?_)
      have h := h m11 hm
      refine er_iload rfl d_Y_consider_112 ?_
      exact er_iretE rfl rfl d_Y_consider_114 h
  · have h := h.2 c3
    refine er_aload rfl d_Y_consider_72 ?_
    refine er_cVI (As := []) (st := []) ml_Y_79 mw_N_push md_N_push ⟨rfl, rfl⟩ rfl (Nat.le_of_ble_eq_true rfl) sh_52 rfl ⟨(Nat.le_of_ble_eq_true rfl), (Nat.le_of_ble_eq_true rfl)⟩ rfl d_Y_consider_74 h (fun v13 m12 h => ?_)
    obtain ⟨a14, h⟩ := h
    refine er_if_ne (tgt := 87) (by decide) a14 d_Y_consider_77 (fun c15 => ?_) (fun c15 => ?_)
    · have h := h.1 c15
      refine er_incE (ls2 := [some (.inr y), some (.inl x1), some (.inl x2), some (.inl x3), some (.inr 52), some (.inl x5), some (.inl x6), some (.inl (x7 + 1))]) rfl (Nat.le_of_ble_eq_true rfl) rfl d_Y_consider_87 ?_
      refine er_goto (tgt := 65) (by decide) d_Y_consider_90 ?_
      exact er_forget [some (.inr y), some (.inl x1), some (.inl x2), some (.inl x3), some (.inr 52), some (.inl x5), some (.inl x6), some (.inl (x7 + 1))] (And.intro rfl (And.intro rfl (And.intro rfl (And.intro rfl (And.intro rfl (And.intro rfl (And.intro rfl (And.intro rfl trivial)))))))) h
    · have h := h.2 c15
      refine er_aload rfl d_Y_consider_80 ?_
      refine er_cVV (As := []) (st := []) ml_Y_82 mw_N_giveFlowBack md_N_giveFlowBack ⟨rfl, rfl⟩ rfl (Nat.le_of_ble_eq_true rfl) sh_52 rfl ⟨(Nat.le_of_ble_eq_true rfl), (Nat.le_of_ble_eq_true rfl)⟩ rfl d_Y_consider_82 h (fun m16 h => ?_)
      refine er_iconst d_Y_consider_85 ?_
      exact er_iretE rfl rfl d_Y_consider_86 h
theorem vc_Y_consider {K : er_K} {y : Nat} {p1 p2 p3 : Int} {m : er_M} {Q : Int → er_M → Prop} (hy : er_isY y) (h : (er_in p2) ∧ (((p2 = (-1) → er_SV K mi_N_keepFlow [.inr 52] m (fun m3 => (0 ≤ p1) ∧ (p1 < 36) ∧ (∀ m6 : er_M, m6 = er_st m3 (y + 2) p1 p3 → er_SV K mi_N_supply [.inr 52, .inl p1, .inl 1] m6 (fun m7 => wp_Y_consider_50 K y p1 p2 p3 0 m7 Q)))) ∧ (p2 ≠ (-1) → er_SV K mi_N_keepFlow [.inr 52] m (fun m9 => (0 ≤ p1) ∧ (p1 < 36) ∧ (∀ m12 : er_M, m12 = er_st m9 (y + 2) p1 p3 → er_SV K mi_N_supply [.inr 52, .inl p1, .inl 1] m12 (fun m13 => (0 ≤ p2) ∧ (p2 < 36) ∧ (∀ m17 : er_M, m17 = er_st m13 (y + 2) p2 p3 → er_SV K mi_N_supply [.inr 52, .inl p2, .inl 1] m17 (fun m18 => wp_Y_consider_50 K y p1 p2 p3 1 m18 Q))))))))) : er_SI K mi_Y_consider [.inr y, .inl p1, .inl p2, .inl p3, .inr 52] m Q := by
  refine er_start (by decide) (Nat.le_of_ble_eq_true rfl) ?_
  show er_WP K mi_Y_consider 0 0 er_SH m 0 [some (.inr y), some (.inl p1), some (.inl p2), some (.inl p3), some (.inr 52), none, none, none] [] _
  refine er_iload_n rfl rfl d_Y_consider_0 ?_
  refine er_iconst d_Y_consider_1 ?_
  obtain ⟨a1, h⟩ := h
  refine er_icmp_eq (tgt := 9) (by decide) a1 (by decide) d_Y_consider_2 (fun c2 => ?_) (fun c2 => ?_)
  · have h := h.1 c2
    refine er_iconst d_Y_consider_9 ?_
    refine er_istF (Nat.le_of_ble_eq_true rfl) (ls2 := [some (.inr y), some (.inl p1), some (.inl p2), some (.inl p3), some (.inr 52), some (.inl 0), none, none]) rfl d_Y_consider_10 ?_
    refine er_aload rfl d_Y_consider_12 ?_
    refine er_cVV (As := []) (st := []) ml_Y_72 mw_N_keepFlow md_N_keepFlow ⟨rfl, rfl⟩ rfl (Nat.le_of_ble_eq_true rfl) sh_52 rfl ⟨(Nat.le_of_ble_eq_true rfl), (Nat.le_of_ble_eq_true rfl)⟩ rfl d_Y_consider_14 h (fun m3 h => ?_)
    refine er_aload_n rfl rfl d_Y_consider_17 ?_
    refine er_getR fl_Y_22 (shY_0 hy) (by decide) rfl (Nat.succ_ne_zero _) d_Y_consider_18 ?_
    refine er_iload_n rfl rfl d_Y_consider_21 ?_
    refine er_iload_n rfl rfl d_Y_consider_22 ?_
    obtain ⟨a4, a5, h⟩ := h
    refine er_iastE (shY_2 hy) (by decide) a4 a5 d_Y_consider_23 (fun m6 hm => ?_)
    have h := h m6 hm
    refine er_aload rfl d_Y_consider_24 ?_
    refine er_iload_n rfl rfl d_Y_consider_26 ?_
    refine er_iconst d_Y_consider_27 ?_
    refine er_cVV (As := [.inl p1, .inl 1]) (st := []) ml_Y_75 mw_N_supply md_N_supply ⟨rfl, rfl⟩ rfl (Nat.le_of_ble_eq_true rfl) sh_52 rfl ⟨(Nat.le_of_ble_eq_true rfl), (Nat.le_of_ble_eq_true rfl)⟩ rfl d_Y_consider_28 h (fun m7 h => ?_)
    refine er_iload rfl d_Y_consider_31 ?_
    refine er_if_eq (tgt := 50) (by decide) (by decide) d_Y_consider_33 (fun c8 => ?_) (fun c8 => ?_)
    · skip
      exact er_forget [some (.inr y), some (.inl p1), some (.inl p2), some (.inl p3), some (.inr 52), some (.inl 0), none, none] (And.intro rfl (And.intro rfl (And.intro rfl (And.intro rfl (And.intro rfl (And.intro rfl trivial)))))) h
    · exact absurd c8 (by decide)
  · have h := h.2 c2
    refine er_iconst d_Y_consider_5 ?_
    refine er_goto (tgt := 10) (by decide) d_Y_consider_6 ?_
    refine er_istF (Nat.le_of_ble_eq_true rfl) (ls2 := [some (.inr y), some (.inl p1), some (.inl p2), some (.inl p3), some (.inr 52), some (.inl 1), none, none]) rfl d_Y_consider_10 ?_
    refine er_aload rfl d_Y_consider_12 ?_
    refine er_cVV (As := []) (st := []) ml_Y_72 mw_N_keepFlow md_N_keepFlow ⟨rfl, rfl⟩ rfl (Nat.le_of_ble_eq_true rfl) sh_52 rfl ⟨(Nat.le_of_ble_eq_true rfl), (Nat.le_of_ble_eq_true rfl)⟩ rfl d_Y_consider_14 h (fun m9 h => ?_)
    refine er_aload_n rfl rfl d_Y_consider_17 ?_
    refine er_getR fl_Y_22 (shY_0 hy) (by decide) rfl (Nat.succ_ne_zero _) d_Y_consider_18 ?_
    refine er_iload_n rfl rfl d_Y_consider_21 ?_
    refine er_iload_n rfl rfl d_Y_consider_22 ?_
    obtain ⟨a10, a11, h⟩ := h
    refine er_iastE (shY_2 hy) (by decide) a10 a11 d_Y_consider_23 (fun m12 hm => ?_)
    have h := h m12 hm
    refine er_aload rfl d_Y_consider_24 ?_
    refine er_iload_n rfl rfl d_Y_consider_26 ?_
    refine er_iconst d_Y_consider_27 ?_
    refine er_cVV (As := [.inl p1, .inl 1]) (st := []) ml_Y_75 mw_N_supply md_N_supply ⟨rfl, rfl⟩ rfl (Nat.le_of_ble_eq_true rfl) sh_52 rfl ⟨(Nat.le_of_ble_eq_true rfl), (Nat.le_of_ble_eq_true rfl)⟩ rfl d_Y_consider_28 h (fun m13 h => ?_)
    refine er_iload rfl d_Y_consider_31 ?_
    refine er_if_eq (tgt := 50) (by decide) (by decide) d_Y_consider_33 (fun c14 => ?_) (fun c14 => ?_)
    · exact absurd c14 (by decide)
    · skip
      refine er_aload_n rfl rfl d_Y_consider_36 ?_
      refine er_getR fl_Y_22 (shY_0 hy) (by decide) rfl (Nat.succ_ne_zero _) d_Y_consider_37 ?_
      refine er_iload_n rfl rfl d_Y_consider_40 ?_
      refine er_iload_n rfl rfl d_Y_consider_41 ?_
      obtain ⟨a15, a16, h⟩ := h
      refine er_iastE (shY_2 hy) (by decide) a15 a16 d_Y_consider_42 (fun m17 hm => ?_)
      have h := h m17 hm
      refine er_aload rfl d_Y_consider_43 ?_
      refine er_iload_n rfl rfl d_Y_consider_45 ?_
      refine er_iconst d_Y_consider_46 ?_
      refine er_cVV (As := [.inl p2, .inl 1]) (st := []) ml_Y_75 mw_N_supply md_N_supply ⟨rfl, rfl⟩ rfl (Nat.le_of_ble_eq_true rfl) sh_52 rfl ⟨(Nat.le_of_ble_eq_true rfl), (Nat.le_of_ble_eq_true rfl)⟩ rfl d_Y_consider_47 h (fun m18 h => ?_)
      exact er_forget [some (.inr y), some (.inl p1), some (.inl p2), some (.inl p3), some (.inr 52), some (.inl 1), none, none] (And.intro rfl (And.intro rfl (And.intro rfl (And.intro rfl (And.intro rfl (And.intro rfl trivial)))))) h
def wp_Y_putInOrder_38 (K : er_K) (y : Nat) (x2 : Int) (m : er_M) (Q : er_M → Prop) : Prop := er_WP K mi_Y_putInOrder 0 0 er_SH m 38 [some (.inr y), some (.inr 2), some (.inl x2)] [] (er_Z K mi_Y_putInOrder (er_PV Q))
theorem vc_Y_putInOrder_38 {K : er_K} {y : Nat} {x2 : Int} {m : er_M} {Q : er_M → Prop} (hy : er_isY y) (h : (er_in x2) ∧ (((2 < x2 → Q m) ∧ (x2 ≤ 2 → (er_in (m y 0)) ∧ ((((m y 0) ≠ 2 → er_SV K mi_Y_addRing [.inr y, .inr 2, .inl (2 - x2)] m (fun m5 => wp_Y_putInOrder_38 K y (x2 + 1) m5 Q)) ∧ ((m y 0) = 2 → er_SV K mi_Y_addRing [.inr y, .inr 2, .inl x2] m (fun m6 => wp_Y_putInOrder_38 K y (x2 + 1) m6 Q)))))))) : wp_Y_putInOrder_38 K y x2 m Q := by
  show er_WP K mi_Y_putInOrder 0 0 er_SH m 38 [some (.inr y), some (.inr 2), some (.inl x2)] [] _
  refine er_iload_n rfl rfl d_Y_putInOrder_38 ?_
  refine er_iconst d_Y_putInOrder_39 ?_
  obtain ⟨a1, h⟩ := h
  refine er_icmp_gt (tgt := 69) (by decide) a1 (by decide) d_Y_putInOrder_40 (fun c2 => ?_) (fun c2 => ?_)
  · have h := h.1 c2
    exact er_vretE rfl rfl d_Y_putInOrder_69 h
  · have h := h.2 c2
    refine er_aload_n rfl rfl d_Y_putInOrder_43 ?_
    refine er_aload_n rfl rfl d_Y_putInOrder_44 ?_
    refine er_aload_n rfl rfl d_Y_putInOrder_45 ?_
    refine er_getIE 0 rfl fl_Y_9 (shY_0 hy) (by decide) rfl d_Y_putInOrder_46 ?_
    refine er_iconst d_Y_putInOrder_49 ?_
    obtain ⟨a3, h⟩ := h
    refine er_icmp_ne (tgt := 57) (by decide) a3 (by decide) d_Y_putInOrder_50 (fun c4 => ?_) (fun c4 => ?_)
    · have h := h.1 c4
      refine er_iconst d_Y_putInOrder_57 ?_
      refine er_iload_n rfl rfl d_Y_putInOrder_58 ?_
      refine er_isub d_Y_putInOrder_59 ?_
      refine er_cVV (As := [.inr 2, .inl (2 - x2)]) (st := []) ml_Y_91 mw_Y_addRing md_Y_addRing ⟨rfl, rfl⟩ rfl (Nat.le_of_ble_eq_true rfl) (shY_0 hy) rfl ⟨(Nat.le_of_ble_eq_true rfl), (Nat.le_of_ble_eq_true rfl)⟩ rfl d_Y_putInOrder_60 h (fun m5 h => ?_)
      refine er_incE (ls2 := [some (.inr y), some (.inr 2), some (.inl (x2 + 1))]) rfl (Nat.le_of_ble_eq_true rfl) rfl d_Y_putInOrder_63 ?_
      refine er_goto (tgt := 38) (by decide) d_Y_putInOrder_66 ?_
      exact er_forget [some (.inr y), some (.inr 2), some (.inl (x2 + 1))] (And.intro rfl (And.intro rfl (And.intro rfl trivial))) h
    · have h := h.2 c4
      refine er_iload_n rfl rfl d_Y_putInOrder_53 ?_
      refine er_goto (tgt := 60) (by decide) d_Y_putInOrder_54 ?_
      refine er_cVV (As := [.inr 2, .inl x2]) (st := []) ml_Y_91 mw_Y_addRing md_Y_addRing ⟨rfl, rfl⟩ rfl (Nat.le_of_ble_eq_true rfl) (shY_0 hy) rfl ⟨(Nat.le_of_ble_eq_true rfl), (Nat.le_of_ble_eq_true rfl)⟩ rfl d_Y_putInOrder_60 h (fun m6 h => ?_)
      refine er_incE (ls2 := [some (.inr y), some (.inr 2), some (.inl (x2 + 1))]) rfl (Nat.le_of_ble_eq_true rfl) rfl d_Y_putInOrder_63 ?_
      refine er_goto (tgt := 38) (by decide) d_Y_putInOrder_66 ?_
      exact er_forget [some (.inr y), some (.inr 2), some (.inl (x2 + 1))] (And.intro rfl (And.intro rfl (And.intro rfl trivial))) h
theorem vc_Y_putInOrder {K : er_K} {y : Nat} {m : er_M} {Q : er_M → Prop} (hy : er_isY y) (h : ∀ m1 : er_M, m1 = er_st m y 2 0 → (er_in (m1 y 0)) ∧ ((((m1 y 0) ≠ 0 → (((m1 y 0) ≠ 1 → wp_Y_putInOrder_38 K y 0 m1 Q) ∧ ((m1 y 0) = 1 → er_SV K mi_Y_addByColumns [.inr y, .inr 2] m1 (fun m5 => Q m5)))) ∧ ((m1 y 0) = 0 → er_SV K mi_Y_addByRows [.inr y, .inr 2] m1 (fun m6 => Q m6))))) : er_SV K mi_Y_putInOrder [.inr y, .inr 2] m Q := by
  refine er_start (by decide) (Nat.le_of_ble_eq_true rfl) ?_
  show er_WP K mi_Y_putInOrder 0 0 er_SH m 0 [some (.inr y), some (.inr 2), none] [] _
  refine er_aload_n rfl rfl d_Y_putInOrder_0 ?_
  refine er_iconst d_Y_putInOrder_1 ?_
  refine er_putIE 2 rfl fl_Y_19 (shY_0 hy) (by decide) rfl d_Y_putInOrder_2 (fun m1 hm => ?_)
  have h := h m1 hm
  refine er_aload_n rfl rfl d_Y_putInOrder_5 ?_
  refine er_getIE 0 rfl fl_Y_9 (shY_0 hy) (by decide) rfl d_Y_putInOrder_6 ?_
  obtain ⟨a2, h⟩ := h
  refine er_if_ne (tgt := 20) (by decide) a2 d_Y_putInOrder_9 (fun c3 => ?_) (fun c3 => ?_)
  · have h := h.1 c3
    refine er_aload_n rfl rfl d_Y_putInOrder_20 ?_
    refine er_getIE 0 rfl fl_Y_9 (shY_0 hy) (by decide) rfl d_Y_putInOrder_21 ?_
    refine er_iconst d_Y_putInOrder_24 ?_
    refine er_icmp_ne (tgt := 36) (by decide) a2 (by decide) d_Y_putInOrder_25 (fun c4 => ?_) (fun c4 => ?_)
    · have h := h.1 c4
      refine er_iconst d_Y_putInOrder_36 ?_
      refine er_istE 2 rfl (Nat.le_of_ble_eq_true rfl) (ls2 := [some (.inr y), some (.inr 2), some (.inl 0)]) rfl d_Y_putInOrder_37 ?_
      exact er_forget [some (.inr y), some (.inr 2), some (.inl 0)] (And.intro rfl (And.intro rfl (And.intro rfl trivial))) h
    · have h := h.2 c4
      refine er_aload_n rfl rfl d_Y_putInOrder_28 ?_
      refine er_aload_n rfl rfl d_Y_putInOrder_29 ?_
      refine er_cVV (As := [.inr 2]) (st := []) ml_Y_88 mw_Y_addByColumns md_Y_addByColumns ⟨rfl, rfl⟩ rfl (Nat.le_of_ble_eq_true rfl) (shY_0 hy) rfl ⟨(Nat.le_of_ble_eq_true rfl), (Nat.le_of_ble_eq_true rfl)⟩ rfl d_Y_putInOrder_30 h (fun m5 h => ?_)
      refine er_goto (tgt := 69) (by decide) d_Y_putInOrder_33 ?_
      exact er_vretE rfl rfl d_Y_putInOrder_69 h
  · have h := h.2 c3
    refine er_aload_n rfl rfl d_Y_putInOrder_12 ?_
    refine er_aload_n rfl rfl d_Y_putInOrder_13 ?_
    refine er_cVV (As := [.inr 2]) (st := []) ml_Y_85 mw_Y_addByRows md_Y_addByRows ⟨rfl, rfl⟩ rfl (Nat.le_of_ble_eq_true rfl) (shY_0 hy) rfl ⟨(Nat.le_of_ble_eq_true rfl), (Nat.le_of_ble_eq_true rfl)⟩ rfl d_Y_putInOrder_14 h (fun m6 h => ?_)
    refine er_goto (tgt := 69) (by decide) d_Y_putInOrder_17 ?_
    exact er_vretE rfl rfl d_Y_putInOrder_69 h
def wp_Y_addByRows_2 (K : er_K) (y : Nat) (x2 : Int) (m : er_M) (Q : er_M → Prop) : Prop := er_WP K mi_Y_addByRows 0 0 er_SH m 2 [some (.inr y), some (.inr 2), some (.inl x2), none] [] (er_Z K mi_Y_addByRows (er_PV Q))
def wp_Y_addByRows_12 (K : er_K) (y : Nat) (x2 : Int) (x3 : Int) (m : er_M) (Q : er_M → Prop) : Prop := er_WP K mi_Y_addByRows 0 0 er_SH m 12 [some (.inr y), some (.inr 2), some (.inl x2), some (.inl x3)] [] (er_Z K mi_Y_addByRows (er_PV Q))
theorem vc_Y_addByRows_2 {K : er_K} {y : Nat} {x2 : Int} {m : er_M} {Q : er_M → Prop} (hy : er_isY y) (h : (er_in x2) ∧ (er_in (m 2 0)) ∧ ((((m 2 0) ≤ x2 → Q m) ∧ (x2 < (m 2 0) → wp_Y_addByRows_12 K y x2 0 m Q)))) : wp_Y_addByRows_2 K y x2 m Q := by
  show er_WP K mi_Y_addByRows 0 0 er_SH m 2 [some (.inr y), some (.inr 2), some (.inl x2), none] [] _
  refine er_iload_n rfl rfl d_Y_addByRows_2 ?_
  refine er_aload_n rfl rfl d_Y_addByRows_3 ?_
  refine er_getIE 0 rfl fl_Y_95 sh_2 (by decide) rfl d_Y_addByRows_4 ?_
  obtain ⟨a1, a2, h⟩ := h
  refine er_icmp_ge (tgt := 38) (by decide) a1 a2 d_Y_addByRows_7 (fun c3 => ?_) (fun c3 => ?_)
  · have h := h.1 c3
    exact er_vretE rfl rfl d_Y_addByRows_38 h
  · have h := h.2 c3
    refine er_iconst d_Y_addByRows_10 ?_
    refine er_istE 3 rfl (Nat.le_of_ble_eq_true rfl) (ls2 := [some (.inr y), some (.inr 2), some (.inl x2), some (.inl 0)]) rfl d_Y_addByRows_11 ?_
    exact er_forget [some (.inr y), some (.inr 2), some (.inl x2), some (.inl 0)] (And.intro rfl (And.intro rfl (And.intro rfl (And.intro rfl trivial)))) h
theorem vc_Y_addByRows_12 {K : er_K} {y : Nat} {x2 : Int} {x3 : Int} {m : er_M} {Q : er_M → Prop} (hy : er_isY y) (h : (er_in x3) ∧ (er_in (m 2 1)) ∧ ((((m 2 1) ≤ x3 → wp_Y_addByRows_2 K y (x2 + 1) m Q) ∧ (x3 < (m 2 1) → er_SV K mi_Y_addPlace [.inr y, .inl x2, .inl x3] m (fun m4 => wp_Y_addByRows_12 K y x2 (x3 + 1) m4 Q))))) : wp_Y_addByRows_12 K y x2 x3 m Q := by
  show er_WP K mi_Y_addByRows 0 0 er_SH m 12 [some (.inr y), some (.inr 2), some (.inl x2), some (.inl x3)] [] _
  refine er_iload_n rfl rfl d_Y_addByRows_12 ?_
  refine er_aload_n rfl rfl d_Y_addByRows_13 ?_
  refine er_getIE 1 rfl fl_Y_98 sh_2 (by decide) rfl d_Y_addByRows_14 ?_
  obtain ⟨a1, a2, h⟩ := h
  refine er_icmp_ge (tgt := 32) (by decide) a1 a2 d_Y_addByRows_17 (fun c3 => ?_) (fun c3 => ?_)
  · have h := h.1 c3
    refine er_incE (ls2 := [some (.inr y), some (.inr 2), some (.inl (x2 + 1)), some (.inl x3)]) rfl (Nat.le_of_ble_eq_true rfl) rfl d_Y_addByRows_32 ?_
    refine er_goto (tgt := 2) (by decide) d_Y_addByRows_35 ?_
    exact er_forget [some (.inr y), some (.inr 2), some (.inl (x2 + 1)), none] (And.intro rfl (And.intro rfl (And.intro rfl trivial))) h
  · have h := h.2 c3
    refine er_aload_n rfl rfl d_Y_addByRows_20 ?_
    refine er_iload_n rfl rfl d_Y_addByRows_21 ?_
    refine er_iload_n rfl rfl d_Y_addByRows_22 ?_
    refine er_cVV (As := [.inl x2, .inl x3]) (st := []) ml_Y_101 mw_Y_addPlace md_Y_addPlace ⟨rfl, rfl⟩ rfl (Nat.le_of_ble_eq_true rfl) (shY_0 hy) rfl ⟨(Nat.le_of_ble_eq_true rfl), (Nat.le_of_ble_eq_true rfl)⟩ rfl d_Y_addByRows_23 h (fun m4 h => ?_)
    refine er_incE (ls2 := [some (.inr y), some (.inr 2), some (.inl x2), some (.inl (x3 + 1))]) rfl (Nat.le_of_ble_eq_true rfl) rfl d_Y_addByRows_26 ?_
    refine er_goto (tgt := 12) (by decide) d_Y_addByRows_29 ?_
    exact er_forget [some (.inr y), some (.inr 2), some (.inl x2), some (.inl (x3 + 1))] (And.intro rfl (And.intro rfl (And.intro rfl (And.intro rfl trivial)))) h
theorem vc_Y_addByRows {K : er_K} {y : Nat} {m : er_M} {Q : er_M → Prop} (hy : er_isY y) (h : wp_Y_addByRows_2 K y 0 m Q) : er_SV K mi_Y_addByRows [.inr y, .inr 2] m Q := by
  refine er_start (by decide) (Nat.le_of_ble_eq_true rfl) ?_
  show er_WP K mi_Y_addByRows 0 0 er_SH m 0 [some (.inr y), some (.inr 2), none, none] [] _
  refine er_iconst d_Y_addByRows_0 ?_
  refine er_istE 2 rfl (Nat.le_of_ble_eq_true rfl) (ls2 := [some (.inr y), some (.inr 2), some (.inl 0), none]) rfl d_Y_addByRows_1 ?_
  exact er_forget [some (.inr y), some (.inr 2), some (.inl 0), none] (And.intro rfl (And.intro rfl (And.intro rfl trivial))) h
def wp_Y_addByColumns_2 (K : er_K) (y : Nat) (x2 : Int) (m : er_M) (Q : er_M → Prop) : Prop := er_WP K mi_Y_addByColumns 0 0 er_SH m 2 [some (.inr y), some (.inr 2), some (.inl x2), none] [] (er_Z K mi_Y_addByColumns (er_PV Q))
def wp_Y_addByColumns_12 (K : er_K) (y : Nat) (x2 : Int) (x3 : Int) (m : er_M) (Q : er_M → Prop) : Prop := er_WP K mi_Y_addByColumns 0 0 er_SH m 12 [some (.inr y), some (.inr 2), some (.inl x2), some (.inl x3)] [] (er_Z K mi_Y_addByColumns (er_PV Q))
theorem vc_Y_addByColumns_2 {K : er_K} {y : Nat} {x2 : Int} {m : er_M} {Q : er_M → Prop} (hy : er_isY y) (h : (er_in x2) ∧ (er_in (m 2 1)) ∧ ((((m 2 1) ≤ x2 → Q m) ∧ (x2 < (m 2 1) → wp_Y_addByColumns_12 K y x2 0 m Q)))) : wp_Y_addByColumns_2 K y x2 m Q := by
  show er_WP K mi_Y_addByColumns 0 0 er_SH m 2 [some (.inr y), some (.inr 2), some (.inl x2), none] [] _
  refine er_iload_n rfl rfl d_Y_addByColumns_2 ?_
  refine er_aload_n rfl rfl d_Y_addByColumns_3 ?_
  refine er_getIE 1 rfl fl_Y_98 sh_2 (by decide) rfl d_Y_addByColumns_4 ?_
  obtain ⟨a1, a2, h⟩ := h
  refine er_icmp_ge (tgt := 38) (by decide) a1 a2 d_Y_addByColumns_7 (fun c3 => ?_) (fun c3 => ?_)
  · have h := h.1 c3
    exact er_vretE rfl rfl d_Y_addByColumns_38 h
  · have h := h.2 c3
    refine er_iconst d_Y_addByColumns_10 ?_
    refine er_istE 3 rfl (Nat.le_of_ble_eq_true rfl) (ls2 := [some (.inr y), some (.inr 2), some (.inl x2), some (.inl 0)]) rfl d_Y_addByColumns_11 ?_
    exact er_forget [some (.inr y), some (.inr 2), some (.inl x2), some (.inl 0)] (And.intro rfl (And.intro rfl (And.intro rfl (And.intro rfl trivial)))) h
theorem vc_Y_addByColumns_12 {K : er_K} {y : Nat} {x2 : Int} {x3 : Int} {m : er_M} {Q : er_M → Prop} (hy : er_isY y) (h : (er_in x3) ∧ (er_in (m 2 0)) ∧ ((((m 2 0) ≤ x3 → wp_Y_addByColumns_2 K y (x2 + 1) m Q) ∧ (x3 < (m 2 0) → er_SV K mi_Y_addPlace [.inr y, .inl x3, .inl x2] m (fun m4 => wp_Y_addByColumns_12 K y x2 (x3 + 1) m4 Q))))) : wp_Y_addByColumns_12 K y x2 x3 m Q := by
  show er_WP K mi_Y_addByColumns 0 0 er_SH m 12 [some (.inr y), some (.inr 2), some (.inl x2), some (.inl x3)] [] _
  refine er_iload_n rfl rfl d_Y_addByColumns_12 ?_
  refine er_aload_n rfl rfl d_Y_addByColumns_13 ?_
  refine er_getIE 0 rfl fl_Y_95 sh_2 (by decide) rfl d_Y_addByColumns_14 ?_
  obtain ⟨a1, a2, h⟩ := h
  refine er_icmp_ge (tgt := 32) (by decide) a1 a2 d_Y_addByColumns_17 (fun c3 => ?_) (fun c3 => ?_)
  · have h := h.1 c3
    refine er_incE (ls2 := [some (.inr y), some (.inr 2), some (.inl (x2 + 1)), some (.inl x3)]) rfl (Nat.le_of_ble_eq_true rfl) rfl d_Y_addByColumns_32 ?_
    refine er_goto (tgt := 2) (by decide) d_Y_addByColumns_35 ?_
    exact er_forget [some (.inr y), some (.inr 2), some (.inl (x2 + 1)), none] (And.intro rfl (And.intro rfl (And.intro rfl trivial))) h
  · have h := h.2 c3
    refine er_aload_n rfl rfl d_Y_addByColumns_20 ?_
    refine er_iload_n rfl rfl d_Y_addByColumns_21 ?_
    refine er_iload_n rfl rfl d_Y_addByColumns_22 ?_
    refine er_cVV (As := [.inl x3, .inl x2]) (st := []) ml_Y_101 mw_Y_addPlace md_Y_addPlace ⟨rfl, rfl⟩ rfl (Nat.le_of_ble_eq_true rfl) (shY_0 hy) rfl ⟨(Nat.le_of_ble_eq_true rfl), (Nat.le_of_ble_eq_true rfl)⟩ rfl d_Y_addByColumns_23 h (fun m4 h => ?_)
    refine er_incE (ls2 := [some (.inr y), some (.inr 2), some (.inl x2), some (.inl (x3 + 1))]) rfl (Nat.le_of_ble_eq_true rfl) rfl d_Y_addByColumns_26 ?_
    refine er_goto (tgt := 12) (by decide) d_Y_addByColumns_29 ?_
    exact er_forget [some (.inr y), some (.inr 2), some (.inl x2), some (.inl (x3 + 1))] (And.intro rfl (And.intro rfl (And.intro rfl (And.intro rfl trivial)))) h
theorem vc_Y_addByColumns {K : er_K} {y : Nat} {m : er_M} {Q : er_M → Prop} (hy : er_isY y) (h : wp_Y_addByColumns_2 K y 0 m Q) : er_SV K mi_Y_addByColumns [.inr y, .inr 2] m Q := by
  refine er_start (by decide) (Nat.le_of_ble_eq_true rfl) ?_
  show er_WP K mi_Y_addByColumns 0 0 er_SH m 0 [some (.inr y), some (.inr 2), none, none] [] _
  refine er_iconst d_Y_addByColumns_0 ?_
  refine er_istE 2 rfl (Nat.le_of_ble_eq_true rfl) (ls2 := [some (.inr y), some (.inr 2), some (.inl 0), none]) rfl d_Y_addByColumns_1 ?_
  exact er_forget [some (.inr y), some (.inr 2), some (.inl 0), none] (And.intro rfl (And.intro rfl (And.intro rfl trivial))) h
def wp_Y_addRing_2 (K : er_K) (y : Nat) (x2 : Int) (x3 : Int) (m : er_M) (Q : er_M → Prop) : Prop := er_WP K mi_Y_addRing 0 0 er_SH m 2 [some (.inr y), some (.inr 2), some (.inl x2), some (.inl x3), none] [] (er_Z K mi_Y_addRing (er_PV Q))
def wp_Y_addRing_13 (K : er_K) (y : Nat) (x2 : Int) (x3 : Int) (x4 : Int) (m : er_M) (Q : er_M → Prop) : Prop := er_WP K mi_Y_addRing 0 0 er_SH m 13 [some (.inr y), some (.inr 2), some (.inl x2), some (.inl x3), some (.inl x4)] [] (er_Z K mi_Y_addRing (er_PV Q))
theorem vc_Y_addRing_2 {K : er_K} {y : Nat} {x2 : Int} {x3 : Int} {m : er_M} {Q : er_M → Prop} (hy : er_isY y) (h : (er_in x3) ∧ (er_in (m 2 0)) ∧ ((((m 2 0) ≤ x3 → Q m) ∧ (x3 < (m 2 0) → wp_Y_addRing_13 K y x2 x3 0 m Q)))) : wp_Y_addRing_2 K y x2 x3 m Q := by
  show er_WP K mi_Y_addRing 0 0 er_SH m 2 [some (.inr y), some (.inr 2), some (.inl x2), some (.inl x3), none] [] _
  refine er_iload_n rfl rfl d_Y_addRing_2 ?_
  refine er_aload_n rfl rfl d_Y_addRing_3 ?_
  refine er_getIE 0 rfl fl_Y_95 sh_2 (by decide) rfl d_Y_addRing_4 ?_
  obtain ⟨a1, a2, h⟩ := h
  refine er_icmp_ge (tgt := 52) (by decide) a1 a2 d_Y_addRing_7 (fun c3 => ?_) (fun c3 => ?_)
  · have h := h.1 c3
    exact er_vretE rfl rfl d_Y_addRing_52 h
  · have h := h.2 c3
    refine er_iconst d_Y_addRing_10 ?_
    refine er_istF (Nat.le_of_ble_eq_true rfl) (ls2 := [some (.inr y), some (.inr 2), some (.inl x2), some (.inl x3), some (.inl 0)]) rfl d_Y_addRing_11 ?_
    exact er_forget [some (.inr y), some (.inr 2), some (.inl x2), some (.inl x3), some (.inl 0)] (And.intro rfl (And.intro rfl (And.intro rfl (And.intro rfl (And.intro rfl trivial))))) h
theorem vc_Y_addRing_13 {K : er_K} {y : Nat} {x2 : Int} {x3 : Int} {x4 : Int} {m : er_M} {Q : er_M → Prop} (hy : er_isY y) (h : (er_in x4) ∧ (er_in (m 2 1)) ∧ ((((m 2 1) ≤ x4 → wp_Y_addRing_2 K y x2 (x3 + 1) m Q) ∧ (x4 < (m 2 1) → er_SI K mi_Y_ringOf [.inr 2, .inl x3, .inl x4] m (fun v5 m4 => (er_in v5) ∧ (er_in x2) ∧ (((v5 ≠ x2 → wp_Y_addRing_13 K y x2 x3 (x4 + 1) m4 Q) ∧ (v5 = x2 → er_SV K mi_Y_addPlace [.inr y, .inl x3, .inl x4] m4 (fun m9 => wp_Y_addRing_13 K y x2 x3 (x4 + 1) m9 Q))))))))) : wp_Y_addRing_13 K y x2 x3 x4 m Q := by
  show er_WP K mi_Y_addRing 0 0 er_SH m 13 [some (.inr y), some (.inr 2), some (.inl x2), some (.inl x3), some (.inl x4)] [] _
  refine er_iload rfl d_Y_addRing_13 ?_
  refine er_aload_n rfl rfl d_Y_addRing_15 ?_
  refine er_getIE 1 rfl fl_Y_98 sh_2 (by decide) rfl d_Y_addRing_16 ?_
  obtain ⟨a1, a2, h⟩ := h
  refine er_icmp_ge (tgt := 46) (by decide) a1 a2 d_Y_addRing_19 (fun c3 => ?_) (fun c3 => ?_)
  · have h := h.1 c3
    refine er_incE (ls2 := [some (.inr y), some (.inr 2), some (.inl x2), some (.inl (x3 + 1)), some (.inl x4)]) rfl (Nat.le_of_ble_eq_true rfl) rfl d_Y_addRing_46 ?_
    refine er_goto (tgt := 2) (by decide) d_Y_addRing_49 ?_
    exact er_forget [some (.inr y), some (.inr 2), some (.inl x2), some (.inl (x3 + 1)), none] (And.intro rfl (And.intro rfl (And.intro rfl (And.intro rfl trivial)))) h
  · have h := h.2 c3
    refine er_aload_n rfl rfl d_Y_addRing_22 ?_
    refine er_iload_n rfl rfl d_Y_addRing_23 ?_
    refine er_iload rfl d_Y_addRing_24 ?_
    refine er_cS (As := [.inr 2, .inl x3, .inl x4]) (st := []) ml_Y_104 rfl mw_Y_ringOf md_Y_ringOf ⟨rfl, rfl⟩ rfl (Nat.le_of_ble_eq_true rfl) ⟨(Nat.le_of_ble_eq_true rfl), (Nat.le_of_ble_eq_true rfl)⟩ rfl d_Y_addRing_26 h (fun v5 m4 h => ?_)
    refine er_iload_n rfl rfl d_Y_addRing_29 ?_
    obtain ⟨a6, a7, h⟩ := h
    refine er_icmp_ne (tgt := 40) (by decide) a6 a7 d_Y_addRing_30 (fun c8 => ?_) (fun c8 => ?_)
    · have h := h.1 c8
      refine er_incE (ls2 := [some (.inr y), some (.inr 2), some (.inl x2), some (.inl x3), some (.inl (x4 + 1))]) rfl (Nat.le_of_ble_eq_true rfl) rfl d_Y_addRing_40 ?_
      refine er_goto (tgt := 13) (by decide) d_Y_addRing_43 ?_
      exact er_forget [some (.inr y), some (.inr 2), some (.inl x2), some (.inl x3), some (.inl (x4 + 1))] (And.intro rfl (And.intro rfl (And.intro rfl (And.intro rfl (And.intro rfl trivial))))) h
    · have h := h.2 c8
      refine er_aload_n rfl rfl d_Y_addRing_33 ?_
      refine er_iload_n rfl rfl d_Y_addRing_34 ?_
      refine er_iload rfl d_Y_addRing_35 ?_
      refine er_cVV (As := [.inl x3, .inl x4]) (st := []) ml_Y_101 mw_Y_addPlace md_Y_addPlace ⟨rfl, rfl⟩ rfl (Nat.le_of_ble_eq_true rfl) (shY_0 hy) rfl ⟨(Nat.le_of_ble_eq_true rfl), (Nat.le_of_ble_eq_true rfl)⟩ rfl d_Y_addRing_37 h (fun m9 h => ?_)
      refine er_incE (ls2 := [some (.inr y), some (.inr 2), some (.inl x2), some (.inl x3), some (.inl (x4 + 1))]) rfl (Nat.le_of_ble_eq_true rfl) rfl d_Y_addRing_40 ?_
      refine er_goto (tgt := 13) (by decide) d_Y_addRing_43 ?_
      exact er_forget [some (.inr y), some (.inr 2), some (.inl x2), some (.inl x3), some (.inl (x4 + 1))] (And.intro rfl (And.intro rfl (And.intro rfl (And.intro rfl (And.intro rfl trivial))))) h
theorem vc_Y_addRing {K : er_K} {y : Nat} {p2 : Int} {m : er_M} {Q : er_M → Prop} (hy : er_isY y) (h : wp_Y_addRing_2 K y p2 0 m Q) : er_SV K mi_Y_addRing [.inr y, .inr 2, .inl p2] m Q := by
  refine er_start (by decide) (Nat.le_of_ble_eq_true rfl) ?_
  show er_WP K mi_Y_addRing 0 0 er_SH m 0 [some (.inr y), some (.inr 2), some (.inl p2), none, none] [] _
  refine er_iconst d_Y_addRing_0 ?_
  refine er_istE 3 rfl (Nat.le_of_ble_eq_true rfl) (ls2 := [some (.inr y), some (.inr 2), some (.inl p2), some (.inl 0), none]) rfl d_Y_addRing_1 ?_
  exact er_forget [some (.inr y), some (.inr 2), some (.inl p2), some (.inl 0), none] (And.intro rfl (And.intro rfl (And.intro rfl (And.intro rfl trivial)))) h
theorem vc_Y_ringOf {K : er_K} {p1 p2 : Int} {m : er_M} {Q : Int → er_M → Prop}  (h : (er_in p1) ∧ (er_in (((m 2 0) - 1) - p1)) ∧ ((er_in p2) ∧ (er_in (((m 2 1) - 1) - p2)) ∧ ((er_in (min p1 (((m 2 0) - 1) - p1))) ∧ (er_in (min p2 (((m 2 1) - 1) - p2))) ∧ (Q (min (min p1 (((m 2 0) - 1) - p1)) (min p2 (((m 2 1) - 1) - p2))) m)))) : er_SI K mi_Y_ringOf [.inr 2, .inl p1, .inl p2] m Q := by
  refine er_start (by decide) (Nat.le_of_ble_eq_true rfl) ?_
  show er_WP K mi_Y_ringOf 0 0 er_SH m 0 [some (.inr 2), some (.inl p1), some (.inl p2), none, none] [] _
  refine er_iload_n rfl rfl d_Y_ringOf_0 ?_
  refine er_aload_n rfl rfl d_Y_ringOf_1 ?_
  refine er_getIE 0 rfl fl_Y_95 sh_2 (by decide) rfl d_Y_ringOf_2 ?_
  refine er_iconst d_Y_ringOf_5 ?_
  refine er_isub d_Y_ringOf_6 ?_
  refine er_iload_n rfl rfl d_Y_ringOf_7 ?_
  refine er_isub d_Y_ringOf_8 ?_
  obtain ⟨a1, a2, h⟩ := h
  refine er_min mm_Y_108 a1 a2 (Nat.le_of_ble_eq_true rfl) ⟨(Nat.le_of_ble_eq_true rfl), (Nat.le_of_ble_eq_true rfl)⟩ ⟨Nat.zero_le _, Nat.zero_le _⟩ d_Y_ringOf_9 ?_
  refine er_istE 3 rfl (Nat.le_of_ble_eq_true rfl) (ls2 := [some (.inr 2), some (.inl p1), some (.inl p2), some (.inl (min p1 (((m 2 0) - 1) - p1))), none]) rfl d_Y_ringOf_12 ?_
  refine er_iload_n rfl rfl d_Y_ringOf_13 ?_
  refine er_aload_n rfl rfl d_Y_ringOf_14 ?_
  refine er_getIE 1 rfl fl_Y_98 sh_2 (by decide) rfl d_Y_ringOf_15 ?_
  refine er_iconst d_Y_ringOf_18 ?_
  refine er_isub d_Y_ringOf_19 ?_
  refine er_iload_n rfl rfl d_Y_ringOf_20 ?_
  refine er_isub d_Y_ringOf_21 ?_
  obtain ⟨a3, a4, h⟩ := h
  refine er_min mm_Y_108 a3 a4 (Nat.le_of_ble_eq_true rfl) ⟨(Nat.le_of_ble_eq_true rfl), (Nat.le_of_ble_eq_true rfl)⟩ ⟨Nat.zero_le _, Nat.zero_le _⟩ d_Y_ringOf_22 ?_
  refine er_istF (Nat.le_of_ble_eq_true rfl) (ls2 := [some (.inr 2), some (.inl p1), some (.inl p2), some (.inl (min p1 (((m 2 0) - 1) - p1))), some (.inl (min p2 (((m 2 1) - 1) - p2)))]) rfl d_Y_ringOf_25 ?_
  refine er_iload_n rfl rfl d_Y_ringOf_27 ?_
  refine er_iload rfl d_Y_ringOf_28 ?_
  obtain ⟨a5, a6, h⟩ := h
  refine er_min mm_Y_108 a5 a6 (Nat.le_of_ble_eq_true rfl) ⟨(Nat.le_of_ble_eq_true rfl), (Nat.le_of_ble_eq_true rfl)⟩ ⟨Nat.zero_le _, Nat.zero_le _⟩ d_Y_ringOf_30 ?_
  exact er_iretE rfl rfl d_Y_ringOf_33 h
theorem vc_Y_addPlace {K : er_K} {y : Nat} {p1 p2 : Int} {m : er_M} {Q : er_M → Prop} (hy : er_isY y) (h : (er_in (m y 2)) ∧ (((36 ≤ (m y 2) → Q m) ∧ ((m y 2) < 36 → er_SI K mi_R_placeOf [.inl p1, .inl p2] m (fun v4 m3 => (0 ≤ (m y 2)) ∧ ((m y 2) < 36) ∧ (∀ m7 : er_M, m7 = er_st m3 (y + 1) (m y 2) v4 → ∀ m8 : er_M, m8 = er_st m7 y 2 ((m7 y 2) + 1) → Q m8)))))) : er_SV K mi_Y_addPlace [.inr y, .inl p1, .inl p2] m Q := by
  refine er_start (by decide) (Nat.le_of_ble_eq_true rfl) ?_
  show er_WP K mi_Y_addPlace 0 0 er_SH m 0 [some (.inr y), some (.inl p1), some (.inl p2)] [] _
  refine er_aload_n rfl rfl d_Y_addPlace_0 ?_
  refine er_getIE 2 rfl fl_Y_19 (shY_0 hy) (by decide) rfl d_Y_addPlace_1 ?_
  refine er_bipush (by decide) d_Y_addPlace_4 ?_
  obtain ⟨a1, h⟩ := h
  refine er_icmp_ge (tgt := 33) (by decide) a1 (by decide) d_Y_addPlace_6 (fun c2 => ?_) (fun c2 => ?_)
  · have h := h.1 c2
    exact er_vretE rfl rfl d_Y_addPlace_33 h
  · have h := h.2 c2
    refine er_aload_n rfl rfl d_Y_addPlace_9 ?_
    refine er_getR fl_Y_15 (shY_0 hy) (by decide) rfl (Nat.succ_ne_zero _) d_Y_addPlace_10 ?_
    refine er_aload_n rfl rfl d_Y_addPlace_13 ?_
    refine er_getIE 2 rfl fl_Y_19 (shY_0 hy) (by decide) rfl d_Y_addPlace_14 ?_
    refine er_iload_n rfl rfl d_Y_addPlace_17 ?_
    refine er_iload_n rfl rfl d_Y_addPlace_18 ?_
    refine er_cN (As := [.inl p1, .inl p2]) (st := [.inl (m y 2), .inr (y + 1)]) ml_Y_114 mw_R_placeOf md_R_placeOf ⟨rfl, rfl⟩ rfl (Nat.le_of_ble_eq_true rfl) ⟨(Nat.le_of_ble_eq_true rfl), (Nat.le_of_ble_eq_true rfl)⟩ rfl d_Y_addPlace_19 h (fun v4 m3 h => ?_)
    obtain ⟨a5, a6, h⟩ := h
    refine er_iastE (shY_1 hy) (by decide) a5 a6 d_Y_addPlace_22 (fun m7 hm => ?_)
    have h := h m7 hm
    refine er_aload_n rfl rfl d_Y_addPlace_23 ?_
    refine er_dup d_Y_addPlace_24 ?_
    refine er_getIE 2 rfl fl_Y_19 (shY_0 hy) (by decide) rfl d_Y_addPlace_25 ?_
    refine er_iconst d_Y_addPlace_28 ?_
    refine er_iadd d_Y_addPlace_29 ?_
    refine er_putIE 2 rfl fl_Y_19 (shY_0 hy) (by decide) rfl d_Y_addPlace_30 (fun m8 hm => ?_)
    have h := h m8 hm
    exact er_vretE rfl rfl d_Y_addPlace_33 h
