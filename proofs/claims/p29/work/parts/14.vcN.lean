/-! conditions of the walks: printed by wip/whole/gen13.py -/
def wp_N_build_8 (K : er_K) (n o : Nat) (x3 : Int) (x4 : Int) (m : er_M) (Q : er_M → Prop) : Prop := er_WP K mi_N_build 0 0 er_SH m 8 [some (.inr n), some (.inr 2), some (.inr o), some (.inl x3), some (.inl x4)] [] (er_Z K mi_N_build (er_PV Q))
def wp_N_build_33 (K : er_K) (n o : Nat) (x3 : Int) (x4 : Int) (m : er_M) (Q : er_M → Prop) : Prop := er_WP K mi_N_build 0 0 er_SH m 33 [some (.inr n), some (.inr 2), some (.inr o), some (.inl x3), some (.inl x4)] [] (er_Z K mi_N_build (er_PV Q))
theorem vc_N_build_8 {K : er_K} {n o : Nat} {x3 : Int} {x4 : Int} {m : er_M} {Q : er_M → Prop} (hn : er_isN n) (ho : er_isO o) (h : (er_in x4) ∧ (((136 ≤ x4 → wp_N_build_33 K n o x3 0 m Q) ∧ (x4 < 136 → (0 ≤ x4) ∧ (x4 < 136) ∧ (∀ m5 : er_M, m5 = er_st m (n + 1) x4 (-1) → wp_N_build_8 K n o x3 (x4 + 1) m5 Q))))) : wp_N_build_8 K n o x3 x4 m Q := by
  show er_WP K mi_N_build 0 0 er_SH m 8 [some (.inr n), some (.inr 2), some (.inr o), some (.inl x3), some (.inl x4)] [] _
  refine er_iload rfl d_N_build_8 ?_
  refine er_sipush (by decide) d_N_build_10 ?_
  obtain ⟨a1, h⟩ := h
  refine er_icmp_ge (tgt := 30) (by decide) a1 (by decide) d_N_build_13 (fun c2 => ?_) (fun c2 => ?_)
  · have h := h.1 c2
    refine er_iconst d_N_build_30 ?_
    refine er_istF (Nat.le_of_ble_eq_true rfl) (ls2 := [some (.inr n), some (.inr 2), some (.inr o), some (.inl x3), some (.inl 0)]) rfl d_N_build_31 ?_
    exact er_forget [some (.inr n), some (.inr 2), some (.inr o), some (.inl x3), some (.inl 0)] (And.intro rfl (And.intro rfl (And.intro rfl (And.intro rfl (And.intro rfl trivial))))) h
  · have h := h.2 c2
    refine er_aload_n rfl rfl d_N_build_16 ?_
    refine er_getR fl_N_11 (shN_0 hn) (by decide) rfl (Nat.succ_ne_zero _) d_N_build_17 ?_
    refine er_iload rfl d_N_build_20 ?_
    refine er_iconst d_N_build_22 ?_
    obtain ⟨a3, a4, h⟩ := h
    refine er_iastE (shN_1 hn) (by decide) a3 a4 d_N_build_23 (fun m5 hm => ?_)
    have h := h m5 hm
    refine er_incE (ls2 := [some (.inr n), some (.inr 2), some (.inr o), some (.inl x3), some (.inl (x4 + 1))]) rfl (Nat.le_of_ble_eq_true rfl) rfl d_N_build_24 ?_
    refine er_goto (tgt := 8) (by decide) d_N_build_27 ?_
    exact er_forget [some (.inr n), some (.inr 2), some (.inr o), some (.inl x3), some (.inl (x4 + 1))] (And.intro rfl (And.intro rfl (And.intro rfl (And.intro rfl (And.intro rfl trivial))))) h
theorem vc_N_build_33 {K : er_K} {n o : Nat} {x3 : Int} {x4 : Int} {m : er_M} {Q : er_M → Prop} (hn : er_isN n) (ho : er_isO o) (h : (er_in x4) ∧ (((36 ≤ x4 → er_SV K mi_N_connectPins [.inr n, .inr 2, .inl x3] m (fun m3 => er_SV K mi_N_connectTiles [.inr n, .inr 2] m3 (fun m4 => ∀ m5 : er_M, m5 = er_st m4 n 9 (m4 n 8) → er_SV K mi_N_connectChannels [.inr n, .inr 2, .inr o] m5 (fun m6 => Q m6)))) ∧ (x4 < 36 → er_SV K mi_N_connect [.inr n, .inl 0, .inl (2 + x4), .inl 0] m (fun m7 => wp_N_build_33 K n o x3 (x4 + 1) m7 Q))))) : wp_N_build_33 K n o x3 x4 m Q := by
  show er_WP K mi_N_build 0 0 er_SH m 33 [some (.inr n), some (.inr 2), some (.inr o), some (.inl x3), some (.inl x4)] [] _
  refine er_iload rfl d_N_build_33 ?_
  refine er_bipush (by decide) d_N_build_35 ?_
  obtain ⟨a1, h⟩ := h
  refine er_icmp_ge (tgt := 56) (by decide) a1 (by decide) d_N_build_37 (fun c2 => ?_) (fun c2 => ?_)
  · have h := h.1 c2
    refine er_aload_n rfl rfl d_N_build_56 ?_
    refine er_aload_n rfl rfl d_N_build_57 ?_
    refine er_iload_n rfl rfl d_N_build_58 ?_
    refine er_cVV (As := [.inr 2, .inl x3]) (st := []) ml_N_50 mw_N_connectPins md_N_connectPins ⟨rfl, rfl⟩ rfl (Nat.le_of_ble_eq_true rfl) (shN_0 hn) rfl ⟨(Nat.le_of_ble_eq_true rfl), (Nat.le_of_ble_eq_true rfl)⟩ rfl d_N_build_59 h (fun m3 h => ?_)
    refine er_aload_n rfl rfl d_N_build_62 ?_
    refine er_aload_n rfl rfl d_N_build_63 ?_
    refine er_cVV (As := [.inr 2]) (st := []) ml_N_54 mw_N_connectTiles md_N_connectTiles ⟨rfl, rfl⟩ rfl (Nat.le_of_ble_eq_true rfl) (shN_0 hn) rfl ⟨(Nat.le_of_ble_eq_true rfl), (Nat.le_of_ble_eq_true rfl)⟩ rfl d_N_build_64 h (fun m4 h => ?_)
    refine er_aload_n rfl rfl d_N_build_67 ?_
    refine er_aload_n rfl rfl d_N_build_68 ?_
    refine er_getIE 8 rfl fl_N_36 (shN_0 hn) (by decide) rfl d_N_build_69 ?_
    refine er_putIE 9 rfl fl_N_40 (shN_0 hn) (by decide) rfl d_N_build_72 (fun m5 hm => ?_)
    have h := h m5 hm
    refine er_aload_n rfl rfl d_N_build_75 ?_
    refine er_aload_n rfl rfl d_N_build_76 ?_
    refine er_aload_n rfl rfl d_N_build_77 ?_
    refine er_cVV (As := [.inr 2, .inr o]) (st := []) ml_N_58 mw_N_connectChannels md_N_connectChannels ⟨rfl, rfl⟩ rfl (Nat.le_of_ble_eq_true rfl) (shN_0 hn) rfl ⟨(Nat.le_of_ble_eq_true rfl), (Nat.le_of_ble_eq_true rfl)⟩ rfl d_N_build_78 h (fun m6 h => ?_)
    exact er_vretE rfl rfl d_N_build_81 h
  · have h := h.2 c2
    refine er_aload_n rfl rfl d_N_build_40 ?_
    refine er_iconst d_N_build_41 ?_
    refine er_iconst d_N_build_42 ?_
    refine er_iload rfl d_N_build_43 ?_
    refine er_iadd d_N_build_45 ?_
    refine er_iconst d_N_build_46 ?_
    refine er_cVV (As := [.inl 0, .inl (2 + x4), .inl 0]) (st := []) ml_N_46 mw_N_connect md_N_connect ⟨rfl, rfl⟩ rfl (Nat.le_of_ble_eq_true rfl) (shN_0 hn) rfl ⟨(Nat.le_of_ble_eq_true rfl), (Nat.le_of_ble_eq_true rfl)⟩ rfl d_N_build_47 h (fun m7 h => ?_)
    refine er_incE (ls2 := [some (.inr n), some (.inr 2), some (.inr o), some (.inl x3), some (.inl (x4 + 1))]) rfl (Nat.le_of_ble_eq_true rfl) rfl d_N_build_50 ?_
    refine er_goto (tgt := 33) (by decide) d_N_build_53 ?_
    exact er_forget [some (.inr n), some (.inr 2), some (.inr o), some (.inl x3), some (.inl (x4 + 1))] (And.intro rfl (And.intro rfl (And.intro rfl (And.intro rfl (And.intro rfl trivial))))) h
theorem vc_N_build {K : er_K} {n o : Nat} {p3 : Int} {m : er_M} {Q : er_M → Prop} (hn : er_isN n) (ho : er_isO o) (h : ∀ m1 : er_M, m1 = er_st m n 8 0 → wp_N_build_8 K n o p3 0 m1 Q) : er_SV K mi_N_build [.inr n, .inr 2, .inr o, .inl p3] m Q := by
  refine er_start (by decide) (Nat.le_of_ble_eq_true rfl) ?_
  show er_WP K mi_N_build 0 0 er_SH m 0 [some (.inr n), some (.inr 2), some (.inr o), some (.inl p3), none] [] _
  refine er_aload_n rfl rfl d_N_build_0 ?_
  refine er_iconst d_N_build_1 ?_
  refine er_putIE 8 rfl fl_N_36 (shN_0 hn) (by decide) rfl d_N_build_2 (fun m1 hm => ?_)
  have h := h m1 hm
  refine er_iconst d_N_build_5 ?_
  refine er_istF (Nat.le_of_ble_eq_true rfl) (ls2 := [some (.inr n), some (.inr 2), some (.inr o), some (.inl p3), some (.inl 0)]) rfl d_N_build_6 ?_
  exact er_forget [some (.inr n), some (.inr 2), some (.inr o), some (.inl p3), some (.inl 0)] (And.intro rfl (And.intro rfl (And.intro rfl (And.intro rfl (And.intro rfl trivial))))) h
def wp_N_connectPins_2 (K : er_K) (n : Nat) (x2 : Int) (x3 : Int) (m : er_M) (Q : er_M → Prop) : Prop := er_WP K mi_N_connectPins 0 0 er_SH m 2 [some (.inr n), some (.inr 2), some (.inl x2), some (.inl x3), none, none, none] [] (er_Z K mi_N_connectPins (er_PV Q))
def wp_N_connectPins_13 (K : er_K) (n : Nat) (x2 : Int) (x3 : Int) (x4 : Int) (m : er_M) (Q : er_M → Prop) : Prop := er_WP K mi_N_connectPins 0 0 er_SH m 13 [some (.inr n), some (.inr 2), some (.inl x2), some (.inl x3), some (.inl x4), none, none] [] (er_Z K mi_N_connectPins (er_PV Q))
theorem vc_N_connectPins_2 {K : er_K} {n : Nat} {x2 : Int} {x3 : Int} {m : er_M} {Q : er_M → Prop} (hn : er_isN n) (h : (er_in x3) ∧ (er_in (m 2 0)) ∧ ((((m 2 0) ≤ x3 → Q m) ∧ (x3 < (m 2 0) → wp_N_connectPins_13 K n x2 x3 0 m Q)))) : wp_N_connectPins_2 K n x2 x3 m Q := by
  show er_WP K mi_N_connectPins 0 0 er_SH m 2 [some (.inr n), some (.inr 2), some (.inl x2), some (.inl x3), none, none, none] [] _
  refine er_iload_n rfl rfl d_N_connectPins_2 ?_
  refine er_aload_n rfl rfl d_N_connectPins_3 ?_
  refine er_getIE 0 rfl fl_N_62 sh_2 (by decide) rfl d_N_connectPins_4 ?_
  obtain ⟨a1, a2, h⟩ := h
  refine er_icmp_ge (tgt := 131) (by decide) a1 a2 d_N_connectPins_7 (fun c3 => ?_) (fun c3 => ?_)
  · have h := h.1 c3
    exact er_vretE rfl rfl d_N_connectPins_131 h
  · have h := h.2 c3
    refine er_iconst d_N_connectPins_10 ?_
    refine er_istF (Nat.le_of_ble_eq_true rfl) (ls2 := [some (.inr n), some (.inr 2), some (.inl x2), some (.inl x3), some (.inl 0), none, none]) rfl d_N_connectPins_11 ?_
    exact er_forget [some (.inr n), some (.inr 2), some (.inl x2), some (.inl x3), some (.inl 0), none, none] (And.intro rfl (And.intro rfl (And.intro rfl (And.intro rfl (And.intro rfl trivial))))) h
theorem vc_N_connectPins_13 {K : er_K} {n : Nat} {x2 : Int} {x3 : Int} {x4 : Int} {m : er_M} {Q : er_M → Prop} (hn : er_isN n) (h : (er_in x4) ∧ (er_in (m 2 1)) ∧ ((((m 2 1) ≤ x4 → wp_N_connectPins_2 K n x2 (x3 + 1) m Q) ∧ (x4 < (m 2 1) → er_SI K mi_R_placeOf [.inl x3, .inl x4] m (fun v5 m4 => (0 ≤ v5) ∧ (v5 < 36) ∧ ((er_in (m4 3 v5)) ∧ ((((m4 3 v5) ≠ 1 → wp_N_connectPins_13 K n x2 x3 (x4 + 1) m4 Q) ∧ ((m4 3 v5) = 1 → er_SI K mi_R_tileAt [.inl x3, .inl x4] m4 (fun v11 m10 => er_SV K mi_N_connect [.inr n, .inl (2 + v5), .inl (38 + v11), .inl x2] m10 (fun m12 => er_SI K mi_R_tileAt [.inl x3, .inl (x4 + 1)] m12 (fun v14 m13 => er_SV K mi_N_connect [.inr n, .inl (2 + v5), .inl (38 + v14), .inl x2] m13 (fun m15 => er_SI K mi_R_tileAt [.inl (x3 + 1), .inl x4] m15 (fun v17 m16 => er_SV K mi_N_connect [.inr n, .inl (2 + v5), .inl (38 + v17), .inl x2] m16 (fun m18 => er_SI K mi_R_tileAt [.inl (x3 + 1), .inl (x4 + 1)] m18 (fun v20 m19 => er_SV K mi_N_connect [.inr n, .inl (2 + v5), .inl (38 + v20), .inl x2] m19 (fun m21 => wp_N_connectPins_13 K n x2 x3 (x4 + 1) m21 Q))))))))))))))))) : wp_N_connectPins_13 K n x2 x3 x4 m Q := by
  show er_WP K mi_N_connectPins 0 0 er_SH m 13 [some (.inr n), some (.inr 2), some (.inl x2), some (.inl x3), some (.inl x4), none, none] [] _
  refine er_iload rfl d_N_connectPins_13 ?_
  refine er_aload_n rfl rfl d_N_connectPins_15 ?_
  refine er_getIE 1 rfl fl_N_67 sh_2 (by decide) rfl d_N_connectPins_16 ?_
  obtain ⟨a1, a2, h⟩ := h
  refine er_icmp_ge (tgt := 125) (by decide) a1 a2 d_N_connectPins_19 (fun c3 => ?_) (fun c3 => ?_)
  · have h := h.1 c3
    refine er_incE (ls2 := [some (.inr n), some (.inr 2), some (.inl x2), some (.inl (x3 + 1)), some (.inl x4), none, none]) rfl (Nat.le_of_ble_eq_true rfl) rfl d_N_connectPins_125 ?_
    refine er_goto (tgt := 2) (by decide) d_N_connectPins_128 ?_
    exact er_forget [some (.inr n), some (.inr 2), some (.inl x2), some (.inl (x3 + 1)), none, none, none] (And.intro rfl (And.intro rfl (And.intro rfl (And.intro rfl trivial)))) h
  · have h := h.2 c3
    refine er_iload_n rfl rfl d_N_connectPins_22 ?_
    refine er_iload rfl d_N_connectPins_23 ?_
    refine er_cN (As := [.inl x3, .inl x4]) (st := []) ml_N_70 mw_R_placeOf md_R_placeOf ⟨rfl, rfl⟩ rfl (Nat.le_of_ble_eq_true rfl) ⟨(Nat.le_of_ble_eq_true rfl), (Nat.le_of_ble_eq_true rfl)⟩ rfl d_N_connectPins_25 h (fun v5 m4 h => ?_)
    refine er_istF (Nat.le_of_ble_eq_true rfl) (ls2 := [some (.inr n), some (.inr 2), some (.inl x2), some (.inl x3), some (.inl x4), some (.inl v5), none]) rfl d_N_connectPins_28 ?_
    refine er_aload_n rfl rfl d_N_connectPins_30 ?_
    refine er_getR fl_N_74 sh_2 (by decide) rfl (by decide) d_N_connectPins_31 ?_
    refine er_iload rfl d_N_connectPins_34 ?_
    obtain ⟨a6, a7, h⟩ := h
    refine er_iald sh_3 (by decide) a6 a7 d_N_connectPins_36 ?_
    refine er_iconst d_N_connectPins_37 ?_
    obtain ⟨a8, h⟩ := h
    refine er_icmp_ne (tgt := 119) (by decide) a8 (by decide) d_N_connectPins_38 (fun c9 => ?_) (fun c9 => ?_)
    · have h := h.1 c9
      refine er_incE (ls2 := [some (.inr n), some (.inr 2), some (.inl x2), some (.inl x3), some (.inl (x4 + 1)), some (.inl v5), none]) rfl (Nat.le_of_ble_eq_true rfl) rfl d_N_connectPins_119 ?_
      refine er_goto (tgt := 13) (by decide) d_N_connectPins_122 ?_
      exact er_forget [some (.inr n), some (.inr 2), some (.inl x2), some (.inl x3), some (.inl (x4 + 1)), none, none] (And.intro rfl (And.intro rfl (And.intro rfl (And.intro rfl (And.intro rfl trivial))))) h
    · have h := h.2 c9
      refine er_iconst d_N_connectPins_41 ?_
      refine er_iload rfl d_N_connectPins_42 ?_
      refine er_iadd d_N_connectPins_44 ?_
      refine er_istF (Nat.le_of_ble_eq_true rfl) (ls2 := [some (.inr n), some (.inr 2), some (.inl x2), some (.inl x3), some (.inl x4), some (.inl v5), some (.inl (2 + v5))]) rfl d_N_connectPins_45 ?_
      refine er_aload_n rfl rfl d_N_connectPins_47 ?_
      refine er_iload rfl d_N_connectPins_48 ?_
      refine er_bipush (by decide) d_N_connectPins_50 ?_
      refine er_iload_n rfl rfl d_N_connectPins_52 ?_
      refine er_iload rfl d_N_connectPins_53 ?_
      refine er_cN (As := [.inl x3, .inl x4]) (st := [.inl 38, .inl (2 + v5), .inr n]) ml_N_77 mw_R_tileAt md_R_tileAt ⟨rfl, rfl⟩ rfl (Nat.le_of_ble_eq_true rfl) ⟨(Nat.le_of_ble_eq_true rfl), (Nat.le_of_ble_eq_true rfl)⟩ rfl d_N_connectPins_55 h (fun v11 m10 h => ?_)
      refine er_iadd d_N_connectPins_58 ?_
      refine er_iload_n rfl rfl d_N_connectPins_59 ?_
      refine er_cVV (As := [.inl (2 + v5), .inl (38 + v11), .inl x2]) (st := []) ml_N_46 mw_N_connect md_N_connect ⟨rfl, rfl⟩ rfl (Nat.le_of_ble_eq_true rfl) (shN_0 hn) rfl ⟨(Nat.le_of_ble_eq_true rfl), (Nat.le_of_ble_eq_true rfl)⟩ rfl d_N_connectPins_60 h (fun m12 h => ?_)
      refine er_aload_n rfl rfl d_N_connectPins_63 ?_
      refine er_iload rfl d_N_connectPins_64 ?_
      refine er_bipush (by decide) d_N_connectPins_66 ?_
      refine er_iload_n rfl rfl d_N_connectPins_68 ?_
      refine er_iload rfl d_N_connectPins_69 ?_
      refine er_iconst d_N_connectPins_71 ?_
      refine er_iadd d_N_connectPins_72 ?_
      refine er_cN (As := [.inl x3, .inl (x4 + 1)]) (st := [.inl 38, .inl (2 + v5), .inr n]) ml_N_77 mw_R_tileAt md_R_tileAt ⟨rfl, rfl⟩ rfl (Nat.le_of_ble_eq_true rfl) ⟨(Nat.le_of_ble_eq_true rfl), (Nat.le_of_ble_eq_true rfl)⟩ rfl d_N_connectPins_73 h (fun v14 m13 h => ?_)
      refine er_iadd d_N_connectPins_76 ?_
      refine er_iload_n rfl rfl d_N_connectPins_77 ?_
      refine er_cVV (As := [.inl (2 + v5), .inl (38 + v14), .inl x2]) (st := []) ml_N_46 mw_N_connect md_N_connect ⟨rfl, rfl⟩ rfl (Nat.le_of_ble_eq_true rfl) (shN_0 hn) rfl ⟨(Nat.le_of_ble_eq_true rfl), (Nat.le_of_ble_eq_true rfl)⟩ rfl d_N_connectPins_78 h (fun m15 h => ?_)
      refine er_aload_n rfl rfl d_N_connectPins_81 ?_
      refine er_iload rfl d_N_connectPins_82 ?_
      refine er_bipush (by decide) d_N_connectPins_84 ?_
      refine er_iload_n rfl rfl d_N_connectPins_86 ?_
      refine er_iconst d_N_connectPins_87 ?_
      refine er_iadd d_N_connectPins_88 ?_
      refine er_iload rfl d_N_connectPins_89 ?_
      refine er_cN (As := [.inl (x3 + 1), .inl x4]) (st := [.inl 38, .inl (2 + v5), .inr n]) ml_N_77 mw_R_tileAt md_R_tileAt ⟨rfl, rfl⟩ rfl (Nat.le_of_ble_eq_true rfl) ⟨(Nat.le_of_ble_eq_true rfl), (Nat.le_of_ble_eq_true rfl)⟩ rfl d_N_connectPins_91 h (fun v17 m16 h => ?_)
      refine er_iadd d_N_connectPins_94 ?_
      refine er_iload_n rfl rfl d_N_connectPins_95 ?_
      refine er_cVV (As := [.inl (2 + v5), .inl (38 + v17), .inl x2]) (st := []) ml_N_46 mw_N_connect md_N_connect ⟨rfl, rfl⟩ rfl (Nat.le_of_ble_eq_true rfl) (shN_0 hn) rfl ⟨(Nat.le_of_ble_eq_true rfl), (Nat.le_of_ble_eq_true rfl)⟩ rfl d_N_connectPins_96 h (fun m18 h => ?_)
      refine er_aload_n rfl rfl d_N_connectPins_99 ?_
      refine er_iload rfl d_N_connectPins_100 ?_
      refine er_bipush (by decide) d_N_connectPins_102 ?_
      refine er_iload_n rfl rfl d_N_connectPins_104 ?_
      refine er_iconst d_N_connectPins_105 ?_
      refine er_iadd d_N_connectPins_106 ?_
      refine er_iload rfl d_N_connectPins_107 ?_
      refine er_iconst d_N_connectPins_109 ?_
      refine er_iadd d_N_connectPins_110 ?_
      refine er_cN (As := [.inl (x3 + 1), .inl (x4 + 1)]) (st := [.inl 38, .inl (2 + v5), .inr n]) ml_N_77 mw_R_tileAt md_R_tileAt ⟨rfl, rfl⟩ rfl (Nat.le_of_ble_eq_true rfl) ⟨(Nat.le_of_ble_eq_true rfl), (Nat.le_of_ble_eq_true rfl)⟩ rfl d_N_connectPins_111 h (fun v20 m19 h => ?_)
      refine er_iadd d_N_connectPins_114 ?_
      refine er_iload_n rfl rfl d_N_connectPins_115 ?_
      refine er_cVV (As := [.inl (2 + v5), .inl (38 + v20), .inl x2]) (st := []) ml_N_46 mw_N_connect md_N_connect ⟨rfl, rfl⟩ rfl (Nat.le_of_ble_eq_true rfl) (shN_0 hn) rfl ⟨(Nat.le_of_ble_eq_true rfl), (Nat.le_of_ble_eq_true rfl)⟩ rfl d_N_connectPins_116 h (fun m21 h => ?_)
      refine er_incE (ls2 := [some (.inr n), some (.inr 2), some (.inl x2), some (.inl x3), some (.inl (x4 + 1)), some (.inl v5), some (.inl (2 + v5))]) rfl (Nat.le_of_ble_eq_true rfl) rfl d_N_connectPins_119 ?_
      refine er_goto (tgt := 13) (by decide) d_N_connectPins_122 ?_
      exact er_forget [some (.inr n), some (.inr 2), some (.inl x2), some (.inl x3), some (.inl (x4 + 1)), none, none] (And.intro rfl (And.intro rfl (And.intro rfl (And.intro rfl (And.intro rfl trivial))))) h
theorem vc_N_connectPins {K : er_K} {n : Nat} {p2 : Int} {m : er_M} {Q : er_M → Prop} (hn : er_isN n) (h : wp_N_connectPins_2 K n p2 0 m Q) : er_SV K mi_N_connectPins [.inr n, .inr 2, .inl p2] m Q := by
  refine er_start (by decide) (Nat.le_of_ble_eq_true rfl) ?_
  show er_WP K mi_N_connectPins 0 0 er_SH m 0 [some (.inr n), some (.inr 2), some (.inl p2), none, none, none, none] [] _
  refine er_iconst d_N_connectPins_0 ?_
  refine er_istE 3 rfl (Nat.le_of_ble_eq_true rfl) (ls2 := [some (.inr n), some (.inr 2), some (.inl p2), some (.inl 0), none, none, none]) rfl d_N_connectPins_1 ?_
  exact er_forget [some (.inr n), some (.inr 2), some (.inl p2), some (.inl 0), none, none, none] (And.intro rfl (And.intro rfl (And.intro rfl (And.intro rfl trivial)))) h
def wp_N_connectTiles_2 (K : er_K) (n : Nat) (x2 : Int) (m : er_M) (Q : er_M → Prop) : Prop := er_WP K mi_N_connectTiles 0 0 er_SH m 2 [some (.inr n), some (.inr 2), some (.inl x2), none, none] [] (er_Z K mi_N_connectTiles (er_PV Q))
def wp_N_connectTiles_12 (K : er_K) (n : Nat) (x2 : Int) (x3 : Int) (m : er_M) (Q : er_M → Prop) : Prop := er_WP K mi_N_connectTiles 0 0 er_SH m 12 [some (.inr n), some (.inr 2), some (.inl x2), some (.inl x3), none] [] (er_Z K mi_N_connectTiles (er_PV Q))
def wp_N_connectTiles_69 (K : er_K) (n : Nat) (x2 : Int) (x3 : Int) (x4 : Int) (m : er_M) (Q : er_M → Prop) : Prop := er_WP K mi_N_connectTiles 0 0 er_SH m 69 [some (.inr n), some (.inr 2), some (.inl x2), some (.inl x3), some (.inl x4)] [] (er_Z K mi_N_connectTiles (er_PV Q))
theorem vc_N_connectTiles_2 {K : er_K} {n : Nat} {x2 : Int} {m : er_M} {Q : er_M → Prop} (hn : er_isN n) (h : (er_in x2) ∧ (er_in (m 2 0)) ∧ ((((m 2 0) < x2 → Q m) ∧ (x2 ≤ (m 2 0) → wp_N_connectTiles_12 K n x2 0 m Q)))) : wp_N_connectTiles_2 K n x2 m Q := by
  show er_WP K mi_N_connectTiles 0 0 er_SH m 2 [some (.inr n), some (.inr 2), some (.inl x2), none, none] [] _
  refine er_iload_n rfl rfl d_N_connectTiles_2 ?_
  refine er_aload_n rfl rfl d_N_connectTiles_3 ?_
  refine er_getIE 0 rfl fl_N_62 sh_2 (by decide) rfl d_N_connectTiles_4 ?_
  obtain ⟨a1, a2, h⟩ := h
  refine er_icmp_gt (tgt := 93) (by decide) a1 a2 d_N_connectTiles_7 (fun c3 => ?_) (fun c3 => ?_)
  · have h := h.1 c3
    exact er_vretE rfl rfl d_N_connectTiles_93 h
  · have h := h.2 c3
    refine er_iconst d_N_connectTiles_10 ?_
    refine er_istE 3 rfl (Nat.le_of_ble_eq_true rfl) (ls2 := [some (.inr n), some (.inr 2), some (.inl x2), some (.inl 0), none]) rfl d_N_connectTiles_11 ?_
    exact er_forget [some (.inr n), some (.inr 2), some (.inl x2), some (.inl 0), none] (And.intro rfl (And.intro rfl (And.intro rfl (And.intro rfl trivial)))) h
theorem vc_N_connectTiles_12 {K : er_K} {n : Nat} {x2 : Int} {x3 : Int} {m : er_M} {Q : er_M → Prop} (hn : er_isN n) (h : (er_in x3) ∧ (er_in (m 2 1)) ∧ ((((m 2 1) < x3 → wp_N_connectTiles_2 K n (x2 + 1) m Q) ∧ (x3 ≤ (m 2 1) → er_SI K mi_R_tileAt [.inl x2, .inl x3] m (fun v5 m4 => er_SV K mi_N_connect [.inr n, .inl (38 + v5), .inl (87 + v5), .inl (m4 2 3)] m4 (fun m6 => (er_in x2) ∧ (((x2 = 0 → wp_N_connectTiles_69 K n x2 x3 v5 m6 Q) ∧ (x2 ≠ 0 → (er_in (m6 2 0)) ∧ (((x2 = (m6 2 0) → wp_N_connectTiles_69 K n x2 x3 v5 m6 Q) ∧ (x2 ≠ (m6 2 0) → ((x3 = 0 → wp_N_connectTiles_69 K n x2 x3 v5 m6 Q) ∧ (x3 ≠ 0 → (er_in (m6 2 1)) ∧ (((x3 ≠ (m6 2 1) → wp_N_connectTiles_12 K n x2 (x3 + 1) m6 Q) ∧ (x3 = (m6 2 1) → wp_N_connectTiles_69 K n x2 x3 v5 m6 Q))))))))))))))))) : wp_N_connectTiles_12 K n x2 x3 m Q := by
  show er_WP K mi_N_connectTiles 0 0 er_SH m 12 [some (.inr n), some (.inr 2), some (.inl x2), some (.inl x3), none] [] _
  refine er_iload_n rfl rfl d_N_connectTiles_12 ?_
  refine er_aload_n rfl rfl d_N_connectTiles_13 ?_
  refine er_getIE 1 rfl fl_N_67 sh_2 (by decide) rfl d_N_connectTiles_14 ?_
  obtain ⟨a1, a2, h⟩ := h
  refine er_icmp_gt (tgt := 87) (by decide) a1 a2 d_N_connectTiles_17 (fun c3 => ?_) (fun c3 => ?_)
  · have h := h.1 c3
    refine er_incE (ls2 := [some (.inr n), some (.inr 2), some (.inl (x2 + 1)), some (.inl x3), none]) rfl (Nat.le_of_ble_eq_true rfl) rfl d_N_connectTiles_87 ?_
    refine er_goto (tgt := 2) (by decide) d_N_connectTiles_90 ?_
    exact er_forget [some (.inr n), some (.inr 2), some (.inl (x2 + 1)), none, none] (And.intro rfl (And.intro rfl (And.intro rfl trivial))) h
  · have h := h.2 c3
    refine er_iload_n rfl rfl d_N_connectTiles_20 ?_
    refine er_iload_n rfl rfl d_N_connectTiles_21 ?_
    refine er_cN (As := [.inl x2, .inl x3]) (st := []) ml_N_77 mw_R_tileAt md_R_tileAt ⟨rfl, rfl⟩ rfl (Nat.le_of_ble_eq_true rfl) ⟨(Nat.le_of_ble_eq_true rfl), (Nat.le_of_ble_eq_true rfl)⟩ rfl d_N_connectTiles_22 h (fun v5 m4 h => ?_)
    refine er_istF (Nat.le_of_ble_eq_true rfl) (ls2 := [some (.inr n), some (.inr 2), some (.inl x2), some (.inl x3), some (.inl v5)]) rfl d_N_connectTiles_25 ?_
    refine er_aload_n rfl rfl d_N_connectTiles_27 ?_
    refine er_bipush (by decide) d_N_connectTiles_28 ?_
    refine er_iload rfl d_N_connectTiles_30 ?_
    refine er_iadd d_N_connectTiles_32 ?_
    refine er_bipush (by decide) d_N_connectTiles_33 ?_
    refine er_iload rfl d_N_connectTiles_35 ?_
    refine er_iadd d_N_connectTiles_37 ?_
    refine er_aload_n rfl rfl d_N_connectTiles_38 ?_
    refine er_getIE 3 rfl fl_N_80 sh_2 (by decide) rfl d_N_connectTiles_39 ?_
    refine er_cVV (As := [.inl (38 + v5), .inl (87 + v5), .inl (m4 2 3)]) (st := []) ml_N_46 mw_N_connect md_N_connect ⟨rfl, rfl⟩ rfl (Nat.le_of_ble_eq_true rfl) (shN_0 hn) rfl ⟨(Nat.le_of_ble_eq_true rfl), (Nat.le_of_ble_eq_true rfl)⟩ rfl d_N_connectTiles_42 h (fun m6 h => ?_)
    refine er_iload_n rfl rfl d_N_connectTiles_45 ?_
    obtain ⟨a7, h⟩ := h
    refine er_if_eq (tgt := 69) (by decide) a7 d_N_connectTiles_46 (fun c8 => ?_) (fun c8 => ?_)
    · have h := h.1 c8
      exact er_forget [some (.inr n), some (.inr 2), some (.inl x2), some (.inl x3), some (.inl v5)] (And.intro rfl (And.intro rfl (And.intro rfl (And.intro rfl (And.intro rfl trivial))))) h
    · have h := h.2 c8
      refine er_iload_n rfl rfl d_N_connectTiles_49 ?_
      refine er_aload_n rfl rfl d_N_connectTiles_50 ?_
      refine er_getIE 0 rfl fl_N_62 sh_2 (by decide) rfl d_N_connectTiles_51 ?_
      obtain ⟨a9, h⟩ := h
      refine er_icmp_eq (tgt := 69) (by decide) a7 a9 d_N_connectTiles_54 (fun c10 => ?_) (fun c10 => ?_)
      · have h := h.1 c10
        exact er_forget [some (.inr n), some (.inr 2), some (.inl x2), some (.inl x3), some (.inl v5)] (And.intro rfl (And.intro rfl (And.intro rfl (And.intro rfl (And.intro rfl trivial))))) h
      · have h := h.2 c10
        refine er_iload_n rfl rfl d_N_connectTiles_57 ?_
        refine er_if_eq (tgt := 69) (by decide) a1 d_N_connectTiles_58 (fun c11 => ?_) (fun c11 => ?_)
        · have h := h.1 c11
          exact er_forget [some (.inr n), some (.inr 2), some (.inl x2), some (.inl x3), some (.inl v5)] (And.intro rfl (And.intro rfl (And.intro rfl (And.intro rfl (And.intro rfl trivial))))) h
        · have h := h.2 c11
          refine er_iload_n rfl rfl d_N_connectTiles_61 ?_
          refine er_aload_n rfl rfl d_N_connectTiles_62 ?_
          refine er_getIE 1 rfl fl_N_67 sh_2 (by decide) rfl d_N_connectTiles_63 ?_
          obtain ⟨a12, h⟩ := h
          refine er_icmp_ne (tgt := 81) (by decide) a1 a12 d_N_connectTiles_66 (fun c13 => ?_) (fun c13 => ?_)
          · have h := h.1 c13
            refine er_incE (ls2 := [some (.inr n), some (.inr 2), some (.inl x2), some (.inl (x3 + 1)), some (.inl v5)]) rfl (Nat.le_of_ble_eq_true rfl) rfl d_N_connectTiles_81 ?_
            refine er_goto (tgt := 12) (by decide) d_N_connectTiles_84 ?_
            exact er_forget [some (.inr n), some (.inr 2), some (.inl x2), some (.inl (x3 + 1)), none] (And.intro rfl (And.intro rfl (And.intro rfl (And.intro rfl trivial)))) h
          · have h := h.2 c13
            exact er_forget [some (.inr n), some (.inr 2), some (.inl x2), some (.inl x3), some (.inl v5)] (And.intro rfl (And.intro rfl (And.intro rfl (And.intro rfl (And.intro rfl trivial))))) h
theorem vc_N_connectTiles_69 {K : er_K} {n : Nat} {x2 : Int} {x3 : Int} {x4 : Int} {m : er_M} {Q : er_M → Prop} (hn : er_isN n) (h : er_SV K mi_N_connect [.inr n, .inl (87 + x4), .inl 1, .inl 1000000] m (fun m1 => wp_N_connectTiles_12 K n x2 (x3 + 1) m1 Q)) : wp_N_connectTiles_69 K n x2 x3 x4 m Q := by
  show er_WP K mi_N_connectTiles 0 0 er_SH m 69 [some (.inr n), some (.inr 2), some (.inl x2), some (.inl x3), some (.inl x4)] [] _
  refine er_aload_n rfl rfl d_N_connectTiles_69 ?_
  refine er_bipush (by decide) d_N_connectTiles_70 ?_
  refine er_iload rfl d_N_connectTiles_72 ?_
  refine er_iadd d_N_connectTiles_74 ?_
  refine er_iconst d_N_connectTiles_75 ?_
  refine er_ldc kc_N_83 d_N_connectTiles_76 ?_
  refine er_cVV (As := [.inl (87 + x4), .inl 1, .inl 1000000]) (st := []) ml_N_46 mw_N_connect md_N_connect ⟨rfl, rfl⟩ rfl (Nat.le_of_ble_eq_true rfl) (shN_0 hn) rfl ⟨(Nat.le_of_ble_eq_true rfl), (Nat.le_of_ble_eq_true rfl)⟩ rfl d_N_connectTiles_78 h (fun m1 h => ?_)
  refine er_incE (ls2 := [some (.inr n), some (.inr 2), some (.inl x2), some (.inl (x3 + 1)), some (.inl x4)]) rfl (Nat.le_of_ble_eq_true rfl) rfl d_N_connectTiles_81 ?_
  refine er_goto (tgt := 12) (by decide) d_N_connectTiles_84 ?_
  exact er_forget [some (.inr n), some (.inr 2), some (.inl x2), some (.inl (x3 + 1)), none] (And.intro rfl (And.intro rfl (And.intro rfl (And.intro rfl trivial)))) h
theorem vc_N_connectTiles {K : er_K} {n : Nat} {m : er_M} {Q : er_M → Prop} (hn : er_isN n) (h : wp_N_connectTiles_2 K n 0 m Q) : er_SV K mi_N_connectTiles [.inr n, .inr 2] m Q := by
  refine er_start (by decide) (Nat.le_of_ble_eq_true rfl) ?_
  show er_WP K mi_N_connectTiles 0 0 er_SH m 0 [some (.inr n), some (.inr 2), none, none, none] [] _
  refine er_iconst d_N_connectTiles_0 ?_
  refine er_istE 2 rfl (Nat.le_of_ble_eq_true rfl) (ls2 := [some (.inr n), some (.inr 2), some (.inl 0), none, none]) rfl d_N_connectTiles_1 ?_
  exact er_forget [some (.inr n), some (.inr 2), some (.inl 0), none, none] (And.intro rfl (And.intro rfl (And.intro rfl trivial))) h
def wp_N_connectChannels_2 (K : er_K) (n o : Nat) (x3 : Int) (m : er_M) (Q : er_M → Prop) : Prop := er_WP K mi_N_connectChannels 0 0 er_SH m 2 [some (.inr n), some (.inr 2), some (.inr o), some (.inl x3), none, none, none, none, none] [] (er_Z K mi_N_connectChannels (er_PV Q))
def wp_N_connectChannels_13 (K : er_K) (n o : Nat) (x3 : Int) (x4 : Int) (m : er_M) (Q : er_M → Prop) : Prop := er_WP K mi_N_connectChannels 0 0 er_SH m 13 [some (.inr n), some (.inr 2), some (.inr o), some (.inl x3), some (.inl x4), none, none, none, none] [] (er_Z K mi_N_connectChannels (er_PV Q))
def wp_N_connectChannels_111 (K : er_K) (n o : Nat) (x3 : Int) (x4 : Int) (x6 : Int) (x7 : Int) (m : er_M) (Q : er_M → Prop) : Prop := er_WP K mi_N_connectChannels 0 0 er_SH m 111 [some (.inr n), some (.inr 2), some (.inr o), some (.inl x3), some (.inl x4), none, some (.inl x6), some (.inl x7), none] [] (er_Z K mi_N_connectChannels (er_PV Q))
theorem vc_N_connectChannels_2 {K : er_K} {n o : Nat} {x3 : Int} {m : er_M} {Q : er_M → Prop} (hn : er_isN n) (ho : er_isO o) (h : (er_in x3) ∧ (er_in (m 2 0)) ∧ ((((m 2 0) ≤ x3 → Q m) ∧ (x3 < (m 2 0) → wp_N_connectChannels_13 K n o x3 0 m Q)))) : wp_N_connectChannels_2 K n o x3 m Q := by
  show er_WP K mi_N_connectChannels 0 0 er_SH m 2 [some (.inr n), some (.inr 2), some (.inr o), some (.inl x3), none, none, none, none, none] [] _
  refine er_iload_n rfl rfl d_N_connectChannels_2 ?_
  refine er_aload_n rfl rfl d_N_connectChannels_3 ?_
  refine er_getIE 0 rfl fl_N_62 sh_2 (by decide) rfl d_N_connectChannels_4 ?_
  obtain ⟨a1, a2, h⟩ := h
  refine er_icmp_ge (tgt := 172) (by decide) a1 a2 d_N_connectChannels_7 (fun c3 => ?_) (fun c3 => ?_)
  · have h := h.1 c3
    exact er_vretE rfl rfl d_N_connectChannels_172 h
  · have h := h.2 c3
    refine er_iconst d_N_connectChannels_10 ?_
    refine er_istF (Nat.le_of_ble_eq_true rfl) (ls2 := [some (.inr n), some (.inr 2), some (.inr o), some (.inl x3), some (.inl 0), none, none, none, none]) rfl d_N_connectChannels_11 ?_
    exact er_forget [some (.inr n), some (.inr 2), some (.inr o), some (.inl x3), some (.inl 0), none, none, none, none] (And.intro rfl (And.intro rfl (And.intro rfl (And.intro rfl (And.intro rfl trivial))))) h
theorem vc_N_connectChannels_13 {K : er_K} {n o : Nat} {x3 : Int} {x4 : Int} {m : er_M} {Q : er_M → Prop} (hn : er_isN n) (ho : er_isO o) (h : (er_in x4) ∧ (er_in (m 2 1)) ∧ ((((m 2 1) ≤ x4 → wp_N_connectChannels_2 K n o (x3 + 1) m Q) ∧ (x4 < (m 2 1) → er_SI K mi_R_placeOf [.inl x3, .inl x4] m (fun v5 m4 => er_SI K mi_R_tileAt [.inl (x3 + 1), .inl (x4 + 1)] m4 (fun v7 m6 => (0 ≤ v5) ∧ (v5 < 36) ∧ ((er_in (m6 o v5)) ∧ ((((m6 o v5) = 0 → (er_in (x4 + 1)) ∧ (er_in (m6 2 1)) ∧ ((((m6 2 1) ≤ (x4 + 1) → wp_N_connectChannels_111 K n o x3 x4 v7 ((m6 2 2) + 0) m6 Q) ∧ ((x4 + 1) < (m6 2 1) → er_SI K mi_R_placeOf [.inl x3, .inl (x4 + 1)] m6 (fun v16 m15 => (0 ≤ v16) ∧ (v16 < 36) ∧ ((er_in (m15 o v16)) ∧ ((((m15 o v16) = 0 → er_SI K mi_R_tileAt [.inl x3, .inl (x4 + 1)] m15 (fun v22 m21 => er_SV K mi_N_connectBothWays [.inr n, .inl v22, .inl v7, .inl (((m6 2 2) + 0) + 0)] m21 (fun m23 => wp_N_connectChannels_111 K n o x3 x4 v7 ((m6 2 2) + 0) m23 Q))) ∧ ((m15 o v16) ≠ 0 → er_SI K mi_R_tileAt [.inl x3, .inl (x4 + 1)] m15 (fun v25 m24 => er_SV K mi_N_connectBothWays [.inr n, .inl v25, .inl v7, .inl (((m6 2 2) + 0) + 1)] m24 (fun m26 => wp_N_connectChannels_111 K n o x3 x4 v7 ((m6 2 2) + 0) m26 Q))))))))))) ∧ ((m6 o v5) ≠ 0 → (er_in (x4 + 1)) ∧ (er_in (m6 2 1)) ∧ ((((m6 2 1) ≤ (x4 + 1) → wp_N_connectChannels_111 K n o x3 x4 v7 ((m6 2 2) + 1) m6 Q) ∧ ((x4 + 1) < (m6 2 1) → er_SI K mi_R_placeOf [.inl x3, .inl (x4 + 1)] m6 (fun v31 m30 => (0 ≤ v31) ∧ (v31 < 36) ∧ ((er_in (m30 o v31)) ∧ ((((m30 o v31) = 0 → er_SI K mi_R_tileAt [.inl x3, .inl (x4 + 1)] m30 (fun v37 m36 => er_SV K mi_N_connectBothWays [.inr n, .inl v37, .inl v7, .inl (((m6 2 2) + 1) + 0)] m36 (fun m38 => wp_N_connectChannels_111 K n o x3 x4 v7 ((m6 2 2) + 1) m38 Q))) ∧ ((m30 o v31) ≠ 0 → er_SI K mi_R_tileAt [.inl x3, .inl (x4 + 1)] m30 (fun v40 m39 => er_SV K mi_N_connectBothWays [.inr n, .inl v40, .inl v7, .inl (((m6 2 2) + 1) + 1)] m39 (fun m41 => wp_N_connectChannels_111 K n o x3 x4 v7 ((m6 2 2) + 1) m41 Q)))))))))))))))))))) : wp_N_connectChannels_13 K n o x3 x4 m Q := by
  show er_WP K mi_N_connectChannels 0 0 er_SH m 13 [some (.inr n), some (.inr 2), some (.inr o), some (.inl x3), some (.inl x4), none, none, none, none] [] _
  refine er_iload rfl d_N_connectChannels_13 ?_
  refine er_aload_n rfl rfl d_N_connectChannels_15 ?_
  refine er_getIE 1 rfl fl_N_67 sh_2 (by decide) rfl d_N_connectChannels_16 ?_
  obtain ⟨a1, a2, h⟩ := h
  refine er_icmp_ge (tgt := 166) (by decide) a1 a2 d_N_connectChannels_19 (fun c3 => ?_) (fun c3 => ?_)
  · have h := h.1 c3
    refine er_incE (ls2 := [some (.inr n), some (.inr 2), some (.inr o), some (.inl (x3 + 1)), some (.inl x4), none, none, none, none]) rfl (Nat.le_of_ble_eq_true rfl) rfl d_N_connectChannels_166 ?_
    refine er_goto (tgt := 2) (by decide) d_N_connectChannels_169 ?_
    exact er_forget [some (.inr n), some (.inr 2), some (.inr o), some (.inl (x3 + 1)), none, none, none, none, none] (And.intro rfl (And.intro rfl (And.intro rfl (And.intro rfl trivial)))) h
  · have h := h.2 c3
    refine er_iload_n rfl rfl d_N_connectChannels_22 ?_
    refine er_iload rfl d_N_connectChannels_23 ?_
    refine er_cN (As := [.inl x3, .inl x4]) (st := []) ml_N_70 mw_R_placeOf md_R_placeOf ⟨rfl, rfl⟩ rfl (Nat.le_of_ble_eq_true rfl) ⟨(Nat.le_of_ble_eq_true rfl), (Nat.le_of_ble_eq_true rfl)⟩ rfl d_N_connectChannels_25 h (fun v5 m4 h => ?_)
    refine er_istF (Nat.le_of_ble_eq_true rfl) (ls2 := [some (.inr n), some (.inr 2), some (.inr o), some (.inl x3), some (.inl x4), some (.inl v5), none, none, none]) rfl d_N_connectChannels_28 ?_
    refine er_iload_n rfl rfl d_N_connectChannels_30 ?_
    refine er_iconst d_N_connectChannels_31 ?_
    refine er_iadd d_N_connectChannels_32 ?_
    refine er_iload rfl d_N_connectChannels_33 ?_
    refine er_iconst d_N_connectChannels_35 ?_
    refine er_iadd d_N_connectChannels_36 ?_
    refine er_cN (As := [.inl (x3 + 1), .inl (x4 + 1)]) (st := []) ml_N_77 mw_R_tileAt md_R_tileAt ⟨rfl, rfl⟩ rfl (Nat.le_of_ble_eq_true rfl) ⟨(Nat.le_of_ble_eq_true rfl), (Nat.le_of_ble_eq_true rfl)⟩ rfl d_N_connectChannels_37 h (fun v7 m6 h => ?_)
    refine er_istF (Nat.le_of_ble_eq_true rfl) (ls2 := [some (.inr n), some (.inr 2), some (.inr o), some (.inl x3), some (.inl x4), some (.inl v5), some (.inl v7), none, none]) rfl d_N_connectChannels_40 ?_
    refine er_aload_n rfl rfl d_N_connectChannels_42 ?_
    refine er_getIE 2 rfl fl_N_84 sh_2 (by decide) rfl d_N_connectChannels_43 ?_
    refine er_aload_n rfl rfl d_N_connectChannels_46 ?_
    refine er_iload rfl d_N_connectChannels_47 ?_
    obtain ⟨a8, a9, h⟩ := h
    refine er_zald ho (by decide) a8 a9 d_N_connectChannels_49 ?_
    obtain ⟨a10, h⟩ := h
    refine er_if_eq (tgt := 57) (by decide) a10 d_N_connectChannels_50 (fun c11 => ?_) (fun c11 => ?_)
    · have h := h.1 c11
      refine er_iconst d_N_connectChannels_57 ?_
      refine er_iadd d_N_connectChannels_58 ?_
      refine er_istF (Nat.le_of_ble_eq_true rfl) (ls2 := [some (.inr n), some (.inr 2), some (.inr o), some (.inl x3), some (.inl x4), some (.inl v5), some (.inl v7), some (.inl ((m6 2 2) + 0)), none]) rfl d_N_connectChannels_59 ?_
      refine er_iload rfl d_N_connectChannels_61 ?_
      refine er_iconst d_N_connectChannels_63 ?_
      refine er_iadd d_N_connectChannels_64 ?_
      refine er_aload_n rfl rfl d_N_connectChannels_65 ?_
      refine er_getIE 1 rfl fl_N_67 sh_2 (by decide) rfl d_N_connectChannels_66 ?_
      obtain ⟨a12, a13, h⟩ := h
      refine er_icmp_ge (tgt := 111) (by decide) a12 a13 d_N_connectChannels_69 (fun c14 => ?_) (fun c14 => ?_)
      · have h := h.1 c14
        exact er_forget [some (.inr n), some (.inr 2), some (.inr o), some (.inl x3), some (.inl x4), none, some (.inl v7), some (.inl ((m6 2 2) + 0)), none] (And.intro rfl (And.intro rfl (And.intro rfl (And.intro rfl (And.intro rfl (And.intro rfl (And.intro rfl trivial))))))) h
      · have h := h.2 c14
        refine er_aload_n rfl rfl d_N_connectChannels_72 ?_
        refine er_iload_n rfl rfl d_N_connectChannels_73 ?_
        refine er_iload rfl d_N_connectChannels_74 ?_
        refine er_iconst d_N_connectChannels_76 ?_
        refine er_iadd d_N_connectChannels_77 ?_
        refine er_cN (As := [.inl x3, .inl (x4 + 1)]) (st := [.inr o]) ml_N_70 mw_R_placeOf md_R_placeOf ⟨rfl, rfl⟩ rfl (Nat.le_of_ble_eq_true rfl) ⟨(Nat.le_of_ble_eq_true rfl), (Nat.le_of_ble_eq_true rfl)⟩ rfl d_N_connectChannels_78 h (fun v16 m15 h => ?_)
        obtain ⟨a17, a18, h⟩ := h
        refine er_zald ho (by decide) a17 a18 d_N_connectChannels_81 ?_
        obtain ⟨a19, h⟩ := h
        refine er_if_eq (tgt := 89) (by decide) a19 d_N_connectChannels_82 (fun c20 => ?_) (fun c20 => ?_)
        · have h := h.1 c20
          refine er_iconst d_N_connectChannels_89 ?_
          refine er_istF (Nat.le_of_ble_eq_true rfl) (ls2 := [some (.inr n), some (.inr 2), some (.inr o), some (.inl x3), some (.inl x4), some (.inl v5), some (.inl v7), some (.inl ((m6 2 2) + 0)), some (.inl 0)]) rfl d_N_connectChannels_90 ?_
          refine er_aload_n rfl rfl d_N_connectChannels_92 ?_
          refine er_iload_n rfl rfl d_N_connectChannels_93 ?_
          refine er_iload rfl d_N_connectChannels_94 ?_
          refine er_iconst d_N_connectChannels_96 ?_
          refine er_iadd d_N_connectChannels_97 ?_
          refine er_cN (As := [.inl x3, .inl (x4 + 1)]) (st := [.inr n]) ml_N_77 mw_R_tileAt md_R_tileAt ⟨rfl, rfl⟩ rfl (Nat.le_of_ble_eq_true rfl) ⟨(Nat.le_of_ble_eq_true rfl), (Nat.le_of_ble_eq_true rfl)⟩ rfl d_N_connectChannels_98 h (fun v22 m21 h => ?_)
          refine er_iload rfl d_N_connectChannels_101 ?_
          refine er_iload rfl d_N_connectChannels_103 ?_
          refine er_iload rfl d_N_connectChannels_105 ?_
          refine er_iadd d_N_connectChannels_107 ?_
          refine er_cVV (As := [.inl v22, .inl v7, .inl (((m6 2 2) + 0) + 0)]) (st := []) ml_N_87 mw_N_connectBothWays md_N_connectBothWays ⟨rfl, rfl⟩ rfl (Nat.le_of_ble_eq_true rfl) (shN_0 hn) rfl ⟨(Nat.le_of_ble_eq_true rfl), (Nat.le_of_ble_eq_true rfl)⟩ rfl d_N_connectChannels_108 h (fun m23 h => ?_)
          exact er_forget [some (.inr n), some (.inr 2), some (.inr o), some (.inl x3), some (.inl x4), none, some (.inl v7), some (.inl ((m6 2 2) + 0)), none] (And.intro rfl (And.intro rfl (And.intro rfl (And.intro rfl (And.intro rfl (And.intro rfl (And.intro rfl trivial))))))) h
        · have h := h.2 c20
          refine er_iconst d_N_connectChannels_85 ?_
          refine er_goto (tgt := 90) (by decide) d_N_connectChannels_86 ?_
          refine er_istF (Nat.le_of_ble_eq_true rfl) (ls2 := [some (.inr n), some (.inr 2), some (.inr o), some (.inl x3), some (.inl x4), some (.inl v5), some (.inl v7), some (.inl ((m6 2 2) + 0)), some (.inl 1)]) rfl d_N_connectChannels_90 ?_
          refine er_aload_n rfl rfl d_N_connectChannels_92 ?_
          refine er_iload_n rfl rfl d_N_connectChannels_93 ?_
          refine er_iload rfl d_N_connectChannels_94 ?_
          refine er_iconst d_N_connectChannels_96 ?_
          refine er_iadd d_N_connectChannels_97 ?_
          refine er_cN (As := [.inl x3, .inl (x4 + 1)]) (st := [.inr n]) ml_N_77 mw_R_tileAt md_R_tileAt ⟨rfl, rfl⟩ rfl (Nat.le_of_ble_eq_true rfl) ⟨(Nat.le_of_ble_eq_true rfl), (Nat.le_of_ble_eq_true rfl)⟩ rfl d_N_connectChannels_98 h (fun v25 m24 h => ?_)
          refine er_iload rfl d_N_connectChannels_101 ?_
          refine er_iload rfl d_N_connectChannels_103 ?_
          refine er_iload rfl d_N_connectChannels_105 ?_
          refine er_iadd d_N_connectChannels_107 ?_
          refine er_cVV (As := [.inl v25, .inl v7, .inl (((m6 2 2) + 0) + 1)]) (st := []) ml_N_87 mw_N_connectBothWays md_N_connectBothWays ⟨rfl, rfl⟩ rfl (Nat.le_of_ble_eq_true rfl) (shN_0 hn) rfl ⟨(Nat.le_of_ble_eq_true rfl), (Nat.le_of_ble_eq_true rfl)⟩ rfl d_N_connectChannels_108 h (fun m26 h => ?_)
          exact er_forget [some (.inr n), some (.inr 2), some (.inr o), some (.inl x3), some (.inl x4), none, some (.inl v7), some (.inl ((m6 2 2) + 0)), none] (And.intro rfl (And.intro rfl (And.intro rfl (And.intro rfl (And.intro rfl (And.intro rfl (And.intro rfl trivial))))))) h
    · have h := h.2 c11
      refine er_iconst d_N_connectChannels_53 ?_
      refine er_goto (tgt := 58) (by decide) d_N_connectChannels_54 ?_
      refine er_iadd d_N_connectChannels_58 ?_
      refine er_istF (Nat.le_of_ble_eq_true rfl) (ls2 := [some (.inr n), some (.inr 2), some (.inr o), some (.inl x3), some (.inl x4), some (.inl v5), some (.inl v7), some (.inl ((m6 2 2) + 1)), none]) rfl d_N_connectChannels_59 ?_
      refine er_iload rfl d_N_connectChannels_61 ?_
      refine er_iconst d_N_connectChannels_63 ?_
      refine er_iadd d_N_connectChannels_64 ?_
      refine er_aload_n rfl rfl d_N_connectChannels_65 ?_
      refine er_getIE 1 rfl fl_N_67 sh_2 (by decide) rfl d_N_connectChannels_66 ?_
      obtain ⟨a27, a28, h⟩ := h
      refine er_icmp_ge (tgt := 111) (by decide) a27 a28 d_N_connectChannels_69 (fun c29 => ?_) (fun c29 => ?_)
      · have h := h.1 c29
        exact er_forget [some (.inr n), some (.inr 2), some (.inr o), some (.inl x3), some (.inl x4), none, some (.inl v7), some (.inl ((m6 2 2) + 1)), none] (And.intro rfl (And.intro rfl (And.intro rfl (And.intro rfl (And.intro rfl (And.intro rfl (And.intro rfl trivial))))))) h
      · have h := h.2 c29
        refine er_aload_n rfl rfl d_N_connectChannels_72 ?_
        refine er_iload_n rfl rfl d_N_connectChannels_73 ?_
        refine er_iload rfl d_N_connectChannels_74 ?_
        refine er_iconst d_N_connectChannels_76 ?_
        refine er_iadd d_N_connectChannels_77 ?_
        refine er_cN (As := [.inl x3, .inl (x4 + 1)]) (st := [.inr o]) ml_N_70 mw_R_placeOf md_R_placeOf ⟨rfl, rfl⟩ rfl (Nat.le_of_ble_eq_true rfl) ⟨(Nat.le_of_ble_eq_true rfl), (Nat.le_of_ble_eq_true rfl)⟩ rfl d_N_connectChannels_78 h (fun v31 m30 h => ?_)
        obtain ⟨a32, a33, h⟩ := h
        refine er_zald ho (by decide) a32 a33 d_N_connectChannels_81 ?_
        obtain ⟨a34, h⟩ := h
        refine er_if_eq (tgt := 89) (by decide) a34 d_N_connectChannels_82 (fun c35 => ?_) (fun c35 => ?_)
        · have h := h.1 c35
          refine er_iconst d_N_connectChannels_89 ?_
          refine er_istF (Nat.le_of_ble_eq_true rfl) (ls2 := [some (.inr n), some (.inr 2), some (.inr o), some (.inl x3), some (.inl x4), some (.inl v5), some (.inl v7), some (.inl ((m6 2 2) + 1)), some (.inl 0)]) rfl d_N_connectChannels_90 ?_
          refine er_aload_n rfl rfl d_N_connectChannels_92 ?_
          refine er_iload_n rfl rfl d_N_connectChannels_93 ?_
          refine er_iload rfl d_N_connectChannels_94 ?_
          refine er_iconst d_N_connectChannels_96 ?_
          refine er_iadd d_N_connectChannels_97 ?_
          refine er_cN (As := [.inl x3, .inl (x4 + 1)]) (st := [.inr n]) ml_N_77 mw_R_tileAt md_R_tileAt ⟨rfl, rfl⟩ rfl (Nat.le_of_ble_eq_true rfl) ⟨(Nat.le_of_ble_eq_true rfl), (Nat.le_of_ble_eq_true rfl)⟩ rfl d_N_connectChannels_98 h (fun v37 m36 h => ?_)
          refine er_iload rfl d_N_connectChannels_101 ?_
          refine er_iload rfl d_N_connectChannels_103 ?_
          refine er_iload rfl d_N_connectChannels_105 ?_
          refine er_iadd d_N_connectChannels_107 ?_
          refine er_cVV (As := [.inl v37, .inl v7, .inl (((m6 2 2) + 1) + 0)]) (st := []) ml_N_87 mw_N_connectBothWays md_N_connectBothWays ⟨rfl, rfl⟩ rfl (Nat.le_of_ble_eq_true rfl) (shN_0 hn) rfl ⟨(Nat.le_of_ble_eq_true rfl), (Nat.le_of_ble_eq_true rfl)⟩ rfl d_N_connectChannels_108 h (fun m38 h => ?_)
          exact er_forget [some (.inr n), some (.inr 2), some (.inr o), some (.inl x3), some (.inl x4), none, some (.inl v7), some (.inl ((m6 2 2) + 1)), none] (And.intro rfl (And.intro rfl (And.intro rfl (And.intro rfl (And.intro rfl (And.intro rfl (And.intro rfl trivial))))))) h
        · have h := h.2 c35
          refine er_iconst d_N_connectChannels_85 ?_
          refine er_goto (tgt := 90) (by decide) d_N_connectChannels_86 ?_
          refine er_istF (Nat.le_of_ble_eq_true rfl) (ls2 := [some (.inr n), some (.inr 2), some (.inr o), some (.inl x3), some (.inl x4), some (.inl v5), some (.inl v7), some (.inl ((m6 2 2) + 1)), some (.inl 1)]) rfl d_N_connectChannels_90 ?_
          refine er_aload_n rfl rfl d_N_connectChannels_92 ?_
          refine er_iload_n rfl rfl d_N_connectChannels_93 ?_
          refine er_iload rfl d_N_connectChannels_94 ?_
          refine er_iconst d_N_connectChannels_96 ?_
          refine er_iadd d_N_connectChannels_97 ?_
          refine er_cN (As := [.inl x3, .inl (x4 + 1)]) (st := [.inr n]) ml_N_77 mw_R_tileAt md_R_tileAt ⟨rfl, rfl⟩ rfl (Nat.le_of_ble_eq_true rfl) ⟨(Nat.le_of_ble_eq_true rfl), (Nat.le_of_ble_eq_true rfl)⟩ rfl d_N_connectChannels_98 h (fun v40 m39 h => ?_)
          refine er_iload rfl d_N_connectChannels_101 ?_
          refine er_iload rfl d_N_connectChannels_103 ?_
          refine er_iload rfl d_N_connectChannels_105 ?_
          refine er_iadd d_N_connectChannels_107 ?_
          refine er_cVV (As := [.inl v40, .inl v7, .inl (((m6 2 2) + 1) + 1)]) (st := []) ml_N_87 mw_N_connectBothWays md_N_connectBothWays ⟨rfl, rfl⟩ rfl (Nat.le_of_ble_eq_true rfl) (shN_0 hn) rfl ⟨(Nat.le_of_ble_eq_true rfl), (Nat.le_of_ble_eq_true rfl)⟩ rfl d_N_connectChannels_108 h (fun m41 h => ?_)
          exact er_forget [some (.inr n), some (.inr 2), some (.inr o), some (.inl x3), some (.inl x4), none, some (.inl v7), some (.inl ((m6 2 2) + 1)), none] (And.intro rfl (And.intro rfl (And.intro rfl (And.intro rfl (And.intro rfl (And.intro rfl (And.intro rfl trivial))))))) h
theorem vc_N_connectChannels_111 {K : er_K} {n o : Nat} {x3 : Int} {x4 : Int} {x6 : Int} {x7 : Int} {m : er_M} {Q : er_M → Prop} (hn : er_isN n) (ho : er_isO o) (h : (er_in (x3 + 1)) ∧ (er_in (m 2 0)) ∧ ((((m 2 0) ≤ (x3 + 1) → wp_N_connectChannels_13 K n o x3 (x4 + 1) m Q) ∧ ((x3 + 1) < (m 2 0) → er_SI K mi_R_placeOf [.inl (x3 + 1), .inl x4] m (fun v5 m4 => (0 ≤ v5) ∧ (v5 < 36) ∧ ((er_in (m4 o v5)) ∧ ((((m4 o v5) = 0 → er_SI K mi_R_tileAt [.inl (x3 + 1), .inl x4] m4 (fun v11 m10 => er_SV K mi_N_connectBothWays [.inr n, .inl v11, .inl x6, .inl (x7 + 0)] m10 (fun m12 => wp_N_connectChannels_13 K n o x3 (x4 + 1) m12 Q))) ∧ ((m4 o v5) ≠ 0 → er_SI K mi_R_tileAt [.inl (x3 + 1), .inl x4] m4 (fun v14 m13 => er_SV K mi_N_connectBothWays [.inr n, .inl v14, .inl x6, .inl (x7 + 1)] m13 (fun m15 => wp_N_connectChannels_13 K n o x3 (x4 + 1) m15 Q))))))))))) : wp_N_connectChannels_111 K n o x3 x4 x6 x7 m Q := by
  show er_WP K mi_N_connectChannels 0 0 er_SH m 111 [some (.inr n), some (.inr 2), some (.inr o), some (.inl x3), some (.inl x4), none, some (.inl x6), some (.inl x7), none] [] _
  refine er_iload_n rfl rfl d_N_connectChannels_111 ?_
  refine er_iconst d_N_connectChannels_112 ?_
  refine er_iadd d_N_connectChannels_113 ?_
  refine er_aload_n rfl rfl d_N_connectChannels_114 ?_
  refine er_getIE 0 rfl fl_N_62 sh_2 (by decide) rfl d_N_connectChannels_115 ?_
  obtain ⟨a1, a2, h⟩ := h
  refine er_icmp_ge (tgt := 160) (by decide) a1 a2 d_N_connectChannels_118 (fun c3 => ?_) (fun c3 => ?_)
  · have h := h.1 c3
    refine er_incE (ls2 := [some (.inr n), some (.inr 2), some (.inr o), some (.inl x3), some (.inl (x4 + 1)), none, some (.inl x6), some (.inl x7), none]) rfl (Nat.le_of_ble_eq_true rfl) rfl d_N_connectChannels_160 ?_
    refine er_goto (tgt := 13) (by decide) d_N_connectChannels_163 ?_
    exact er_forget [some (.inr n), some (.inr 2), some (.inr o), some (.inl x3), some (.inl (x4 + 1)), none, none, none, none] (And.intro rfl (And.intro rfl (And.intro rfl (And.intro rfl (And.intro rfl trivial))))) h
  · have h := h.2 c3
    refine er_aload_n rfl rfl d_N_connectChannels_121 ?_
    refine er_iload_n rfl rfl d_N_connectChannels_122 ?_
    refine er_iconst d_N_connectChannels_123 ?_
    refine er_iadd d_N_connectChannels_124 ?_
    refine er_iload rfl d_N_connectChannels_125 ?_
    refine er_cN (As := [.inl (x3 + 1), .inl x4]) (st := [.inr o]) ml_N_70 mw_R_placeOf md_R_placeOf ⟨rfl, rfl⟩ rfl (Nat.le_of_ble_eq_true rfl) ⟨(Nat.le_of_ble_eq_true rfl), (Nat.le_of_ble_eq_true rfl)⟩ rfl d_N_connectChannels_127 h (fun v5 m4 h => ?_)
    obtain ⟨a6, a7, h⟩ := h
    refine er_zald ho (by decide) a6 a7 d_N_connectChannels_130 ?_
    obtain ⟨a8, h⟩ := h
    refine er_if_eq (tgt := 138) (by decide) a8 d_N_connectChannels_131 (fun c9 => ?_) (fun c9 => ?_)
    · have h := h.1 c9
      refine er_iconst d_N_connectChannels_138 ?_
      refine er_istF (Nat.le_of_ble_eq_true rfl) (ls2 := [some (.inr n), some (.inr 2), some (.inr o), some (.inl x3), some (.inl x4), none, some (.inl x6), some (.inl x7), some (.inl 0)]) rfl d_N_connectChannels_139 ?_
      refine er_aload_n rfl rfl d_N_connectChannels_141 ?_
      refine er_iload_n rfl rfl d_N_connectChannels_142 ?_
      refine er_iconst d_N_connectChannels_143 ?_
      refine er_iadd d_N_connectChannels_144 ?_
      refine er_iload rfl d_N_connectChannels_145 ?_
      refine er_cN (As := [.inl (x3 + 1), .inl x4]) (st := [.inr n]) ml_N_77 mw_R_tileAt md_R_tileAt ⟨rfl, rfl⟩ rfl (Nat.le_of_ble_eq_true rfl) ⟨(Nat.le_of_ble_eq_true rfl), (Nat.le_of_ble_eq_true rfl)⟩ rfl d_N_connectChannels_147 h (fun v11 m10 h => ?_)
      refine er_iload rfl d_N_connectChannels_150 ?_
      refine er_iload rfl d_N_connectChannels_152 ?_
      refine er_iload rfl d_N_connectChannels_154 ?_
      refine er_iadd d_N_connectChannels_156 ?_
      refine er_cVV (As := [.inl v11, .inl x6, .inl (x7 + 0)]) (st := []) ml_N_87 mw_N_connectBothWays md_N_connectBothWays ⟨rfl, rfl⟩ rfl (Nat.le_of_ble_eq_true rfl) (shN_0 hn) rfl ⟨(Nat.le_of_ble_eq_true rfl), (Nat.le_of_ble_eq_true rfl)⟩ rfl d_N_connectChannels_157 h (fun m12 h => ?_)
      refine er_incE (ls2 := [some (.inr n), some (.inr 2), some (.inr o), some (.inl x3), some (.inl (x4 + 1)), none, some (.inl x6), some (.inl x7), some (.inl 0)]) rfl (Nat.le_of_ble_eq_true rfl) rfl d_N_connectChannels_160 ?_
      refine er_goto (tgt := 13) (by decide) d_N_connectChannels_163 ?_
      exact er_forget [some (.inr n), some (.inr 2), some (.inr o), some (.inl x3), some (.inl (x4 + 1)), none, none, none, none] (And.intro rfl (And.intro rfl (And.intro rfl (And.intro rfl (And.intro rfl trivial))))) h
    · have h := h.2 c9
      refine er_iconst d_N_connectChannels_134 ?_
      refine er_goto (tgt := 139) (by decide) d_N_connectChannels_135 ?_
      refine er_istF (Nat.le_of_ble_eq_true rfl) (ls2 := [some (.inr n), some (.inr 2), some (.inr o), some (.inl x3), some (.inl x4), none, some (.inl x6), some (.inl x7), some (.inl 1)]) rfl d_N_connectChannels_139 ?_
      refine er_aload_n rfl rfl d_N_connectChannels_141 ?_
      refine er_iload_n rfl rfl d_N_connectChannels_142 ?_
      refine er_iconst d_N_connectChannels_143 ?_
      refine er_iadd d_N_connectChannels_144 ?_
      refine er_iload rfl d_N_connectChannels_145 ?_
      refine er_cN (As := [.inl (x3 + 1), .inl x4]) (st := [.inr n]) ml_N_77 mw_R_tileAt md_R_tileAt ⟨rfl, rfl⟩ rfl (Nat.le_of_ble_eq_true rfl) ⟨(Nat.le_of_ble_eq_true rfl), (Nat.le_of_ble_eq_true rfl)⟩ rfl d_N_connectChannels_147 h (fun v14 m13 h => ?_)
      refine er_iload rfl d_N_connectChannels_150 ?_
      refine er_iload rfl d_N_connectChannels_152 ?_
      refine er_iload rfl d_N_connectChannels_154 ?_
      refine er_iadd d_N_connectChannels_156 ?_
      refine er_cVV (As := [.inl v14, .inl x6, .inl (x7 + 1)]) (st := []) ml_N_87 mw_N_connectBothWays md_N_connectBothWays ⟨rfl, rfl⟩ rfl (Nat.le_of_ble_eq_true rfl) (shN_0 hn) rfl ⟨(Nat.le_of_ble_eq_true rfl), (Nat.le_of_ble_eq_true rfl)⟩ rfl d_N_connectChannels_157 h (fun m15 h => ?_)
      refine er_incE (ls2 := [some (.inr n), some (.inr 2), some (.inr o), some (.inl x3), some (.inl (x4 + 1)), none, some (.inl x6), some (.inl x7), some (.inl 1)]) rfl (Nat.le_of_ble_eq_true rfl) rfl d_N_connectChannels_160 ?_
      refine er_goto (tgt := 13) (by decide) d_N_connectChannels_163 ?_
      exact er_forget [some (.inr n), some (.inr 2), some (.inr o), some (.inl x3), some (.inl (x4 + 1)), none, none, none, none] (And.intro rfl (And.intro rfl (And.intro rfl (And.intro rfl (And.intro rfl trivial))))) h
theorem vc_N_connectChannels {K : er_K} {n o : Nat} {m : er_M} {Q : er_M → Prop} (hn : er_isN n) (ho : er_isO o) (h : wp_N_connectChannels_2 K n o 0 m Q) : er_SV K mi_N_connectChannels [.inr n, .inr 2, .inr o] m Q := by
  refine er_start (by decide) (Nat.le_of_ble_eq_true rfl) ?_
  show er_WP K mi_N_connectChannels 0 0 er_SH m 0 [some (.inr n), some (.inr 2), some (.inr o), none, none, none, none, none, none] [] _
  refine er_iconst d_N_connectChannels_0 ?_
  refine er_istE 3 rfl (Nat.le_of_ble_eq_true rfl) (ls2 := [some (.inr n), some (.inr 2), some (.inr o), some (.inl 0), none, none, none, none, none]) rfl d_N_connectChannels_1 ?_
  exact er_forget [some (.inr n), some (.inr 2), some (.inr o), some (.inl 0), none, none, none, none, none] (And.intro rfl (And.intro rfl (And.intro rfl (And.intro rfl trivial)))) h
theorem vc_N_connectBothWays {K : er_K} {n : Nat} {p1 p2 p3 : Int} {m : er_M} {Q : er_M → Prop} (hn : er_isN n) (h : er_SV K mi_N_connect [.inr n, .inl (87 + p1), .inl (38 + p2), .inl p3] m (fun m1 => er_SV K mi_N_connect [.inr n, .inl (87 + p2), .inl (38 + p1), .inl p3] m1 (fun m2 => Q m2))) : er_SV K mi_N_connectBothWays [.inr n, .inl p1, .inl p2, .inl p3] m Q := by
  refine er_start (by decide) (Nat.le_of_ble_eq_true rfl) ?_
  show er_WP K mi_N_connectBothWays 0 0 er_SH m 0 [some (.inr n), some (.inl p1), some (.inl p2), some (.inl p3)] [] _
  refine er_aload_n rfl rfl d_N_connectBothWays_0 ?_
  refine er_bipush (by decide) d_N_connectBothWays_1 ?_
  refine er_iload_n rfl rfl d_N_connectBothWays_3 ?_
  refine er_iadd d_N_connectBothWays_4 ?_
  refine er_bipush (by decide) d_N_connectBothWays_5 ?_
  refine er_iload_n rfl rfl d_N_connectBothWays_7 ?_
  refine er_iadd d_N_connectBothWays_8 ?_
  refine er_iload_n rfl rfl d_N_connectBothWays_9 ?_
  refine er_cVV (As := [.inl (87 + p1), .inl (38 + p2), .inl p3]) (st := []) ml_N_46 mw_N_connect md_N_connect ⟨rfl, rfl⟩ rfl (Nat.le_of_ble_eq_true rfl) (shN_0 hn) rfl ⟨(Nat.le_of_ble_eq_true rfl), (Nat.le_of_ble_eq_true rfl)⟩ rfl d_N_connectBothWays_10 h (fun m1 h => ?_)
  refine er_aload_n rfl rfl d_N_connectBothWays_13 ?_
  refine er_bipush (by decide) d_N_connectBothWays_14 ?_
  refine er_iload_n rfl rfl d_N_connectBothWays_16 ?_
  refine er_iadd d_N_connectBothWays_17 ?_
  refine er_bipush (by decide) d_N_connectBothWays_18 ?_
  refine er_iload_n rfl rfl d_N_connectBothWays_20 ?_
  refine er_iadd d_N_connectBothWays_21 ?_
  refine er_iload_n rfl rfl d_N_connectBothWays_22 ?_
  refine er_cVV (As := [.inl (87 + p2), .inl (38 + p1), .inl p3]) (st := []) ml_N_46 mw_N_connect md_N_connect ⟨rfl, rfl⟩ rfl (Nat.le_of_ble_eq_true rfl) (shN_0 hn) rfl ⟨(Nat.le_of_ble_eq_true rfl), (Nat.le_of_ble_eq_true rfl)⟩ rfl d_N_connectBothWays_23 h (fun m2 h => ?_)
  exact er_vretE rfl rfl d_N_connectBothWays_26 h
theorem vc_N_connect {K : er_K} {n : Nat} {p1 p2 p3 : Int} {m : er_M} {Q : er_M → Prop} (hn : er_isN n) (h : (er_in ((m n 8) + 1)) ∧ (((((m n 8) + 1) < 746 → (0 ≤ (m n 8)) ∧ ((m n 8) < 746) ∧ (∀ m5 : er_M, m5 = er_st m (n + 3) (m n 8) p2 → ∀ m6 : er_M, m6 = er_st m5 (n + 4) (m n 8) p3 → (0 ≤ p1) ∧ (p1 < 136) ∧ (∀ m9 : er_M, m9 = er_st m6 (n + 2) (m n 8) (m6 (n + 1) p1) → ∀ m10 : er_M, m10 = er_st m9 (n + 1) p1 (m n 8) → (0 ≤ ((m n 8) + 1)) ∧ (((m n 8) + 1) < 746) ∧ (∀ m13 : er_M, m13 = er_st m10 (n + 3) ((m n 8) + 1) p1 → ∀ m14 : er_M, m14 = er_st m13 (n + 4) ((m n 8) + 1) 0 → (0 ≤ p2) ∧ (p2 < 136) ∧ (∀ m17 : er_M, m17 = er_st m14 (n + 2) ((m n 8) + 1) (m14 (n + 1) p2) → ∀ m18 : er_M, m18 = er_st m17 (n + 1) p2 ((m n 8) + 1) → ∀ m19 : er_M, m19 = er_st m18 n 8 ((m18 n 8) + 2) → Q m19))))) ∧ (746 ≤ ((m n 8) + 1) → Q m)))) : er_SV K mi_N_connect [.inr n, .inl p1, .inl p2, .inl p3] m Q := by
  refine er_start (by decide) (Nat.le_of_ble_eq_true rfl) ?_
  show er_WP K mi_N_connect 0 0 er_SH m 0 [some (.inr n), some (.inl p1), some (.inl p2), some (.inl p3), none, none] [] _
  refine er_aload_n rfl rfl d_N_connect_0 ?_
  refine er_getIE 8 rfl fl_N_36 (shN_0 hn) (by decide) rfl d_N_connect_1 ?_
  refine er_istF (Nat.le_of_ble_eq_true rfl) (ls2 := [some (.inr n), some (.inl p1), some (.inl p2), some (.inl p3), some (.inl (m n 8)), none]) rfl d_N_connect_4 ?_
  refine er_iload rfl d_N_connect_6 ?_
  refine er_iconst d_N_connect_8 ?_
  refine er_iadd d_N_connect_9 ?_
  refine er_istF (Nat.le_of_ble_eq_true rfl) (ls2 := [some (.inr n), some (.inl p1), some (.inl p2), some (.inl p3), some (.inl (m n 8)), some (.inl ((m n 8) + 1))]) rfl d_N_connect_10 ?_
  refine er_iload rfl d_N_connect_12 ?_
  refine er_sipush (by decide) d_N_connect_14 ?_
  obtain ⟨a1, h⟩ := h
  refine er_icmp_lt (tgt := 21) (by decide) a1 (by decide) d_N_connect_17 (fun c2 => ?_) (fun c2 => ?_)
  · have h := h.1 c2
    refine er_aload_n rfl rfl d_N_connect_21 ?_
    refine er_getR fl_N_18 (shN_0 hn) (by decide) rfl (Nat.succ_ne_zero _) d_N_connect_22 ?_
    refine er_iload rfl d_N_connect_25 ?_
    refine er_iload_n rfl rfl d_N_connect_27 ?_
    obtain ⟨a3, a4, h⟩ := h
    refine er_iastE (shN_3 hn) (by decide) a3 a4 d_N_connect_28 (fun m5 hm => ?_)
    have h := h m5 hm
    refine er_aload_n rfl rfl d_N_connect_29 ?_
    refine er_getR fl_N_21 (shN_0 hn) (by decide) rfl (Nat.succ_ne_zero _) d_N_connect_30 ?_
    refine er_iload rfl d_N_connect_33 ?_
    refine er_iload_n rfl rfl d_N_connect_35 ?_
    refine er_iastE (shN_4 hn) (by decide) a3 a4 d_N_connect_36 (fun m6 hm => ?_)
    have h := h m6 hm
    refine er_aload_n rfl rfl d_N_connect_37 ?_
    refine er_getR fl_N_15 (shN_0 hn) (by decide) rfl (Nat.succ_ne_zero _) d_N_connect_38 ?_
    refine er_iload rfl d_N_connect_41 ?_
    refine er_aload_n rfl rfl d_N_connect_43 ?_
    refine er_getR fl_N_11 (shN_0 hn) (by decide) rfl (Nat.succ_ne_zero _) d_N_connect_44 ?_
    refine er_iload_n rfl rfl d_N_connect_47 ?_
    obtain ⟨a7, a8, h⟩ := h
    refine er_iald (shN_1 hn) (by decide) a7 a8 d_N_connect_48 ?_
    refine er_iastE (shN_2 hn) (by decide) a3 a4 d_N_connect_49 (fun m9 hm => ?_)
    have h := h m9 hm
    refine er_aload_n rfl rfl d_N_connect_50 ?_
    refine er_getR fl_N_11 (shN_0 hn) (by decide) rfl (Nat.succ_ne_zero _) d_N_connect_51 ?_
    refine er_iload_n rfl rfl d_N_connect_54 ?_
    refine er_iload rfl d_N_connect_55 ?_
    refine er_iastE (shN_1 hn) (by decide) a7 a8 d_N_connect_57 (fun m10 hm => ?_)
    have h := h m10 hm
    refine er_aload_n rfl rfl d_N_connect_58 ?_
    refine er_getR fl_N_18 (shN_0 hn) (by decide) rfl (Nat.succ_ne_zero _) d_N_connect_59 ?_
    refine er_iload rfl d_N_connect_62 ?_
    refine er_iload_n rfl rfl d_N_connect_64 ?_
    obtain ⟨a11, a12, h⟩ := h
    refine er_iastE (shN_3 hn) (by decide) a11 a12 d_N_connect_65 (fun m13 hm => ?_)
    have h := h m13 hm
    refine er_aload_n rfl rfl d_N_connect_66 ?_
    refine er_getR fl_N_21 (shN_0 hn) (by decide) rfl (Nat.succ_ne_zero _) d_N_connect_67 ?_
    refine er_iload rfl d_N_connect_70 ?_
    refine er_iconst d_N_connect_72 ?_
    refine er_iastE (shN_4 hn) (by decide) a11 a12 d_N_connect_73 (fun m14 hm => ?_)
    have h := h m14 hm
    refine er_aload_n rfl rfl d_N_connect_74 ?_
    refine er_getR fl_N_15 (shN_0 hn) (by decide) rfl (Nat.succ_ne_zero _) d_N_connect_75 ?_
    refine er_iload rfl d_N_connect_78 ?_
    refine er_aload_n rfl rfl d_N_connect_80 ?_
    refine er_getR fl_N_11 (shN_0 hn) (by decide) rfl (Nat.succ_ne_zero _) d_N_connect_81 ?_
    refine er_iload_n rfl rfl d_N_connect_84 ?_
    obtain ⟨a15, a16, h⟩ := h
    refine er_iald (shN_1 hn) (by decide) a15 a16 d_N_connect_85 ?_
    refine er_iastE (shN_2 hn) (by decide) a11 a12 d_N_connect_86 (fun m17 hm => ?_)
    have h := h m17 hm
    refine er_aload_n rfl rfl d_N_connect_87 ?_
    refine er_getR fl_N_11 (shN_0 hn) (by decide) rfl (Nat.succ_ne_zero _) d_N_connect_88 ?_
    refine er_iload_n rfl rfl d_N_connect_91 ?_
    refine er_iload rfl d_N_connect_92 ?_
    refine er_iastE (shN_1 hn) (by decide) a15 a16 d_N_connect_94 (fun m18 hm => ?_)
    have h := h m18 hm
    refine er_aload_n rfl rfl d_N_connect_95 ?_
    refine er_dup d_N_connect_96 ?_
    refine er_getIE 8 rfl fl_N_36 (shN_0 hn) (by decide) rfl d_N_connect_97 ?_
    refine er_iconst d_N_connect_100 ?_
    refine er_iadd d_N_connect_101 ?_
    refine er_putIE 8 rfl fl_N_36 (shN_0 hn) (by decide) rfl d_N_connect_102 (fun m19 hm => ?_)
    have h := h m19 hm
    exact er_vretE rfl rfl d_N_connect_105 h
  · have h := h.2 c2
    exact er_vretE rfl rfl d_N_connect_20 h
theorem vc_N_supply {K : er_K} {n : Nat} {p1 p2 : Int} {m : er_M} {Q : er_M → Prop} (hn : er_isN n) (h : (0 ≤ (2 * p1)) ∧ ((2 * p1) < 746) ∧ (∀ m3 : er_M, m3 = er_st m (n + 4) (2 * p1) p2 → Q m3)) : er_SV K mi_N_supply [.inr n, .inl p1, .inl p2] m Q := by
  refine er_start (by decide) (Nat.le_of_ble_eq_true rfl) ?_
  show er_WP K mi_N_supply 0 0 er_SH m 0 [some (.inr n), some (.inl p1), some (.inl p2)] [] _
  refine er_aload_n rfl rfl d_N_supply_0 ?_
  refine er_getR fl_N_21 (shN_0 hn) (by decide) rfl (Nat.succ_ne_zero _) d_N_supply_1 ?_
  refine er_iconst d_N_supply_4 ?_
  refine er_iload_n rfl rfl d_N_supply_5 ?_
  refine er_imul d_N_supply_6 ?_
  refine er_iload_n rfl rfl d_N_supply_7 ?_
  obtain ⟨a1, a2, h⟩ := h
  refine er_iastE (shN_4 hn) (by decide) a1 a2 d_N_supply_8 (fun m3 hm => ?_)
  have h := h m3 hm
  exact er_vretE rfl rfl d_N_supply_9 h
theorem vc_N_keepFlow {K : er_K} {n : Nat} {m : er_M} {Q : er_M → Prop} (hn : er_isN n) (h : ∀ m1 : er_M, m1 = er_cpy m (n + 4) (n + 5) 746 → Q m1) : er_SV K mi_N_keepFlow [.inr n] m Q := by
  refine er_start (by decide) (Nat.le_of_ble_eq_true rfl) ?_
  show er_WP K mi_N_keepFlow 0 0 er_SH m 0 [some (.inr n)] [] _
  refine er_aload_n rfl rfl d_N_keepFlow_0 ?_
  refine er_getR fl_N_21 (shN_0 hn) (by decide) rfl (Nat.succ_ne_zero _) d_N_keepFlow_1 ?_
  refine er_iconst d_N_keepFlow_4 ?_
  refine er_aload_n rfl rfl d_N_keepFlow_5 ?_
  refine er_getR fl_N_24 (shN_0 hn) (by decide) rfl (Nat.succ_ne_zero _) d_N_keepFlow_6 ?_
  refine er_iconst d_N_keepFlow_9 ?_
  refine er_sipush (by decide) d_N_keepFlow_10 ?_
  refine er_copyE mc_N_90 (by decide) (shN_4 hn) (shN_5 hn) (by decide) (by decide) (by decide) (by decide) (fun z => absurd z (by decide)) (Nat.le_of_ble_eq_true rfl) ⟨(Nat.le_of_ble_eq_true rfl), (Nat.le_of_ble_eq_true rfl)⟩ d_N_keepFlow_13 (fun m1 hm => ?_)
  have h := h m1 hm
  exact er_vretE rfl rfl d_N_keepFlow_16 h
theorem vc_N_giveFlowBack {K : er_K} {n : Nat} {m : er_M} {Q : er_M → Prop} (hn : er_isN n) (h : ∀ m1 : er_M, m1 = er_cpy m (n + 5) (n + 4) 746 → Q m1) : er_SV K mi_N_giveFlowBack [.inr n] m Q := by
  refine er_start (by decide) (Nat.le_of_ble_eq_true rfl) ?_
  show er_WP K mi_N_giveFlowBack 0 0 er_SH m 0 [some (.inr n)] [] _
  refine er_aload_n rfl rfl d_N_giveFlowBack_0 ?_
  refine er_getR fl_N_24 (shN_0 hn) (by decide) rfl (Nat.succ_ne_zero _) d_N_giveFlowBack_1 ?_
  refine er_iconst d_N_giveFlowBack_4 ?_
  refine er_aload_n rfl rfl d_N_giveFlowBack_5 ?_
  refine er_getR fl_N_21 (shN_0 hn) (by decide) rfl (Nat.succ_ne_zero _) d_N_giveFlowBack_6 ?_
  refine er_iconst d_N_giveFlowBack_9 ?_
  refine er_sipush (by decide) d_N_giveFlowBack_10 ?_
  refine er_copyE mc_N_90 (by decide) (shN_5 hn) (shN_4 hn) (by decide) (by decide) (by decide) (by decide) (fun z => absurd z (by decide)) (Nat.le_of_ble_eq_true rfl) ⟨(Nat.le_of_ble_eq_true rfl), (Nat.le_of_ble_eq_true rfl)⟩ d_N_giveFlowBack_13 (fun m1 hm => ?_)
  have h := h m1 hm
  exact er_vretE rfl rfl d_N_giveFlowBack_16 h
def wp_N_pushAll_4 (K : er_K) (n : Nat) (x1 : Int) (x2 : Int) (m : er_M) (Q : Int → er_M → Prop) : Prop := er_WP K mi_N_pushAll 0 0 er_SH m 4 [some (.inr n), some (.inl x1), some (.inl x2), none] [] (er_Z K mi_N_pushAll (er_PI Q))
theorem vc_N_pushAll_4 {K : er_K} {n : Nat} {x1 : Int} {x2 : Int} {m : er_M} {Q : Int → er_M → Prop} (hn : er_isN n) (h : (er_in x2) ∧ (((217 ≤ x2 → Q x1 m) ∧ (x2 < 217 → er_SI K mi_N_push [.inr n] m (fun v4 m3 => (er_in v4) ∧ (((v4 ≠ 0 → wp_N_pushAll_4 K n (x1 + v4) (x2 + 1) m3 Q) ∧ (v4 = 0 → Q x1 m3)))))))) : wp_N_pushAll_4 K n x1 x2 m Q := by
  show er_WP K mi_N_pushAll 0 0 er_SH m 4 [some (.inr n), some (.inl x1), some (.inl x2), none] [] _
  refine er_iload_n rfl rfl d_N_pushAll_4 ?_
  refine er_sipush (by decide) d_N_pushAll_5 ?_
  obtain ⟨a1, h⟩ := h
  refine er_icmp_ge (tgt := 33) (by decide) a1 (by decide) d_N_pushAll_8 (fun c2 => ?_) (fun c2 => ?_)
  · have h := h.1 c2
    refine er_iload_n rfl rfl d_N_pushAll_33 ?_
    exact er_iretE rfl rfl d_N_pushAll_34 h
  · have h := h.2 c2
    refine er_aload_n rfl rfl d_N_pushAll_11 ?_
    refine er_cVI (As := []) (st := []) ml_N_96 mw_N_push md_N_push ⟨rfl, rfl⟩ rfl (Nat.le_of_ble_eq_true rfl) (shN_0 hn) rfl ⟨(Nat.le_of_ble_eq_true rfl), (Nat.le_of_ble_eq_true rfl)⟩ rfl d_N_pushAll_12 h (fun v4 m3 h => ?_)
    refine er_istE 3 rfl (Nat.le_of_ble_eq_true rfl) (ls2 := [some (.inr n), some (.inl x1), some (.inl x2), some (.inl v4)]) rfl d_N_pushAll_15 ?_
    refine er_iload_n rfl rfl d_N_pushAll_16 ?_
    obtain ⟨a5, h⟩ := h
    refine er_if_ne (tgt := 23) (by decide) a5 d_N_pushAll_17 (fun c6 => ?_) (fun c6 => ?_)
    · have h := h.1 c6
      refine er_iload_n rfl rfl d_N_pushAll_23 ?_
      refine er_iload_n rfl rfl d_N_pushAll_24 ?_
      refine er_iadd d_N_pushAll_25 ?_
      refine er_istE 1 rfl (Nat.le_of_ble_eq_true rfl) (ls2 := [some (.inr n), some (.inl (x1 + v4)), some (.inl x2), some (.inl v4)]) rfl d_N_pushAll_26 ?_
      refine er_incE (ls2 := [some (.inr n), some (.inl (x1 + v4)), some (.inl (x2 + 1)), some (.inl v4)]) rfl (Nat.le_of_ble_eq_true rfl) rfl d_N_pushAll_27 ?_
      refine er_goto (tgt := 4) (by decide) d_N_pushAll_30 ?_
      exact er_forget [some (.inr n), some (.inl (x1 + v4)), some (.inl (x2 + 1)), none] (And.intro rfl (And.intro rfl (And.intro rfl trivial))) h
    · have h := h.2 c6
      refine er_goto (tgt := 33) (by decide) d_N_pushAll_20 ?_
      refine er_iload_n rfl rfl d_N_pushAll_33 ?_
      exact er_iretE rfl rfl d_N_pushAll_34 h
theorem vc_N_pushAll {K : er_K} {n : Nat} {m : er_M} {Q : Int → er_M → Prop} (hn : er_isN n) (h : wp_N_pushAll_4 K n 0 0 m Q) : er_SI K mi_N_pushAll [.inr n] m Q := by
  refine er_start (by decide) (Nat.le_of_ble_eq_true rfl) ?_
  show er_WP K mi_N_pushAll 0 0 er_SH m 0 [some (.inr n), none, none, none] [] _
  refine er_iconst d_N_pushAll_0 ?_
  refine er_istE 1 rfl (Nat.le_of_ble_eq_true rfl) (ls2 := [some (.inr n), some (.inl 0), none, none]) rfl d_N_pushAll_1 ?_
  refine er_iconst d_N_pushAll_2 ?_
  refine er_istE 2 rfl (Nat.le_of_ble_eq_true rfl) (ls2 := [some (.inr n), some (.inl 0), some (.inl 0), none]) rfl d_N_pushAll_3 ?_
  exact er_forget [some (.inr n), some (.inl 0), some (.inl 0), none] (And.intro rfl (And.intro rfl (And.intro rfl trivial))) h
def wp_N_push_16 (K : er_K) (n : Nat) (x1 : Int) (x2 : Int) (x3 : Int) (m : er_M) (Q : Int → er_M → Prop) : Prop := er_WP K mi_N_push 0 0 er_SH m 16 [some (.inr n), some (.inl x1), some (.inl x2), some (.inl x3), none] [] (er_Z K mi_N_push (er_PI Q))
def wp_N_push_67 (K : er_K) (n : Nat) (x1 : Int) (x2 : Int) (x3 : Int) (m : er_M) (Q : Int → er_M → Prop) : Prop := er_WP K mi_N_push 0 0 er_SH m 67 [some (.inr n), some (.inl x1), some (.inl x2), some (.inl x3), none] [] (er_Z K mi_N_push (er_PI Q))
theorem vc_N_push_16 {K : er_K} {n : Nat} {x1 : Int} {x2 : Int} {x3 : Int} {m : er_M} {Q : Int → er_M → Prop} (hn : er_isN n) (h : (er_in x3) ∧ (((136 ≤ x3 → wp_N_push_67 K n x1 1 0 m Q) ∧ (x3 < 136 → (er_in x2) ∧ (((x2 = 0 → wp_N_push_67 K n x1 1 0 m Q) ∧ (x2 ≠ 0 → (0 ≤ x2) ∧ (x2 < 136) ∧ ((0 ≤ (m (n + 7) x2)) ∧ ((m (n + 7) x2) < 746) ∧ ((er_in x1) ∧ (er_in (m (n + 4) (m (n + 7) x2))) ∧ ((0 ≤ (m (n + 7) x2)) ∧ ((m (n + 7) x2) < 2147483647) ∧ ((0 ≤ ((m (n + 7) x2) + 1 - 2 * ((m (n + 7) x2) % 2))) ∧ (((m (n + 7) x2) + 1 - 2 * ((m (n + 7) x2) % 2)) < 746) ∧ (wp_N_push_16 K n (min x1 (m (n + 4) (m (n + 7) x2))) (m (n + 3) ((m (n + 7) x2) + 1 - 2 * ((m (n + 7) x2) % 2))) (x3 + 1) m Q)))))))))))) : wp_N_push_16 K n x1 x2 x3 m Q := by
  show er_WP K mi_N_push 0 0 er_SH m 16 [some (.inr n), some (.inl x1), some (.inl x2), some (.inl x3), none] [] _
  refine er_iload_n rfl rfl d_N_push_16 ?_
  refine er_sipush (by decide) d_N_push_17 ?_
  obtain ⟨a1, h⟩ := h
  refine er_icmp_ge (tgt := 63) (by decide) a1 (by decide) d_N_push_20 (fun c2 => ?_) (fun c2 => ?_)
  · have h := h.1 c2
    refine er_iconst d_N_push_63 ?_
    refine er_istE 2 rfl (Nat.le_of_ble_eq_true rfl) (ls2 := [some (.inr n), some (.inl x1), some (.inl 1), some (.inl x3), none]) rfl d_N_push_64 ?_
    refine er_iconst d_N_push_65 ?_
    refine er_istE 3 rfl (Nat.le_of_ble_eq_true rfl) (ls2 := [some (.inr n), some (.inl x1), some (.inl 1), some (.inl 0), none]) rfl d_N_push_66 ?_
    exact er_forget [some (.inr n), some (.inl x1), some (.inl 1), some (.inl 0), none] (And.intro rfl (And.intro rfl (And.intro rfl (And.intro rfl trivial)))) h
  · have h := h.2 c2
    refine er_iload_n rfl rfl d_N_push_23 ?_
    obtain ⟨a3, h⟩ := h
    refine er_if_eq (tgt := 63) (by decide) a3 d_N_push_24 (fun c4 => ?_) (fun c4 => ?_)
    · have h := h.1 c4
      refine er_iconst d_N_push_63 ?_
      refine er_istE 2 rfl (Nat.le_of_ble_eq_true rfl) (ls2 := [some (.inr n), some (.inl x1), some (.inl 1), some (.inl x3), none]) rfl d_N_push_64 ?_
      refine er_iconst d_N_push_65 ?_
      refine er_istE 3 rfl (Nat.le_of_ble_eq_true rfl) (ls2 := [some (.inr n), some (.inl x1), some (.inl 1), some (.inl 0), none]) rfl d_N_push_66 ?_
      exact er_forget [some (.inr n), some (.inl x1), some (.inl 1), some (.inl 0), none] (And.intro rfl (And.intro rfl (And.intro rfl (And.intro rfl trivial)))) h
    · have h := h.2 c4
      refine er_aload_n rfl rfl d_N_push_27 ?_
      refine er_getR fl_N_30 (shN_0 hn) (by decide) rfl (Nat.succ_ne_zero _) d_N_push_28 ?_
      refine er_iload_n rfl rfl d_N_push_31 ?_
      obtain ⟨a5, a6, h⟩ := h
      refine er_iald (shN_7 hn) (by decide) a5 a6 d_N_push_32 ?_
      refine er_istF (Nat.le_of_ble_eq_true rfl) (ls2 := [some (.inr n), some (.inl x1), some (.inl x2), some (.inl x3), some (.inl (m (n + 7) x2))]) rfl d_N_push_33 ?_
      refine er_iload_n rfl rfl d_N_push_35 ?_
      refine er_aload_n rfl rfl d_N_push_36 ?_
      refine er_getR fl_N_21 (shN_0 hn) (by decide) rfl (Nat.succ_ne_zero _) d_N_push_37 ?_
      refine er_iload rfl d_N_push_40 ?_
      obtain ⟨a7, a8, h⟩ := h
      refine er_iald (shN_4 hn) (by decide) a7 a8 d_N_push_42 ?_
      obtain ⟨a9, a10, h⟩ := h
      refine er_min mm_N_104 a9 a10 (Nat.le_of_ble_eq_true rfl) ⟨(Nat.le_of_ble_eq_true rfl), (Nat.le_of_ble_eq_true rfl)⟩ ⟨Nat.zero_le _, Nat.zero_le _⟩ d_N_push_43 ?_
      refine er_istE 1 rfl (Nat.le_of_ble_eq_true rfl) (ls2 := [some (.inr n), some (.inl (min x1 (m (n + 4) (m (n + 7) x2)))), some (.inl x2), some (.inl x3), some (.inl (m (n + 7) x2))]) rfl d_N_push_46 ?_
      refine er_aload_n rfl rfl d_N_push_47 ?_
      refine er_getR fl_N_18 (shN_0 hn) (by decide) rfl (Nat.succ_ne_zero _) d_N_push_48 ?_
      refine er_iload rfl d_N_push_51 ?_
      refine er_iconst d_N_push_53 ?_
      obtain ⟨a11, a12, h⟩ := h
      refine er_ixor a11 a12 d_N_push_54 ?_
      obtain ⟨a13, a14, h⟩ := h
      refine er_iald (shN_3 hn) (by decide) a13 a14 d_N_push_55 ?_
      refine er_istE 2 rfl (Nat.le_of_ble_eq_true rfl) (ls2 := [some (.inr n), some (.inl (min x1 (m (n + 4) (m (n + 7) x2)))), some (.inl (m (n + 3) ((m (n + 7) x2) + 1 - 2 * ((m (n + 7) x2) % 2)))), some (.inl x3), some (.inl (m (n + 7) x2))]) rfl d_N_push_56 ?_
      refine er_incE (ls2 := [some (.inr n), some (.inl (min x1 (m (n + 4) (m (n + 7) x2)))), some (.inl (m (n + 3) ((m (n + 7) x2) + 1 - 2 * ((m (n + 7) x2) % 2)))), some (.inl (x3 + 1)), some (.inl (m (n + 7) x2))]) rfl (Nat.le_of_ble_eq_true rfl) rfl d_N_push_57 ?_
      refine er_goto (tgt := 16) (by decide) d_N_push_60 ?_
      exact er_forget [some (.inr n), some (.inl (min x1 (m (n + 4) (m (n + 7) x2)))), some (.inl (m (n + 3) ((m (n + 7) x2) + 1 - 2 * ((m (n + 7) x2) % 2)))), some (.inl (x3 + 1)), none] (And.intro rfl (And.intro rfl (And.intro rfl (And.intro rfl trivial)))) h
theorem vc_N_push_67 {K : er_K} {n : Nat} {x1 : Int} {x2 : Int} {x3 : Int} {m : er_M} {Q : Int → er_M → Prop} (hn : er_isN n) (h : (er_in x3) ∧ (((136 ≤ x3 → Q x1 m) ∧ (x3 < 136 → (er_in x2) ∧ (((x2 = 0 → Q x1 m) ∧ (x2 ≠ 0 → (0 ≤ x2) ∧ (x2 < 136) ∧ ((0 ≤ (m (n + 7) x2)) ∧ ((m (n + 7) x2) < 746) ∧ (∀ m9 : er_M, m9 = er_st m (n + 4) (m (n + 7) x2) ((m (n + 4) (m (n + 7) x2)) - x1) → (0 ≤ (m (n + 7) x2)) ∧ ((m (n + 7) x2) < 2147483647) ∧ ((0 ≤ ((m (n + 7) x2) + 1 - 2 * ((m (n + 7) x2) % 2))) ∧ (((m (n + 7) x2) + 1 - 2 * ((m (n + 7) x2) % 2)) < 746) ∧ (∀ m14 : er_M, m14 = er_st m9 (n + 4) ((m (n + 7) x2) + 1 - 2 * ((m (n + 7) x2) % 2)) ((m9 (n + 4) ((m (n + 7) x2) + 1 - 2 * ((m (n + 7) x2) % 2))) + x1) → wp_N_push_67 K n x1 (m14 (n + 3) ((m (n + 7) x2) + 1 - 2 * ((m (n + 7) x2) % 2))) (x3 + 1) m14 Q))))))))))) : wp_N_push_67 K n x1 x2 x3 m Q := by
  show er_WP K mi_N_push 0 0 er_SH m 67 [some (.inr n), some (.inl x1), some (.inl x2), some (.inl x3), none] [] _
  refine er_iload_n rfl rfl d_N_push_67 ?_
  refine er_sipush (by decide) d_N_push_68 ?_
  obtain ⟨a1, h⟩ := h
  refine er_icmp_ge (tgt := 126) (by decide) a1 (by decide) d_N_push_71 (fun c2 => ?_) (fun c2 => ?_)
  · have h := h.1 c2
    refine er_iload_n rfl rfl d_N_push_126 ?_
    exact er_iretE rfl rfl d_N_push_127 h
  · have h := h.2 c2
    refine er_iload_n rfl rfl d_N_push_74 ?_
    obtain ⟨a3, h⟩ := h
    refine er_if_eq (tgt := 126) (by decide) a3 d_N_push_75 (fun c4 => ?_) (fun c4 => ?_)
    · have h := h.1 c4
      refine er_iload_n rfl rfl d_N_push_126 ?_
      exact er_iretE rfl rfl d_N_push_127 h
    · have h := h.2 c4
      refine er_aload_n rfl rfl d_N_push_78 ?_
      refine er_getR fl_N_30 (shN_0 hn) (by decide) rfl (Nat.succ_ne_zero _) d_N_push_79 ?_
      refine er_iload_n rfl rfl d_N_push_82 ?_
      obtain ⟨a5, a6, h⟩ := h
      refine er_iald (shN_7 hn) (by decide) a5 a6 d_N_push_83 ?_
      refine er_istF (Nat.le_of_ble_eq_true rfl) (ls2 := [some (.inr n), some (.inl x1), some (.inl x2), some (.inl x3), some (.inl (m (n + 7) x2))]) rfl d_N_push_84 ?_
      refine er_aload_n rfl rfl d_N_push_86 ?_
      refine er_getR fl_N_21 (shN_0 hn) (by decide) rfl (Nat.succ_ne_zero _) d_N_push_87 ?_
      refine er_iload rfl d_N_push_90 ?_
      refine er_dup2 d_N_push_92 ?_
      obtain ⟨a7, a8, h⟩ := h
      refine er_iald (shN_4 hn) (by decide) a7 a8 d_N_push_93 ?_
      refine er_iload_n rfl rfl d_N_push_94 ?_
      refine er_isub d_N_push_95 ?_
      refine er_iastE (shN_4 hn) (by decide) a7 a8 d_N_push_96 (fun m9 hm => ?_)
      have h := h m9 hm
      refine er_aload_n rfl rfl d_N_push_97 ?_
      refine er_getR fl_N_21 (shN_0 hn) (by decide) rfl (Nat.succ_ne_zero _) d_N_push_98 ?_
      refine er_iload rfl d_N_push_101 ?_
      refine er_iconst d_N_push_103 ?_
      obtain ⟨a10, a11, h⟩ := h
      refine er_ixor a10 a11 d_N_push_104 ?_
      refine er_dup2 d_N_push_105 ?_
      obtain ⟨a12, a13, h⟩ := h
      refine er_iald (shN_4 hn) (by decide) a12 a13 d_N_push_106 ?_
      refine er_iload_n rfl rfl d_N_push_107 ?_
      refine er_iadd d_N_push_108 ?_
      refine er_iastE (shN_4 hn) (by decide) a12 a13 d_N_push_109 (fun m14 hm => ?_)
      have h := h m14 hm
      refine er_aload_n rfl rfl d_N_push_110 ?_
      refine er_getR fl_N_18 (shN_0 hn) (by decide) rfl (Nat.succ_ne_zero _) d_N_push_111 ?_
      refine er_iload rfl d_N_push_114 ?_
      refine er_iconst d_N_push_116 ?_
      refine er_ixor a10 a11 d_N_push_117 ?_
      refine er_iald (shN_3 hn) (by decide) a12 a13 d_N_push_118 ?_
      refine er_istE 2 rfl (Nat.le_of_ble_eq_true rfl) (ls2 := [some (.inr n), some (.inl x1), some (.inl (m14 (n + 3) ((m (n + 7) x2) + 1 - 2 * ((m (n + 7) x2) % 2)))), some (.inl x3), some (.inl (m (n + 7) x2))]) rfl d_N_push_119 ?_
      refine er_incE (ls2 := [some (.inr n), some (.inl x1), some (.inl (m14 (n + 3) ((m (n + 7) x2) + 1 - 2 * ((m (n + 7) x2) % 2)))), some (.inl (x3 + 1)), some (.inl (m (n + 7) x2))]) rfl (Nat.le_of_ble_eq_true rfl) rfl d_N_push_120 ?_
      refine er_goto (tgt := 67) (by decide) d_N_push_123 ?_
      exact er_forget [some (.inr n), some (.inl x1), some (.inl (m14 (n + 3) ((m (n + 7) x2) + 1 - 2 * ((m (n + 7) x2) % 2)))), some (.inl (x3 + 1)), none] (And.intro rfl (And.intro rfl (And.intro rfl (And.intro rfl trivial)))) h
theorem vc_N_push {K : er_K} {n : Nat} {m : er_M} {Q : Int → er_M → Prop} (hn : er_isN n) (h : er_SI K mi_N_findWay [.inr n] m (fun v2 m1 => (er_in v2) ∧ (((v2 ≠ 0 → wp_N_push_16 K n 1000000 1 0 m1 Q) ∧ (v2 = 0 → Q 0 m1))))) : er_SI K mi_N_push [.inr n] m Q := by
  refine er_start (by decide) (Nat.le_of_ble_eq_true rfl) ?_
  show er_WP K mi_N_push 0 0 er_SH m 0 [some (.inr n), none, none, none, none] [] _
  refine er_aload_n rfl rfl d_N_push_0 ?_
  refine er_cVI (As := []) (st := []) ml_N_100 mw_N_findWay md_N_findWay ⟨rfl, rfl⟩ rfl (Nat.le_of_ble_eq_true rfl) (shN_0 hn) rfl ⟨(Nat.le_of_ble_eq_true rfl), (Nat.le_of_ble_eq_true rfl)⟩ rfl d_N_push_1 h (fun v2 m1 h => ?_)
  obtain ⟨a3, h⟩ := h
  refine er_if_ne (tgt := 9) (by decide) a3 d_N_push_4 (fun c4 => ?_) (fun c4 => ?_)
  · have h := h.1 c4
    refine er_ldc kc_N_83 d_N_push_9 ?_
    refine er_istE 1 rfl (Nat.le_of_ble_eq_true rfl) (ls2 := [some (.inr n), some (.inl 1000000), none, none, none]) rfl d_N_push_11 ?_
    refine er_iconst d_N_push_12 ?_
    refine er_istE 2 rfl (Nat.le_of_ble_eq_true rfl) (ls2 := [some (.inr n), some (.inl 1000000), some (.inl 1), none, none]) rfl d_N_push_13 ?_
    refine er_iconst d_N_push_14 ?_
    refine er_istE 3 rfl (Nat.le_of_ble_eq_true rfl) (ls2 := [some (.inr n), some (.inl 1000000), some (.inl 1), some (.inl 0), none]) rfl d_N_push_15 ?_
    exact er_forget [some (.inr n), some (.inl 1000000), some (.inl 1), some (.inl 0), none] (And.intro rfl (And.intro rfl (And.intro rfl (And.intro rfl trivial)))) h
  · have h := h.2 c4
    refine er_iconst d_N_push_7 ?_
    exact er_iretE rfl rfl d_N_push_8 h
def wp_N_findWay_31 (K : er_K) (n : Nat) (x1 : Int) (x2 : Int) (m : er_M) (Q : Int → er_M → Prop) : Prop := er_WP K mi_N_findWay 0 0 er_SH m 31 [some (.inr n), some (.inl x1), some (.inl x2), none, none, none] [] (er_Z K mi_N_findWay (er_PI Q))
def wp_N_findWay_58 (K : er_K) (n : Nat) (x1 : Int) (x2 : Int) (x3 : Int) (x4 : Int) (m : er_M) (Q : Int → er_M → Prop) : Prop := er_WP K mi_N_findWay 0 0 er_SH m 58 [some (.inr n), some (.inl x1), some (.inl x2), some (.inl x3), some (.inl x4), none] [] (er_Z K mi_N_findWay (er_PI Q))
def wp_N_findWay_147 (K : er_K) (n : Nat) (x1 : Int) (x2 : Int) (x3 : Int) (x4 : Int) (m : er_M) (Q : Int → er_M → Prop) : Prop := er_WP K mi_N_findWay 0 0 er_SH m 147 [some (.inr n), some (.inl x1), some (.inl x2), some (.inl x3), some (.inl x4), none] [] (er_Z K mi_N_findWay (er_PI Q))
theorem vc_N_findWay_31 {K : er_K} {n : Nat} {x1 : Int} {x2 : Int} {m : er_M} {Q : Int → er_M → Prop} (hn : er_isN n) (h : (er_in x2) ∧ (er_in x1) ∧ (((x1 ≤ x2 → Q 0 m) ∧ (x2 < x1 → ((136 ≤ x2 → Q 0 m) ∧ (x2 < 136 → (0 ≤ x2) ∧ (x2 < 136) ∧ ((0 ≤ (m (n + 8) x2)) ∧ ((m (n + 8) x2) < 136) ∧ (wp_N_findWay_58 K n x1 x2 (m (n + 1) (m (n + 8) x2)) 0 m Q)))))))) : wp_N_findWay_31 K n x1 x2 m Q := by
  show er_WP K mi_N_findWay 0 0 er_SH m 31 [some (.inr n), some (.inl x1), some (.inl x2), none, none, none] [] _
  refine er_iload_n rfl rfl d_N_findWay_31 ?_
  refine er_iload_n rfl rfl d_N_findWay_32 ?_
  obtain ⟨a1, a2, h⟩ := h
  refine er_icmp_ge (tgt := 166) (by decide) a1 a2 d_N_findWay_33 (fun c3 => ?_) (fun c3 => ?_)
  · have h := h.1 c3
    refine er_iconst d_N_findWay_166 ?_
    exact er_zretE rfl (Or.inl rfl) rfl d_N_findWay_167 h
  · have h := h.2 c3
    refine er_iload_n rfl rfl d_N_findWay_36 ?_
    refine er_sipush (by decide) d_N_findWay_37 ?_
    refine er_icmp_ge (tgt := 166) (by decide) a1 (by decide) d_N_findWay_40 (fun c4 => ?_) (fun c4 => ?_)
    · have h := h.1 c4
      refine er_iconst d_N_findWay_166 ?_
      exact er_zretE rfl (Or.inl rfl) rfl d_N_findWay_167 h
    · have h := h.2 c4
      refine er_aload_n rfl rfl d_N_findWay_43 ?_
      refine er_getR fl_N_11 (shN_0 hn) (by decide) rfl (Nat.succ_ne_zero _) d_N_findWay_44 ?_
      refine er_aload_n rfl rfl d_N_findWay_47 ?_
      refine er_getR fl_N_33 (shN_0 hn) (by decide) rfl (Nat.succ_ne_zero _) d_N_findWay_48 ?_
      refine er_iload_n rfl rfl d_N_findWay_51 ?_
      obtain ⟨a5, a6, h⟩ := h
      refine er_iald (shN_8 hn) (by decide) a5 a6 d_N_findWay_52 ?_
      obtain ⟨a7, a8, h⟩ := h
      refine er_iald (shN_1 hn) (by decide) a7 a8 d_N_findWay_53 ?_
      refine er_istE 3 rfl (Nat.le_of_ble_eq_true rfl) (ls2 := [some (.inr n), some (.inl x1), some (.inl x2), some (.inl (m (n + 1) (m (n + 8) x2))), none, none]) rfl d_N_findWay_54 ?_
      refine er_iconst d_N_findWay_55 ?_
      refine er_istF (Nat.le_of_ble_eq_true rfl) (ls2 := [some (.inr n), some (.inl x1), some (.inl x2), some (.inl (m (n + 1) (m (n + 8) x2))), some (.inl 0), none]) rfl d_N_findWay_56 ?_
      exact er_forget [some (.inr n), some (.inl x1), some (.inl x2), some (.inl (m (n + 1) (m (n + 8) x2))), some (.inl 0), none] (And.intro rfl (And.intro rfl (And.intro rfl (And.intro rfl (And.intro rfl trivial))))) h
theorem vc_N_findWay_58 {K : er_K} {n : Nat} {x1 : Int} {x2 : Int} {x3 : Int} {x4 : Int} {m : er_M} {Q : Int → er_M → Prop} (hn : er_isN n) (h : (er_in x3) ∧ (((x3 = (-1) → wp_N_findWay_31 K n x1 (x2 + 1) m Q) ∧ (x3 ≠ (-1) → (er_in x4) ∧ (((746 ≤ x4 → wp_N_findWay_31 K n x1 (x2 + 1) m Q) ∧ (x4 < 746 → (0 ≤ x3) ∧ (x3 < 746) ∧ ((er_in (m (n + 4) x3)) ∧ ((((m (n + 4) x3) ≤ 0 → wp_N_findWay_147 K n x1 x2 x3 x4 m Q) ∧ (0 < (m (n + 4) x3) → (0 ≤ (m (n + 3) x3)) ∧ ((m (n + 3) x3) < 136) ∧ ((er_in (m (n + 6) (m (n + 3) x3))) ∧ (er_in (m n 10)) ∧ ((((m (n + 6) (m (n + 3) x3)) = (m n 10) → wp_N_findWay_147 K n x1 x2 x3 x4 m Q) ∧ ((m (n + 6) (m (n + 3) x3)) ≠ (m n 10) → (er_in x1) ∧ (((136 ≤ x1 → wp_N_findWay_147 K n x1 x2 x3 x4 m Q) ∧ (x1 < 136 → ∀ m16 : er_M, m16 = er_st m (n + 6) (m (n + 3) x3) (m n 10) → ∀ m17 : er_M, m17 = er_st m16 (n + 7) (m (n + 3) x3) x3 → (er_in (m (n + 3) x3)) ∧ ((((m (n + 3) x3) ≠ 1 → (0 ≤ x1) ∧ (x1 < 136) ∧ (∀ m22 : er_M, m22 = er_st m17 (n + 8) x1 (m (n + 3) x3) → wp_N_findWay_147 K n (x1 + 1) x2 x3 x4 m22 Q)) ∧ ((m (n + 3) x3) = 1 → Q 1 m17))))))))))))))))))))) : wp_N_findWay_58 K n x1 x2 x3 x4 m Q := by
  show er_WP K mi_N_findWay 0 0 er_SH m 58 [some (.inr n), some (.inl x1), some (.inl x2), some (.inl x3), some (.inl x4), none] [] _
  refine er_iload_n rfl rfl d_N_findWay_58 ?_
  refine er_iconst d_N_findWay_59 ?_
  obtain ⟨a1, h⟩ := h
  refine er_icmp_eq (tgt := 160) (by decide) a1 (by decide) d_N_findWay_60 (fun c2 => ?_) (fun c2 => ?_)
  · have h := h.1 c2
    refine er_incE (ls2 := [some (.inr n), some (.inl x1), some (.inl (x2 + 1)), some (.inl x3), some (.inl x4), none]) rfl (Nat.le_of_ble_eq_true rfl) rfl d_N_findWay_160 ?_
    refine er_goto (tgt := 31) (by decide) d_N_findWay_163 ?_
    exact er_forget [some (.inr n), some (.inl x1), some (.inl (x2 + 1)), none, none, none] (And.intro rfl (And.intro rfl (And.intro rfl trivial))) h
  · have h := h.2 c2
    refine er_iload rfl d_N_findWay_63 ?_
    refine er_sipush (by decide) d_N_findWay_65 ?_
    obtain ⟨a3, h⟩ := h
    refine er_icmp_ge (tgt := 160) (by decide) a3 (by decide) d_N_findWay_68 (fun c4 => ?_) (fun c4 => ?_)
    · have h := h.1 c4
      refine er_incE (ls2 := [some (.inr n), some (.inl x1), some (.inl (x2 + 1)), some (.inl x3), some (.inl x4), none]) rfl (Nat.le_of_ble_eq_true rfl) rfl d_N_findWay_160 ?_
      refine er_goto (tgt := 31) (by decide) d_N_findWay_163 ?_
      exact er_forget [some (.inr n), some (.inl x1), some (.inl (x2 + 1)), none, none, none] (And.intro rfl (And.intro rfl (And.intro rfl trivial))) h
    · have h := h.2 c4
      refine er_aload_n rfl rfl d_N_findWay_71 ?_
      refine er_getR fl_N_18 (shN_0 hn) (by decide) rfl (Nat.succ_ne_zero _) d_N_findWay_72 ?_
      refine er_iload_n rfl rfl d_N_findWay_75 ?_
      obtain ⟨a5, a6, h⟩ := h
      refine er_iald (shN_3 hn) (by decide) a5 a6 d_N_findWay_76 ?_
      refine er_istF (Nat.le_of_ble_eq_true rfl) (ls2 := [some (.inr n), some (.inl x1), some (.inl x2), some (.inl x3), some (.inl x4), some (.inl (m (n + 3) x3))]) rfl d_N_findWay_77 ?_
      refine er_aload_n rfl rfl d_N_findWay_79 ?_
      refine er_getR fl_N_21 (shN_0 hn) (by decide) rfl (Nat.succ_ne_zero _) d_N_findWay_80 ?_
      refine er_iload_n rfl rfl d_N_findWay_83 ?_
      refine er_iald (shN_4 hn) (by decide) a5 a6 d_N_findWay_84 ?_
      obtain ⟨a7, h⟩ := h
      refine er_if_le (tgt := 147) (by decide) a7 d_N_findWay_85 (fun c8 => ?_) (fun c8 => ?_)
      · have h := h.1 c8
        exact er_forget [some (.inr n), some (.inl x1), some (.inl x2), some (.inl x3), some (.inl x4), none] (And.intro rfl (And.intro rfl (And.intro rfl (And.intro rfl (And.intro rfl trivial))))) h
      · have h := h.2 c8
        refine er_aload_n rfl rfl d_N_findWay_88 ?_
        refine er_getR fl_N_27 (shN_0 hn) (by decide) rfl (Nat.succ_ne_zero _) d_N_findWay_89 ?_
        refine er_iload rfl d_N_findWay_92 ?_
        obtain ⟨a9, a10, h⟩ := h
        refine er_iald (shN_6 hn) (by decide) a9 a10 d_N_findWay_94 ?_
        refine er_aload_n rfl rfl d_N_findWay_95 ?_
        refine er_getIE 10 rfl fl_N_43 (shN_0 hn) (by decide) rfl d_N_findWay_96 ?_
        obtain ⟨a11, a12, h⟩ := h
        refine er_icmp_eq (tgt := 147) (by decide) a11 a12 d_N_findWay_99 (fun c13 => ?_) (fun c13 => ?_)
        · have h := h.1 c13
          exact er_forget [some (.inr n), some (.inl x1), some (.inl x2), some (.inl x3), some (.inl x4), none] (And.intro rfl (And.intro rfl (And.intro rfl (And.intro rfl (And.intro rfl trivial))))) h
        · have h := h.2 c13
          refine er_iload_n rfl rfl d_N_findWay_102 ?_
          refine er_sipush (by decide) d_N_findWay_103 ?_
          obtain ⟨a14, h⟩ := h
          refine er_icmp_ge (tgt := 147) (by decide) a14 (by decide) d_N_findWay_106 (fun c15 => ?_) (fun c15 => ?_)
          · have h := h.1 c15
            exact er_forget [some (.inr n), some (.inl x1), some (.inl x2), some (.inl x3), some (.inl x4), none] (And.intro rfl (And.intro rfl (And.intro rfl (And.intro rfl (And.intro rfl trivial))))) h
          · have h := h.2 c15
            refine er_aload_n rfl rfl d_N_findWay_109 ?_
            refine er_getR fl_N_27 (shN_0 hn) (by decide) rfl (Nat.succ_ne_zero _) d_N_findWay_110 ?_
            refine er_iload rfl d_N_findWay_113 ?_
            refine er_aload_n rfl rfl d_N_findWay_115 ?_
            refine er_getIE 10 rfl fl_N_43 (shN_0 hn) (by decide) rfl d_N_findWay_116 ?_
            refine er_iastE (shN_6 hn) (by decide) a9 a10 d_N_findWay_119 (fun m16 hm => ?_)
            have h := h m16 hm
            refine er_aload_n rfl rfl d_N_findWay_120 ?_
            refine er_getR fl_N_30 (shN_0 hn) (by decide) rfl (Nat.succ_ne_zero _) d_N_findWay_121 ?_
            refine er_iload rfl d_N_findWay_124 ?_
            refine er_iload_n rfl rfl d_N_findWay_126 ?_
            refine er_iastE (shN_7 hn) (by decide) a9 a10 d_N_findWay_127 (fun m17 hm => ?_)
            have h := h m17 hm
            refine er_iload rfl d_N_findWay_128 ?_
            refine er_iconst d_N_findWay_130 ?_
            obtain ⟨a18, h⟩ := h
            refine er_icmp_ne (tgt := 136) (by decide) a18 (by decide) d_N_findWay_131 (fun c19 => ?_) (fun c19 => ?_)
            · have h := h.1 c19
              refine er_aload_n rfl rfl d_N_findWay_136 ?_
              refine er_getR fl_N_33 (shN_0 hn) (by decide) rfl (Nat.succ_ne_zero _) d_N_findWay_137 ?_
              refine er_iload_n rfl rfl d_N_findWay_140 ?_
              refine er_iload rfl d_N_findWay_141 ?_
              obtain ⟨a20, a21, h⟩ := h
              refine er_iastE (shN_8 hn) (by decide) a20 a21 d_N_findWay_143 (fun m22 hm => ?_)
              have h := h m22 hm
              refine er_incE (ls2 := [some (.inr n), some (.inl (x1 + 1)), some (.inl x2), some (.inl x3), some (.inl x4), some (.inl (m (n + 3) x3))]) rfl (Nat.le_of_ble_eq_true rfl) rfl d_N_findWay_144 ?_
              exact er_forget [some (.inr n), some (.inl (x1 + 1)), some (.inl x2), some (.inl x3), some (.inl x4), none] (And.intro rfl (And.intro rfl (And.intro rfl (And.intro rfl (And.intro rfl trivial))))) h
            · have h := h.2 c19
              refine er_iconst d_N_findWay_134 ?_
              exact er_zretE rfl (Or.inr rfl) rfl d_N_findWay_135 h
theorem vc_N_findWay_147 {K : er_K} {n : Nat} {x1 : Int} {x2 : Int} {x3 : Int} {x4 : Int} {m : er_M} {Q : Int → er_M → Prop} (hn : er_isN n) (h : (0 ≤ x3) ∧ (x3 < 746) ∧ (wp_N_findWay_58 K n x1 x2 (m (n + 2) x3) (x4 + 1) m Q)) : wp_N_findWay_147 K n x1 x2 x3 x4 m Q := by
  show er_WP K mi_N_findWay 0 0 er_SH m 147 [some (.inr n), some (.inl x1), some (.inl x2), some (.inl x3), some (.inl x4), none] [] _
  refine er_aload_n rfl rfl d_N_findWay_147 ?_
  refine er_getR fl_N_15 (shN_0 hn) (by decide) rfl (Nat.succ_ne_zero _) d_N_findWay_148 ?_
  refine er_iload_n rfl rfl d_N_findWay_151 ?_
  obtain ⟨a1, a2, h⟩ := h
  refine er_iald (shN_2 hn) (by decide) a1 a2 d_N_findWay_152 ?_
  refine er_istE 3 rfl (Nat.le_of_ble_eq_true rfl) (ls2 := [some (.inr n), some (.inl x1), some (.inl x2), some (.inl (m (n + 2) x3)), some (.inl x4), none]) rfl d_N_findWay_153 ?_
  refine er_incE (ls2 := [some (.inr n), some (.inl x1), some (.inl x2), some (.inl (m (n + 2) x3)), some (.inl (x4 + 1)), none]) rfl (Nat.le_of_ble_eq_true rfl) rfl d_N_findWay_154 ?_
  refine er_goto (tgt := 58) (by decide) d_N_findWay_157 ?_
  exact er_forget [some (.inr n), some (.inl x1), some (.inl x2), some (.inl (m (n + 2) x3)), some (.inl (x4 + 1)), none] (And.intro rfl (And.intro rfl (And.intro rfl (And.intro rfl (And.intro rfl trivial))))) h
theorem vc_N_findWay {K : er_K} {n : Nat} {m : er_M} {Q : Int → er_M → Prop} (hn : er_isN n) (h : ∀ m1 : er_M, m1 = er_st m n 10 ((m n 10) + 1) → ∀ m2 : er_M, m2 = er_st m1 (n + 6) 0 (m1 n 10) → ∀ m3 : er_M, m3 = er_st m2 (n + 8) 0 0 → wp_N_findWay_31 K n 1 0 m3 Q) : er_SI K mi_N_findWay [.inr n] m Q := by
  refine er_start (by decide) (Nat.le_of_ble_eq_true rfl) ?_
  show er_WP K mi_N_findWay 0 0 er_SH m 0 [some (.inr n), none, none, none, none, none] [] _
  refine er_aload_n rfl rfl d_N_findWay_0 ?_
  refine er_dup d_N_findWay_1 ?_
  refine er_getIE 10 rfl fl_N_43 (shN_0 hn) (by decide) rfl d_N_findWay_2 ?_
  refine er_iconst d_N_findWay_5 ?_
  refine er_iadd d_N_findWay_6 ?_
  refine er_putIE 10 rfl fl_N_43 (shN_0 hn) (by decide) rfl d_N_findWay_7 (fun m1 hm => ?_)
  have h := h m1 hm
  refine er_aload_n rfl rfl d_N_findWay_10 ?_
  refine er_getR fl_N_27 (shN_0 hn) (by decide) rfl (Nat.succ_ne_zero _) d_N_findWay_11 ?_
  refine er_iconst d_N_findWay_14 ?_
  refine er_aload_n rfl rfl d_N_findWay_15 ?_
  refine er_getIE 10 rfl fl_N_43 (shN_0 hn) (by decide) rfl d_N_findWay_16 ?_
  refine er_iastE (shN_6 hn) (by decide) (by decide) (by decide) d_N_findWay_19 (fun m2 hm => ?_)
  have h := h m2 hm
  refine er_aload_n rfl rfl d_N_findWay_20 ?_
  refine er_getR fl_N_33 (shN_0 hn) (by decide) rfl (Nat.succ_ne_zero _) d_N_findWay_21 ?_
  refine er_iconst d_N_findWay_24 ?_
  refine er_iconst d_N_findWay_25 ?_
  refine er_iastE (shN_8 hn) (by decide) (by decide) (by decide) d_N_findWay_26 (fun m3 hm => ?_)
  have h := h m3 hm
  refine er_iconst d_N_findWay_27 ?_
  refine er_istE 1 rfl (Nat.le_of_ble_eq_true rfl) (ls2 := [some (.inr n), some (.inl 1), none, none, none, none]) rfl d_N_findWay_28 ?_
  refine er_iconst d_N_findWay_29 ?_
  refine er_istE 2 rfl (Nat.le_of_ble_eq_true rfl) (ls2 := [some (.inr n), some (.inl 1), some (.inl 0), none, none, none]) rfl d_N_findWay_30 ?_
  exact er_forget [some (.inr n), some (.inl 1), some (.inl 0), none, none, none] (And.intro rfl (And.intro rfl (And.intro rfl trivial))) h
theorem vc_N_isNear {K : er_K} {n : Nat} {p1 : Int} {m : er_M} {Q : Int → er_M → Prop} (hn : er_isN n) (h : (0 ≤ p1) ∧ (p1 < 136) ∧ ((er_in (m (n + 6) p1)) ∧ (er_in (m n 10)) ∧ ((((m (n + 6) p1) ≠ (m n 10) → Q 0 m) ∧ ((m (n + 6) p1) = (m n 10) → Q 1 m))))) : er_SI K mi_N_isNear [.inr n, .inl p1] m Q := by
  refine er_start (by decide) (Nat.le_of_ble_eq_true rfl) ?_
  show er_WP K mi_N_isNear 0 0 er_SH m 0 [some (.inr n), some (.inl p1)] [] _
  refine er_aload_n rfl rfl d_N_isNear_0 ?_
  refine er_getR fl_N_27 (shN_0 hn) (by decide) rfl (Nat.succ_ne_zero _) d_N_isNear_1 ?_
  refine er_iload_n rfl rfl d_N_isNear_4 ?_
  obtain ⟨a1, a2, h⟩ := h
  refine er_iald (shN_6 hn) (by decide) a1 a2 d_N_isNear_5 ?_
  refine er_aload_n rfl rfl d_N_isNear_6 ?_
  refine er_getIE 10 rfl fl_N_43 (shN_0 hn) (by decide) rfl d_N_isNear_7 ?_
  obtain ⟨a3, a4, h⟩ := h
  refine er_icmp_ne (tgt := 17) (by decide) a3 a4 d_N_isNear_10 (fun c5 => ?_) (fun c5 => ?_)
  · have h := h.1 c5
    refine er_iconst d_N_isNear_17 ?_
    exact er_zretE rfl (Or.inl rfl) rfl d_N_isNear_18 h
  · have h := h.2 c5
    refine er_iconst d_N_isNear_13 ?_
    refine er_goto (tgt := 18) (by decide) d_N_isNear_14 ?_
    exact er_zretE rfl (Or.inr rfl) rfl d_N_isNear_18 h
theorem vc_N_sideOf {K : er_K} {n : Nat} {p1 : Int} {m : er_M} {Q : Int → er_M → Prop} (hn : er_isN n) (h : er_SI K mi_N_isNear [.inr n, .inl (38 + p1)] m (fun v2 m1 => (er_in v2) ∧ (((v2 ≠ 0 → er_SI K mi_N_isNear [.inr n, .inl (87 + p1)] m1 (fun v6 m5 => (er_in v6) ∧ (((v6 = 0 → Q 1 m5) ∧ (v6 ≠ 0 → Q 0 m5))))) ∧ (v2 = 0 → Q 2 m1))))) : er_SI K mi_N_sideOf [.inr n, .inl p1] m Q := by
  refine er_start (by decide) (Nat.le_of_ble_eq_true rfl) ?_
  show er_WP K mi_N_sideOf 0 0 er_SH m 0 [some (.inr n), some (.inl p1)] [] _
  refine er_aload_n rfl rfl d_N_sideOf_0 ?_
  refine er_bipush (by decide) d_N_sideOf_1 ?_
  refine er_iload_n rfl rfl d_N_sideOf_3 ?_
  refine er_iadd d_N_sideOf_4 ?_
  refine er_cVI (As := [.inl (38 + p1)]) (st := []) ml_N_109 mw_N_isNear md_N_isNear ⟨rfl, rfl⟩ rfl (Nat.le_of_ble_eq_true rfl) (shN_0 hn) rfl ⟨(Nat.le_of_ble_eq_true rfl), (Nat.le_of_ble_eq_true rfl)⟩ rfl d_N_sideOf_5 h (fun v2 m1 h => ?_)
  obtain ⟨a3, h⟩ := h
  refine er_if_ne (tgt := 13) (by decide) a3 d_N_sideOf_8 (fun c4 => ?_) (fun c4 => ?_)
  · have h := h.1 c4
    refine er_aload_n rfl rfl d_N_sideOf_13 ?_
    refine er_bipush (by decide) d_N_sideOf_14 ?_
    refine er_iload_n rfl rfl d_N_sideOf_16 ?_
    refine er_iadd d_N_sideOf_17 ?_
    refine er_cVI (As := [.inl (87 + p1)]) (st := []) ml_N_109 mw_N_isNear md_N_isNear ⟨rfl, rfl⟩ rfl (Nat.le_of_ble_eq_true rfl) (shN_0 hn) rfl ⟨(Nat.le_of_ble_eq_true rfl), (Nat.le_of_ble_eq_true rfl)⟩ rfl d_N_sideOf_18 h (fun v6 m5 h => ?_)
    obtain ⟨a7, h⟩ := h
    refine er_if_eq (tgt := 28) (by decide) a7 d_N_sideOf_21 (fun c8 => ?_) (fun c8 => ?_)
    · have h := h.1 c8
      refine er_iconst d_N_sideOf_28 ?_
      exact er_iretE rfl rfl d_N_sideOf_29 h
    · have h := h.2 c8
      refine er_iconst d_N_sideOf_24 ?_
      refine er_goto (tgt := 29) (by decide) d_N_sideOf_25 ?_
      exact er_iretE rfl rfl d_N_sideOf_29 h
  · have h := h.2 c4
    refine er_iconst d_N_sideOf_11 ?_
    exact er_iretE rfl rfl d_N_sideOf_12 h
def wp_N_countCutChannels_7 (K : er_K) (n : Nat) (x1 : Int) (x2 : Int) (m : er_M) (Q : Int → er_M → Prop) : Prop := er_WP K mi_N_countCutChannels 0 0 er_SH m 7 [some (.inr n), some (.inl x1), some (.inl x2)] [] (er_Z K mi_N_countCutChannels (er_PI Q))
theorem vc_N_countCutChannels_7 {K : er_K} {n : Nat} {x1 : Int} {x2 : Int} {m : er_M} {Q : Int → er_M → Prop} (hn : er_isN n) (h : (er_in (x2 + 3)) ∧ (er_in (m n 8)) ∧ ((((m n 8) ≤ (x2 + 3) → Q x1 m) ∧ ((x2 + 3) < (m n 8) → er_SI K mi_N_leavesNearSide [.inr n, .inl x2] m (fun v5 m4 => (er_in v5) ∧ (((v5 ≠ 0 → wp_N_countCutChannels_7 K n (x1 + 1) (x2 + 4) m4 Q) ∧ (v5 = 0 → er_SI K mi_N_leavesNearSide [.inr n, .inl (x2 + 2)] m4 (fun v9 m8 => (er_in v9) ∧ (((v9 = 0 → wp_N_countCutChannels_7 K n x1 (x2 + 4) m8 Q) ∧ (v9 ≠ 0 → wp_N_countCutChannels_7 K n (x1 + 1) (x2 + 4) m8 Q)))))))))))) : wp_N_countCutChannels_7 K n x1 x2 m Q := by
  show er_WP K mi_N_countCutChannels 0 0 er_SH m 7 [some (.inr n), some (.inl x1), some (.inl x2)] [] _
  refine er_iload_n rfl rfl d_N_countCutChannels_7 ?_
  refine er_iconst d_N_countCutChannels_8 ?_
  refine er_iadd d_N_countCutChannels_9 ?_
  refine er_aload_n rfl rfl d_N_countCutChannels_10 ?_
  refine er_getIE 8 rfl fl_N_36 (shN_0 hn) (by decide) rfl d_N_countCutChannels_11 ?_
  obtain ⟨a1, a2, h⟩ := h
  refine er_icmp_ge (tgt := 44) (by decide) a1 a2 d_N_countCutChannels_14 (fun c3 => ?_) (fun c3 => ?_)
  · have h := h.1 c3
    refine er_iload_n rfl rfl d_N_countCutChannels_44 ?_
    exact er_iretE rfl rfl d_N_countCutChannels_45 h
  · have h := h.2 c3
    refine er_aload_n rfl rfl d_N_countCutChannels_17 ?_
    refine er_iload_n rfl rfl d_N_countCutChannels_18 ?_
    refine er_cVI (As := [.inl x2]) (st := []) ml_N_113 mw_N_leavesNearSide md_N_leavesNearSide ⟨rfl, rfl⟩ rfl (Nat.le_of_ble_eq_true rfl) (shN_0 hn) rfl ⟨(Nat.le_of_ble_eq_true rfl), (Nat.le_of_ble_eq_true rfl)⟩ rfl d_N_countCutChannels_19 h (fun v5 m4 h => ?_)
    obtain ⟨a6, h⟩ := h
    refine er_if_ne (tgt := 35) (by decide) a6 d_N_countCutChannels_22 (fun c7 => ?_) (fun c7 => ?_)
    · have h := h.1 c7
      refine er_incE (ls2 := [some (.inr n), some (.inl (x1 + 1)), some (.inl x2)]) rfl (Nat.le_of_ble_eq_true rfl) rfl d_N_countCutChannels_35 ?_
      refine er_incE (ls2 := [some (.inr n), some (.inl (x1 + 1)), some (.inl (x2 + 4))]) rfl (Nat.le_of_ble_eq_true rfl) rfl d_N_countCutChannels_38 ?_
      refine er_goto (tgt := 7) (by decide) d_N_countCutChannels_41 ?_
      exact er_forget [some (.inr n), some (.inl (x1 + 1)), some (.inl (x2 + 4))] (And.intro rfl (And.intro rfl (And.intro rfl trivial))) h
    · have h := h.2 c7
      refine er_aload_n rfl rfl d_N_countCutChannels_25 ?_
      refine er_iload_n rfl rfl d_N_countCutChannels_26 ?_
      refine er_iconst d_N_countCutChannels_27 ?_
      refine er_iadd d_N_countCutChannels_28 ?_
      refine er_cVI (As := [.inl (x2 + 2)]) (st := []) ml_N_113 mw_N_leavesNearSide md_N_leavesNearSide ⟨rfl, rfl⟩ rfl (Nat.le_of_ble_eq_true rfl) (shN_0 hn) rfl ⟨(Nat.le_of_ble_eq_true rfl), (Nat.le_of_ble_eq_true rfl)⟩ rfl d_N_countCutChannels_29 h (fun v9 m8 h => ?_)
      obtain ⟨a10, h⟩ := h
      refine er_if_eq (tgt := 38) (by decide) a10 d_N_countCutChannels_32 (fun c11 => ?_) (fun c11 => ?_)
      · have h := h.1 c11
        refine er_incE (ls2 := [some (.inr n), some (.inl x1), some (.inl (x2 + 4))]) rfl (Nat.le_of_ble_eq_true rfl) rfl d_N_countCutChannels_38 ?_
        refine er_goto (tgt := 7) (by decide) d_N_countCutChannels_41 ?_
        exact er_forget [some (.inr n), some (.inl x1), some (.inl (x2 + 4))] (And.intro rfl (And.intro rfl (And.intro rfl trivial))) h
      · have h := h.2 c11
        refine er_incE (ls2 := [some (.inr n), some (.inl (x1 + 1)), some (.inl x2)]) rfl (Nat.le_of_ble_eq_true rfl) rfl d_N_countCutChannels_35 ?_
        refine er_incE (ls2 := [some (.inr n), some (.inl (x1 + 1)), some (.inl (x2 + 4))]) rfl (Nat.le_of_ble_eq_true rfl) rfl d_N_countCutChannels_38 ?_
        refine er_goto (tgt := 7) (by decide) d_N_countCutChannels_41 ?_
        exact er_forget [some (.inr n), some (.inl (x1 + 1)), some (.inl (x2 + 4))] (And.intro rfl (And.intro rfl (And.intro rfl trivial))) h
theorem vc_N_countCutChannels {K : er_K} {n : Nat} {m : er_M} {Q : Int → er_M → Prop} (hn : er_isN n) (h : wp_N_countCutChannels_7 K n 0 (m n 9) m Q) : er_SI K mi_N_countCutChannels [.inr n] m Q := by
  refine er_start (by decide) (Nat.le_of_ble_eq_true rfl) ?_
  show er_WP K mi_N_countCutChannels 0 0 er_SH m 0 [some (.inr n), none, none] [] _
  refine er_iconst d_N_countCutChannels_0 ?_
  refine er_istE 1 rfl (Nat.le_of_ble_eq_true rfl) (ls2 := [some (.inr n), some (.inl 0), none]) rfl d_N_countCutChannels_1 ?_
  refine er_aload_n rfl rfl d_N_countCutChannels_2 ?_
  refine er_getIE 9 rfl fl_N_40 (shN_0 hn) (by decide) rfl d_N_countCutChannels_3 ?_
  refine er_istE 2 rfl (Nat.le_of_ble_eq_true rfl) (ls2 := [some (.inr n), some (.inl 0), some (.inl (m n 9))]) rfl d_N_countCutChannels_6 ?_
  exact er_forget [some (.inr n), some (.inl 0), some (.inl (m n 9))] (And.intro rfl (And.intro rfl (And.intro rfl trivial))) h
theorem vc_N_leavesNearSide {K : er_K} {n : Nat} {p1 : Int} {m : er_M} {Q : Int → er_M → Prop} (hn : er_isN n) (h : (0 ≤ p1) ∧ (p1 < 2147483647) ∧ ((0 ≤ (p1 + 1 - 2 * (p1 % 2))) ∧ ((p1 + 1 - 2 * (p1 % 2)) < 746) ∧ (er_SI K mi_N_isNear [.inr n, .inl (m (n + 3) (p1 + 1 - 2 * (p1 % 2)))] m (fun v6 m5 => (er_in v6) ∧ (((v6 = 0 → Q 0 m5) ∧ (v6 ≠ 0 → (0 ≤ p1) ∧ (p1 < 746) ∧ (er_SI K mi_N_isNear [.inr n, .inl (m5 (n + 3) p1)] m5 (fun v12 m11 => (er_in v12) ∧ (((v12 ≠ 0 → Q 0 m11) ∧ (v12 = 0 → Q 1 m11)))))))))))) : er_SI K mi_N_leavesNearSide [.inr n, .inl p1] m Q := by
  refine er_start (by decide) (Nat.le_of_ble_eq_true rfl) ?_
  show er_WP K mi_N_leavesNearSide 0 0 er_SH m 0 [some (.inr n), some (.inl p1)] [] _
  refine er_aload_n rfl rfl d_N_leavesNearSide_0 ?_
  refine er_aload_n rfl rfl d_N_leavesNearSide_1 ?_
  refine er_getR fl_N_18 (shN_0 hn) (by decide) rfl (Nat.succ_ne_zero _) d_N_leavesNearSide_2 ?_
  refine er_iload_n rfl rfl d_N_leavesNearSide_5 ?_
  refine er_iconst d_N_leavesNearSide_6 ?_
  obtain ⟨a1, a2, h⟩ := h
  refine er_ixor a1 a2 d_N_leavesNearSide_7 ?_
  obtain ⟨a3, a4, h⟩ := h
  refine er_iald (shN_3 hn) (by decide) a3 a4 d_N_leavesNearSide_8 ?_
  refine er_cVI (As := [.inl (m (n + 3) (p1 + 1 - 2 * (p1 % 2)))]) (st := []) ml_N_109 mw_N_isNear md_N_isNear ⟨rfl, rfl⟩ rfl (Nat.le_of_ble_eq_true rfl) (shN_0 hn) rfl ⟨(Nat.le_of_ble_eq_true rfl), (Nat.le_of_ble_eq_true rfl)⟩ rfl d_N_leavesNearSide_9 h (fun v6 m5 h => ?_)
  obtain ⟨a7, h⟩ := h
  refine er_if_eq (tgt := 32) (by decide) a7 d_N_leavesNearSide_12 (fun c8 => ?_) (fun c8 => ?_)
  · have h := h.1 c8
    refine er_iconst d_N_leavesNearSide_32 ?_
    exact er_zretE rfl (Or.inl rfl) rfl d_N_leavesNearSide_33 h
  · have h := h.2 c8
    refine er_aload_n rfl rfl d_N_leavesNearSide_15 ?_
    refine er_aload_n rfl rfl d_N_leavesNearSide_16 ?_
    refine er_getR fl_N_18 (shN_0 hn) (by decide) rfl (Nat.succ_ne_zero _) d_N_leavesNearSide_17 ?_
    refine er_iload_n rfl rfl d_N_leavesNearSide_20 ?_
    obtain ⟨a9, a10, h⟩ := h
    refine er_iald (shN_3 hn) (by decide) a9 a10 d_N_leavesNearSide_21 ?_
    refine er_cVI (As := [.inl (m5 (n + 3) p1)]) (st := []) ml_N_109 mw_N_isNear md_N_isNear ⟨rfl, rfl⟩ rfl (Nat.le_of_ble_eq_true rfl) (shN_0 hn) rfl ⟨(Nat.le_of_ble_eq_true rfl), (Nat.le_of_ble_eq_true rfl)⟩ rfl d_N_leavesNearSide_22 h (fun v12 m11 h => ?_)
    obtain ⟨a13, h⟩ := h
    refine er_if_ne (tgt := 32) (by decide) a13 d_N_leavesNearSide_25 (fun c14 => ?_) (fun c14 => ?_)
    · have h := h.1 c14
      refine er_iconst d_N_leavesNearSide_32 ?_
      exact er_zretE rfl (Or.inl rfl) rfl d_N_leavesNearSide_33 h
    · have h := h.2 c14
      refine er_iconst d_N_leavesNearSide_28 ?_
      refine er_goto (tgt := 33) (by decide) d_N_leavesNearSide_29 ?_
      exact er_zretE rfl (Or.inr rfl) rfl d_N_leavesNearSide_33 h
