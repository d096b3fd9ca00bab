/-! the law: its loop, its constructors -/
section ERLOOP
variable {K : er_K} {nm : String} {Z : List Frame → Array Value → State → State → Prop}

theorem er_law_loop (hL : K.2.2.2.2.2.1 ≤ 2560) (hend : ∀ (i : Nat) (m : er_M), er_WP K (i_law nm) 99 14464 er_SH m 777 [some (.inr 0), some (.inr 1), some (.inr 83), some (.inl (i : Int))] [.inl 1] Z) : ∀ (d t : Nat) (m : er_M) (b : er_Bo) (H : List er_Bo) (n : Nat) (f : Int → Int), t + d = 513 → er_CI m b H n f (30000 * (t : Int)) → er_MI m b H n f → er_LW nm K Z (5 * t) 18 m := by
  intro d
  induction d with
  | zero =>
    intro t m b H n f ht hc hm
    refine er_iload_n rfl rfl d_L_law_18 ?_
    refine er_aload_n rfl rfl d_L_law_19 ?_
    refine er_slen d_L_law_20 ?_
    refine er_iconst d_L_law_21 ?_
    refine er_isub d_L_law_22 ?_
    refine er_icmp_gt (tgt := 776) (by decide) ⟨by omega, by omega⟩ ⟨by omega, by omega⟩ d_L_law_23 (fun _ => ?_) (fun hle => by omega)
    refine er_iconst d_L_law_776 ?_
    exact hend (5 * t) m
  | succ d ih =>
    intro t m b H n f ht hc hm
    refine er_iload_n rfl rfl d_L_law_18 ?_
    refine er_aload_n rfl rfl d_L_law_19 ?_
    refine er_slen d_L_law_20 ?_
    refine er_iconst d_L_law_21 ?_
    refine er_isub d_L_law_22 ?_
    refine er_icmp_gt (tgt := 776) (by decide) ⟨by omega, by omega⟩ ⟨by omega, by omega⟩ d_L_law_23 (fun _ => ?_) (fun hle => ?_)
    · refine er_iconst d_L_law_776 ?_
      exact hend (5 * t) m
    · have hi : 5 * t + 5 ≤ K.2.2.2.2.2.1 := by omega
      have hn : er_TN nm K Z (5 * t) (30000 * (t : Int)) := by
        intro m' b' H' n' f' h1 h2
        refine er_incG (ls2 := [some (.inr 0), some (.inr 1), some (.inr 83), some (.inl ((5 * (t + 1) : Nat) : Int))]) rfl (Nat.le_of_ble_eq_true rfl) (by
          show ([some (.inr 0), some (.inr 1), some (.inr 83), some (.inl (((5 * t : Nat) : Int) + 5))] : List (Option er_V)) = _
          rw [show ((5 * t : Nat) : Int) + 5 = ((5 * (t + 1) : Nat) : Int) by omega]) d_L_law_770 ?_
        refine er_goto (tgt := 18) (by decide) d_L_law_773 ?_
        exact ih (t + 1) m' b' H' n' f' (by omega) (h1.up (by omega)) h2
      refine er_aload_n rfl rfl d_L_law_26 ?_
      refine er_iload_n rfl rfl d_L_law_27 ?_
      refine er_sld (by omega) (by omega) (by omega) d_L_law_28 ?_
      refine er_bipush (by decide) d_L_law_29 ?_
      refine er_iand (er_int _) d_L_law_31 ?_
      generalize hv : (K.2.2.2.2.2.2 (((5 * t : Nat) : Int)).toNat).toInt % 32 = v
      have v0 : 0 ≤ v ∧ v < 32 := by omega
      rcases (by omega : v = 0 ∨ v = 1 ∨ v = 2 ∨ v = 3 ∨ v = 4 ∨ v = 5 ∨ v = 6 ∨ v = 7 ∨ v = 8 ∨ v = 9 ∨ v = 10 ∨ v = 11 ∨ v = 12 ∨ v = 13 ∨ v = 14 ∨ v = 15 ∨ v = 16 ∨ v = 17 ∨ v = 18 ∨ v = 19 ∨ v = 20 ∨ v = 21 ∨ v = 22 ∨ v = 23 ∨ v = 24 ∨ v = 25 ∨ 26 ≤ v) with e | e | e | e | e | e | e | e | e | e | e | e | e | e | e | e | e | e | e | e | e | e | e | e | e | e | e

      · exact er_tabAt (i := (i_law nm)) (off := 120) (tgt := 152) 0 e (by decide) (by decide) (by decide) rfl (by decide) d_L_law_32 (er_case_0 hc hm (by omega) hi (by omega) hn)
      · exact er_tabAt (i := (i_law nm)) (off := 143) (tgt := 175) 1 e (by decide) (by decide) (by decide) rfl (by decide) d_L_law_32 (er_case_1 hc hm (by omega) hi (by omega) hn)
      · exact er_tabAt (i := (i_law nm)) (off := 156) (tgt := 188) 2 e (by decide) (by decide) (by decide) rfl (by decide) d_L_law_32 (er_case_2 hc hm (by omega) hi (by omega) hn)
      · exact er_tabAt (i := (i_law nm)) (off := 169) (tgt := 201) 3 e (by decide) (by decide) (by decide) rfl (by decide) d_L_law_32 (er_case_3 hc hm (by omega) hi (by omega) hn)
      · exact er_tabAt (i := (i_law nm)) (off := 212) (tgt := 244) 4 e (by decide) (by decide) (by decide) rfl (by decide) d_L_law_32 (er_case_4 hc hm (by omega) hi (by omega) hn)
      · exact er_tabAt (i := (i_law nm)) (off := 235) (tgt := 267) 5 e (by decide) (by decide) (by decide) rfl (by decide) d_L_law_32 (er_case_5 hc hm (by omega) hi (by omega) hn)
      · exact er_tabAt (i := (i_law nm)) (off := 258) (tgt := 290) 6 e (by decide) (by decide) (by decide) rfl (by decide) d_L_law_32 (er_case_6 hc hm (by omega) hi (by omega) hn)
      · exact er_tabAt (i := (i_law nm)) (off := 271) (tgt := 303) 7 e (by decide) (by decide) (by decide) rfl (by decide) d_L_law_32 (er_case_7 hc hm (by omega) hi (by omega) hn)
      · exact er_tabAt (i := (i_law nm)) (off := 284) (tgt := 316) 8 e (by decide) (by decide) (by decide) rfl (by decide) d_L_law_32 (er_case_8 hc hm (by omega) hi (by omega) hn)
      · exact er_tabAt (i := (i_law nm)) (off := 317) (tgt := 349) 9 e (by decide) (by decide) (by decide) rfl (by decide) d_L_law_32 (er_case_9 hc hm (by omega) hi (by omega) hn)
      · exact er_tabAt (i := (i_law nm)) (off := 330) (tgt := 362) 10 e (by decide) (by decide) (by decide) rfl (by decide) d_L_law_32 (er_case_10 hc hm (by omega) hi (by omega) hn)
      · exact er_tabAt (i := (i_law nm)) (off := 383) (tgt := 415) 11 e (by decide) (by decide) (by decide) rfl (by decide) d_L_law_32 (er_case_11 hc hm (by omega) hi (by omega) hn)
      · exact er_tabAt (i := (i_law nm)) (off := 416) (tgt := 448) 12 e (by decide) (by decide) (by decide) rfl (by decide) d_L_law_32 (er_case_12 hc hm (by omega) hi (by omega) hn)
      · exact er_tabAt (i := (i_law nm)) (off := 449) (tgt := 481) 13 e (by decide) (by decide) (by decide) rfl (by decide) d_L_law_32 (er_case_13 hc hm (by omega) hi (by omega) hn)
      · exact er_tabAt (i := (i_law nm)) (off := 482) (tgt := 514) 14 e (by decide) (by decide) (by decide) rfl (by decide) d_L_law_32 (er_case_14 hc hm (by omega) hi (by omega) hn)
      · exact er_tabAt (i := (i_law nm)) (off := 515) (tgt := 547) 15 e (by decide) (by decide) (by decide) rfl (by decide) d_L_law_32 (er_case_15 hc hm (by omega) hi (by omega) hn)
      · exact er_tabAt (i := (i_law nm)) (off := 528) (tgt := 560) 16 e (by decide) (by decide) (by decide) rfl (by decide) d_L_law_32 (er_case_16 hc hm (by omega) hi (by omega) hn)
      · exact er_tabAt (i := (i_law nm)) (off := 541) (tgt := 573) 17 e (by decide) (by decide) (by decide) rfl (by decide) d_L_law_32 (er_case_17 hc hm (by omega) hi (by omega) hn)
      · exact er_tabAt (i := (i_law nm)) (off := 574) (tgt := 606) 18 e (by decide) (by decide) (by decide) rfl (by decide) d_L_law_32 (er_case_18 hc hm (by omega) hi (by omega) hn)
      · exact er_tabAt (i := (i_law nm)) (off := 587) (tgt := 619) 19 e (by decide) (by decide) (by decide) rfl (by decide) d_L_law_32 (er_case_19 hc hm (by omega) hi (by omega) hn)
      · exact er_tabAt (i := (i_law nm)) (off := 610) (tgt := 642) 20 e (by decide) (by decide) (by decide) rfl (by decide) d_L_law_32 (er_case_20 hc hm (by omega) hi (by omega) hn)
      · exact er_tabAt (i := (i_law nm)) (off := 653) (tgt := 685) 21 e (by decide) (by decide) (by decide) rfl (by decide) d_L_law_32 (er_case_21 hc hm (by omega) hi (by omega) hn)
      · exact er_tabAt (i := (i_law nm)) (off := 686) (tgt := 718) 22 e (by decide) (by decide) (by decide) rfl (by decide) d_L_law_32 (er_case_22 hc hm (by omega) hi (by omega) hn)
      · exact er_tabAt (i := (i_law nm)) (off := 699) (tgt := 731) 23 e (by decide) (by decide) (by decide) rfl (by decide) d_L_law_32 (er_case_23 hc hm (by omega) hi (by omega) hn)
      · exact er_tabAt (i := (i_law nm)) (off := 712) (tgt := 744) 24 e (by decide) (by decide) (by decide) rfl (by decide) d_L_law_32 (er_case_24 hc hm (by omega) hi (by omega) hn)
      · exact er_tabAt (i := (i_law nm)) (off := 725) (tgt := 757) 25 e (by decide) (by decide) (by decide) rfl (by decide) d_L_law_32 (er_case_25 hc hm (by omega) hi (by omega) hn)
      · exact er_tabOut (i := (i_law nm)) (tgt := 770) ⟨by omega, by omega⟩ (Or.inr (by omega)) (by decide) d_L_law_32 (hn m b H n f (hc.up (by omega)) hm)
theorem er_law_body (hL : K.2.2.2.2.2.1 ≤ 2560) (hend : ∀ (i : Nat) (m : er_M), er_WP K (i_law nm) 99 14464 er_SH m 777 [some (.inr 0), some (.inr 1), some (.inr 83), some (.inl (i : Int))] [.inl 1] Z) (m : er_M) : er_WP K (i_law nm) 0 0 [] m 0 [some (.inr 0), none, none, none] [] Z := by
  refine er_new (i := (i_law nm)) (ci := 5) (N := 10) (rs0 := [some 0, some 0, some 0, some 0, some 0, some 0, some 0, none, none, none]) rfl er_iR er_tR_ok kn_L_7 er_rsR ⟨Nat.le_of_ble_eq_true rfl, Nat.le_of_ble_eq_true rfl⟩ d_L_law_0 ?_
  show er_WP K (i_law nm) 1 10 (er_shR [some 0, some 0, some 0, some 0, some 0, some 0, some 0, none, none, none] 0) (er_clr m 1) 3 [some (.inr 0), none, none, none] [.inr 1] Z
  refine er_dup d_L_law_3 ?_
  refine er_callI (i := (i_law nm)) (b := 1) (As := []) (st := [.inr 1]) ml_L_9 rfl rfl mw_R_init md_R_init rfl rfl (Nat.le_of_ble_eq_true rfl) ⟨Nat.le_of_ble_eq_true rfl, Nat.le_of_ble_eq_true rfl⟩ ⟨Nat.le_of_ble_eq_true rfl, Nat.le_of_ble_eq_true rfl⟩ d_L_law_4 (sp_R_init (fun k => er_clr_s _ _ _) (Q := fun v s2 w2 => v = none ∧ s2 = er_shR [some 2, some 6, some 40, some 43, some 52, some 61, some 82, none, none, none] 81 ∧ ∃ f, er_CI w2 er_b0 [] 0 f 0) (fun m' f q1 => ⟨rfl, rfl, f, q1⟩)) (fun v s2 m1 hq => ?_)
  obtain ⟨rfl, rfl, f, hc⟩ := hq
  refine er_astore_n (k := 1) rfl (Nat.le_of_ble_eq_true rfl) d_L_law_7 ?_
  refine er_new (i := (i_law nm)) (ci := 6) (N := 22) (rs0 := [some 0, some 0, none, some 0, none, some 0, none, none, some 0, some 0, some 0, some 0, some 0, none, some 0, some 0, some 0, some 0, some 0, some 0, none, some 0]) rfl er_iM er_tM_ok kn_L_10 er_rsM ⟨Nat.le_of_ble_eq_true rfl, Nat.le_of_ble_eq_true rfl⟩ d_L_law_8 ?_
  show er_WP K (i_law nm) 83 8908 (er_shR [some 2, some 6, some 40, some 43, some 52, some 61, some 82, none, none, none] 81 ++ [(6 + 5, 22, [some 0, some 0, none, some 0, none, some 0, none, none, some 0, some 0, some 0, some 0, some 0, none, some 0, some 0, some 0, some 0, some 0, some 0, none, some 0])]) (er_clr m1 83) 11 [some (.inr 0), some (.inr 1), none, none] [.inr 83] Z
  refine er_dup d_L_law_11 ?_
  refine er_callI (i := (i_law nm)) (b := 83) (As := []) (st := [.inr 83]) ml_L_12 rfl rfl mw_M_init md_M_init rfl rfl (Nat.le_of_ble_eq_true rfl) ⟨Nat.le_of_ble_eq_true rfl, Nat.le_of_ble_eq_true rfl⟩ ⟨Nat.le_of_ble_eq_true rfl, Nat.le_of_ble_eq_true rfl⟩ d_L_law_12 (sp_M_init (c := 83) (sh0 := er_shR [some 2, some 6, some 40, some 43, some 52, some 61, some 82, none, none, none] 81) rfl (fun k => er_clr_s _ _ _) (Q := fun v s2 w2 => v = none ∧ s2 = er_SH ∧ er_CI w2 er_b0 [] 0 f 0 ∧ er_MI w2 er_b0 [] 0 f) (fun m' q1 q2 q3 q4 q5 q6 q7 q8 => ⟨rfl, rfl, ?_, ?_⟩)) (fun v s2 m2 hq => ?_)
  · have kk : er_kp (fun q _ => 83 ≤ q) m1 m' := fun q k hq => by rw [q1 q k hq, er_clr_c k (by omega)]
    exact hc.kq kk (fun q k z => by omega) (hc.1.2.2.2.kp kk (by omega) (fun k => by omega))
  · refine ⟨⟨⟨q3, q4, q5, q6, by decide, by decide, by decide, by decide, by decide, by decide, by decide, by decide⟩, fun j j0 j1 => ⟨q7 j j0 j1, ?_, ?_⟩⟩, er_BV_0, ⟨q2 2, by decide, fun x hx => by simp at hx, fun j hj => by simp at hj⟩, ⟨by decide, q2 4, fun j j0 j1 => by omega⟩⟩
    · exact q8 (40 + j) (by omega)
    · exact q8 (76 + j) (by omega)
  obtain ⟨rfl, rfl, hc2, hm2⟩ := hq
  refine er_astore_n (k := 2) rfl (Nat.le_of_ble_eq_true rfl) d_L_law_15 ?_
  refine er_iconst d_L_law_16 ?_
  refine er_istore_n (k := 3) rfl (Nat.le_of_ble_eq_true rfl) d_L_law_17 ?_
  exact er_law_loop hL hend 513 0 m2 er_b0 [] 0 f rfl hc2 hm2
end ERLOOP
