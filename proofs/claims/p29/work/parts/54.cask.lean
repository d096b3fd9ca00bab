/-! what is asked of the class -/
theorem er_CI_tr {F : Nat → Int → Prop} {m m' : er_M} {b : er_Bo} {H : List er_Bo} {n : Nat} {f : Int → Int} {c c' : Int} (h : er_CI m b H n f c) (hk : er_kp F m m') (hF : ∀ q k, 2 ≤ q → q ≤ 41 → ¬ F q k) (h1 : (m' 1 7 = 0 ∨ (m' 1 7 = 1 ∧ er_slv m' b)) ∧ (m' 1 9 = -9 ∨ (0 ≤ m' 1 9 ∧ m' 1 9 ≤ 216 ∧ ∃ rm, er_max (er_Lthr b) rm (m' 1 9)))) (h2 : er_CL m' b) (h3 : er_CK m' c') : er_CI m' b H n f c' := by
  obtain ⟨⟨hb, hv, hh, ht⟩, -⟩ := h
  exact ⟨⟨hb.kp hk (fun q k a z => hF q k (by omega) (by omega)), hv, hh.kp hk (fun q k a z => hF q k (by omega) (by omega)), ht.kp hk (hF _ _ (by decide) (by decide)) (fun k => hF _ _ (by decide) (by decide))⟩, h1, h2, h3⟩
theorem er_CL.kp {F : Nat → Int → Prop} {m m' : er_M} {b : er_Bo} (h : er_CL m b) (hk : er_kp F m m') (hF : ∀ q k, 61 ≤ q → q ≤ 81 → ¬ F q k) : er_CL m' b := by
  have e : ∀ q k, 61 ≤ q → q ≤ 81 → m' q k = m q k := fun q k a z => hk q k (hF q k a z)
  intro s hs
  obtain ⟨l1, l2, l3⟩ := h s hs
  refine ⟨by rw [e 61 _ (by omega) (by omega)]; exact l1, by rw [e _ 0 (by omega) (by omega)]; exact l2, ?_⟩
  rw [e (62 + 5 * s) 8 (by omega) (by omega)]
  refine l3.imp id (fun z => ⟨z.1, ?_⟩)
  unfold er_LO at z ⊢
  rw [e (62 + 5 * s) 6 (by omega) (by omega), e (62 + 5 * s) 7 (by omega) (by omega)]
  refine ⟨fun j j0 j1 => ?_, z.2.2⟩
  rw [e (62 + 5 * s + 4) j (by omega) (by omega)]
  exact z.2.1 j j0 j1
theorem er_slv.kp {F : Nat → Int → Prop} {m m' : er_M} {b : er_Bo} (h : er_slv m b) (hk : er_kp F m m') (hF : ∀ q k, 43 ≤ q → q ≤ 51 → ¬ F q k) (h8 : ¬ F 1 8) : er_slv m' b := by
  have e : ∀ q k, 43 ≤ q → q ≤ 51 → m' q k = m q k := fun q k a z => hk q k (hF q k a z)
  have e47 : m' 47 = m 47 := funext fun k => e 47 k (by decide) (by decide)
  have e8 : m' 1 8 = m 1 8 := hk _ _ h8
  obtain ⟨z1, z2, z3, z4, z5⟩ := h
  refine ⟨z1.kpF hk (fun k => hF _ _ (by decide) (by decide)) (fun k => hF _ _ (by decide) (by decide)) (fun k => hF _ _ (by decide) (by decide)) (hF _ _ (by decide) (by decide)), by rw [e8, e47]; exact z2, fun v v0 v1 => ?_, by rw [e 43 9 (by decide) (by decide)]; exact z4, by rw [e8]; exact z5⟩
  have := z3 v v0 v1
  unfold er_mk at this ⊢
  rw [e (43 + 6) v (by decide) (by decide), e 43 10 (by decide) (by decide), e47]
  exact this
theorem er_LC_supply {n : Nat} {m : er_M} {b : er_Bo} {op : Int → Int} {w x : Int} {sup sup' : Nat → Int} {p : Nat} {ww : Int} (hc : er_CN n m (er_LC (er_bR b) (er_bC b) (er_bh b) (er_bt b) (er_bk b) op ww sup)) (hf : er_FO (er_LC (er_bR b) (er_bC b) (er_bh b) (er_bt b) (er_bk b) op ww sup) (m (n + 4))) (hx : er_exc (er_LC (er_bR b) (er_bC b) (er_bh b) (er_bt b) (er_bk b) op ww sup) (m (n + 4)) 0 = x) (hp : p < 36) (hw : 0 ≤ w ∧ w ≤ 1000000) (h0 : sup p = 0) (h1 : sup' p = w) (h2 : ∀ q, q < 36 → q ≠ p → sup' q = sup q) (hb : ∀ q, q < 36 → 0 ≤ sup' q ∧ sup' q ≤ 1000000) : er_CN n (er_st m (n + 4) (2 * (p : Int)) w) (er_LC (er_bR b) (er_bC b) (er_bh b) (er_bt b) (er_bk b) op ww sup') ∧ er_FO (er_LC (er_bR b) (er_bC b) (er_bh b) (er_bt b) (er_bk b) op ww sup') (er_st m (n + 4) (2 * (p : Int)) w (n + 4)) ∧ er_exc (er_LC (er_bR b) (er_bC b) (er_bh b) (er_bt b) (er_bk b) op ww sup') (er_st m (n + 4) (2 * (p : Int)) w (n + 4)) 0 = x := by
  have hs := er_FO_supply (sup := sup) (sup' := sup') (rm' := er_st m (n + 4) (2 * (p : Int)) w (n + 4)) (w := w) hf hp hw.1 h1 h2 h0 (er_st_s _ _ _ _) (fun k hk => er_st_k hk)
  refine ⟨?_, hs.1, by rw [← hx]; exact hs.2 0⟩
  have hc2 := er_CN_ends (er_srcs_ends (sup := sup) (sup' := sup')) (er_srcs_Bd hc.2.2.1 hb) hc
  exact hc2.kp (er_kp.st (by unfold er_NP; omega))
theorem er_BO_sel {b : er_Bo} (hv : er_BV b) (p : Int → Prop) : er_BO (er_bR b) (er_bC b) (er_bh b) (er_bt b) (er_bk b) (fun j => er_ic (p j)) := er_BO_of hv (fun j _ _ => er_ic_01 _)
section ERCQ
variable {K : er_K} {m : er_M} {b : er_Bo} {H : List er_Bo} {n : Nat} {f : Int → Int} {c0 : Int}
theorem sp_R_solve {Q : er_M → Prop} (h : er_CI m b H n f c0) (hc0 : c0 < 1999000000) (hQ : ∀ m', er_CI m' b H n f (c0 + 30000) → m' 1 7 = 1 → er_slv m' b → er_kp er_cf m m' → Q m') : er_SV K mi_R_solveSelection [.inr 1] m Q := by
  obtain ⟨⟨hb, hv, hh, ht⟩, ⟨hs7, ht9⟩, hl, k1, k2, k3, k4⟩ := id h
  have hn43 : er_isN 43 := Or.inl rfl
  have hbo := er_BO_sel hv (fun j => er_bk b j = 0)
  -- supplies
  have sups : ∀ (d x : Nat) (m3 : er_M), x + d = 36 → er_CN 43 m3 (er_LC (er_bR b) (er_bC b) (er_bh b) (er_bt b) (er_bk b) (fun j => er_ic (er_bk b j = 0)) 1 (fun p => er_ic (p < x ∧ er_bs b (p : Int) = 1))) → er_FO (er_LC (er_bR b) (er_bC b) (er_bh b) (er_bt b) (er_bk b) (fun j => er_ic (er_bk b j = 0)) 1 (fun p => er_ic (p < x ∧ er_bs b (p : Int) = 1))) (m3 (43 + 4)) → er_exc (er_LC (er_bR b) (er_bC b) (er_bh b) (er_bt b) (er_bk b) (fun j => er_ic (er_bk b j = 0)) 1 (fun p => er_ic (p < x ∧ er_bs b (p : Int) = 1))) (m3 (43 + 4)) 0 = 0 → m3 43 9 = 2 * (36 + ((er_pins (er_bR b) (er_bC b) (er_bk b) 1).length : Int) + ((er_tiles (er_bR b) (er_bC b) (er_bt b) 1000000).length : Int)) → er_kp (fun c k => c = 82 ∨ (44 ≤ c ∧ c ≤ 47) ∨ (c = 43 ∧ (k = 8 ∨ k = 9))) m m3 → wp_R_solveSelection_63 K (x : Int) m3 Q := by
    intro d
    induction d with
    | zero =>
      intro x m3 hx a1 a2 a3 a4 kk
      have eL : er_LC (er_bR b) (er_bC b) (er_bh b) (er_bt b) (er_bk b) (fun j => er_ic (er_bk b j = 0)) 1 (fun p => er_ic (p < x ∧ er_bs b (p : Int) = 1)) = er_Lsel b := er_LC_congr hv.2.1 hv.2.2.2.1 (fun _ _ _ => rfl) (fun _ _ _ => rfl) (fun p hp => er_ic_iff ⟨fun z => z.2, fun z => ⟨by omega, z⟩⟩)
      rw [eL] at a1 a2 a3
      have mk3 : er_MK 43 m3 := k1.kpF kk (fun k => by omega) (by omega)
      have c3 : m3 43 10 = m 43 10 := kk _ _ (by omega)
      refine vc_R_solveSelection_63 ⟨⟨by omega, by omega⟩, fun _ => ?_, fun hlt => by omega⟩
      refine sp_N_pushAll hn43 a1 a2 mk3 (by omega) a3 (fun rm hf => er_LC_bound hbo 1 _ hf) (fun m4 x4 g1 g2 g3 g4 g5 g6 g7 g8 m5 e5 m6 e6 => ?_)
      have n6 : er_kp (fun c k => c = 1 ∧ (k = 7 ∨ k = 8)) m4 m6 := by rw [e6, e5]; exact (er_kp.st ⟨rfl, Or.inr rfl⟩).tr (er_kp.st ⟨rfl, Or.inl rfl⟩)
      have e17 : m6 1 7 = 1 := by rw [e6, er_st_s]
      have e18 : m6 1 8 = x4 := by rw [e6, er_st_k (by decide), e5, er_st_s]
      have e47 : m6 47 = m4 (43 + 4) := funext fun k => n6 47 k (by omega)
      have all : er_kp (fun c k => c = 82 ∨ (43 ≤ c ∧ c ≤ 51) ∨ (c = 1 ∧ (k = 7 ∨ k = 8))) m m6 := (kk.wk (fun c k z => by omega)).tr ((g1.wk (fun c k z => by unfold er_NP at z; omega)).tr (n6.wk (fun c k z => by omega)))
      have hslv : er_slv m6 b := by
        refine ⟨(a1.kp g1).kpF n6 (fun k => by omega) (fun k => by omega) (fun k => by omega) (by omega), by rw [e18, e47]; exact g5, fun v v0 v1 => ?_, by rw [n6 43 9 (by omega), g1 43 9 (by unfold er_NP; omega)]; exact a4, by rw [e18]; exact g6, by rw [e18]; exact g7⟩
        have := g8 v v0 v1
        unfold er_mk at this ⊢
        rw [n6 (43 + 6) v (by omega), n6 43 10 (by omega), e47]
        exact this
      have t9 : m6 1 9 = m 1 9 := all _ _ (by omega)
      refine hQ m6 (er_CI_tr h all (fun q k a z => by omega) ⟨Or.inr ⟨e17, hslv⟩, by rw [t9]; exact ht9⟩ (hl.kp all (fun q k a z => by omega)) ⟨g2.kpF n6 (fun k => by omega) (by omega), by rw [n6 43 10 (by omega)]; omega, k3.kpF all (fun k => by omega) (by omega), by rw [all 52 10 (by omega)]; omega⟩) e17 hslv (all.wk (fun c k z => by unfold er_cf; omega))
    | succ d ih =>
      intro x m3 hx a1 a2 a3 a4 kk
      have h5 : m3 5 (x : Int) = er_bs b (x : Int) := by rw [kk 5 _ (by omega)]; exact (hb.2.2.2.2 x (by omega) (by omega)).2.2
      have hsd := hv.2.2.2.2.2.2.2.2.2.2.2 (x : Int) (by omega) (by omega)
      refine vc_R_solveSelection_63 ⟨⟨by omega, by omega⟩, fun hle => by omega, fun _ => ⟨by omega, by omega, ⟨by omega, by omega⟩, fun hz => ?_, fun hnz => ?_⟩⟩
      · have eL : er_LC (er_bR b) (er_bC b) (er_bh b) (er_bt b) (er_bk b) (fun j => er_ic (er_bk b j = 0)) 1 (fun p => er_ic (p < x ∧ er_bs b (p : Int) = 1)) = er_LC (er_bR b) (er_bC b) (er_bh b) (er_bt b) (er_bk b) (fun j => er_ic (er_bk b j = 0)) 1 (fun p => er_ic (p < x + 1 ∧ er_bs b (p : Int) = 1)) := er_LC_congr hv.2.1 hv.2.2.2.1 (fun _ _ _ => rfl) (fun _ _ _ => rfl) (fun p hp => er_ic_iff ⟨fun z => ⟨by omega, z.2⟩, fun z => ⟨by
          by_cases hpx : p = x
          · have := z.2
            rw [hpx] at this
            omega
          · omega, z.2⟩⟩)
        rw [eL] at a1 a2 a3
        exact ih (x + 1) m3 (by omega) a1 a2 a3 a4 kk
      · refine sp_N_supply hn43 (by omega) (by omega) ?_
        have hs1 : er_bs b (x : Int) = 1 := by omega
        obtain ⟨s1, s2, s3⟩ := er_LC_supply (x := 0) (w := 1) (p := x) (sup' := fun p => er_ic (p < x + 1 ∧ er_bs b (p : Int) = 1)) a1 a2 a3 (by omega) ⟨by decide, by decide⟩ (er_ic_f (fun z => by omega)) (er_ic_t ⟨by omega, hs1⟩) (fun q hq hne => er_ic_iff ⟨fun z => ⟨by omega, z.2⟩, fun z => ⟨by omega, z.2⟩⟩) (fun q hq => by rcases er_ic_01 (q < x + 1 ∧ er_bs b (q : Int) = 1) with z | z <;> rw [z] <;> exact ⟨by decide, by decide⟩)
        exact ih (x + 1) _ (by omega) s1 s2 s3 (by rw [er_st_c (by decide)]; exact a4) (kk.tr (er_kp.st (by omega)))
  -- what is open
  have opens : ∀ (d x : Nat) (m1 : er_M), x + d = 36 → (∀ j : Int, 0 ≤ j → j < x → m1 82 j = er_ic (er_bk b j = 0)) → er_kp (fun c _ => c = 82) m m1 → wp_R_solveSelection_10 K (x : Int) m1 Q := by
    intro d
    induction d with
    | zero =>
      intro x m1 hx hop kk
      have hcb := hb.kp kk (fun q k a z => by omega)
      have h3 : ∀ j : Int, 0 ≤ j → j < 36 → m1 3 j = er_bk b j := fun j j0 j1 => (hcb.2.2.2.2 j j0 j1).1
      refine vc_R_solveSelection_10 ⟨⟨by omega, by omega⟩, fun _ => ?_, fun hlt => by omega⟩
      refine sp_N_build hn43 rfl (er_CB_BM hcb hv) (fun j j0 j1 => by rw [h3 j j0 j1]; exact hv.2.2.2.2.2.2.2.2.1 j j0 j1) (fun j j0 j1 => by rw [hop j j0 (by omega)]; exact er_ic_01 _) ⟨by decide, by decide⟩ (fun m3 hcf hk3 h9 => ?_)
      rw [er_LC_congr (kd' := er_bk b) (op' := fun j => er_ic (er_bk b j = 0)) (sup' := fun p => er_ic (p < 0 ∧ er_bs b (p : Int) = 1)) hv.2.1 hv.2.2.2.1 h3 (fun j j0 j1 => hop j j0 (by omega)) (fun p _ => (er_ic_f (fun z => by omega)).symm)] at hcf
      have hfo := er_Fr_FO hcf.2 hcf.1.2.2.1
      rw [er_pins_congr hv.2.1 hv.2.2.2.1 h3] at h9
      exact sups 36 0 m3 rfl hcf.1 hfo.1 (hfo.2 0) h9 ((kk.wk (fun c k z => by omega)).tr (hk3.wk (fun c k z => by unfold er_NB at z; omega)))
    | succ d ih =>
      intro x m1 hx hop kk
      have h3 : m1 3 (x : Int) = er_bk b (x : Int) := by rw [kk 3 _ (by omega)]; exact (hb.2.2.2.2 x (by omega) (by omega)).1
      have hkd := hv.2.2.2.2.2.2.2.2.1 (x : Int) (by omega) (by omega)
      have step : ∀ v : Int, v = er_ic (er_bk b (x : Int) = 0) → ∀ m8 : er_M, m8 = er_st m1 82 x v → wp_R_solveSelection_10 K ((x : Int) + 1) m8 Q := by
        intro v ev m8 e8
        refine ih (x + 1) m8 (by omega) (fun j j0 j1 => ?_) (kk.tr (by rw [e8]; exact er_kp.st rfl))
        rw [e8]
        by_cases hj : j = x
        · rw [hj, er_st_s, ev]
        · rw [er_st_k hj]; exact hop j j0 (by omega)
      refine vc_R_solveSelection_10 ⟨⟨by omega, by omega⟩, fun hle => by omega, fun _ => ⟨by omega, by omega, ⟨by omega, by omega⟩, fun hz => step 0 (er_ic_f (by omega)).symm, fun hz => step 1 (er_ic_t (by omega)).symm⟩⟩
  refine vc_R_solveSelection ⟨by rcases hs7 with z | z; exact ⟨by omega, by omega⟩; exact ⟨by omega, by omega⟩, fun hz => opens 36 0 m rfl (fun j j0 j1 => by omega) er_kp.rf, fun hnz => ?_⟩
  rcases hs7 with z | z
  · exact absurd z hnz
  · exact hQ m (er_CI_tr h er_kp.rf (F := fun _ _ => False) (fun _ _ _ _ z => z) ⟨Or.inr z, ht9⟩ hl ⟨k1, by omega, k3, by omega⟩) z.1 z.2 er_kp.rf
theorem sp_R_throughput {Q : Int → er_M → Prop} (h : er_CI m b H n f c0) (hc0 : c0 < 1999000000) (hQ : ∀ m' x rm, er_max (er_Lthr b) rm x → 0 ≤ x → x ≤ 216 → er_CI m' b H n f (c0 + 30000) → er_kp er_cf m m' → Q x m') : er_SI K mi_R_throughput [.inr 1] m Q := by
  obtain ⟨⟨hb, hv, hh, ht⟩, ⟨hs7, ht9⟩, hl, k1, k2, k3, k4⟩ := id h
  have hn52 : er_isN 52 := Or.inr rfl
  have hbo := er_BO_sel hv (fun j => er_bk b j ≠ 2)
  have bd : ∀ q : Prop, 0 ≤ 1000000 * er_ic q ∧ 1000000 * er_ic q ≤ 1000000 := fun q => by rcases er_ic_01 q with z | z <;> rw [z] <;> exact ⟨by decide, by decide⟩
  -- supplies
  have sups : ∀ (d x : Nat) (m3 : er_M), x + d = 36 → er_CN 52 m3 (er_LC (er_bR b) (er_bC b) (er_bh b) (er_bt b) (er_bk b) (fun j => er_ic (er_bk b j ≠ 2)) 1000000 (fun p => 1000000 * er_ic (p < x ∧ er_bk b (p : Int) = 1))) → er_FO (er_LC (er_bR b) (er_bC b) (er_bh b) (er_bt b) (er_bk b) (fun j => er_ic (er_bk b j ≠ 2)) 1000000 (fun p => 1000000 * er_ic (p < x ∧ er_bk b (p : Int) = 1))) (m3 (52 + 4)) → er_exc (er_LC (er_bR b) (er_bC b) (er_bh b) (er_bt b) (er_bk b) (fun j => er_ic (er_bk b j ≠ 2)) 1000000 (fun p => 1000000 * er_ic (p < x ∧ er_bk b (p : Int) = 1))) (m3 (52 + 4)) 0 = 0 → er_kp (fun c k => c = 82 ∨ (53 ≤ c ∧ c ≤ 56) ∨ (c = 52 ∧ (k = 8 ∨ k = 9))) m m3 → wp_R_throughput_66 K (x : Int) m3 Q := by
    intro d
    induction d with
    | zero =>
      intro x m3 hx a1 a2 a3 kk
      have eL : er_LC (er_bR b) (er_bC b) (er_bh b) (er_bt b) (er_bk b) (fun j => er_ic (er_bk b j ≠ 2)) 1000000 (fun p => 1000000 * er_ic (p < x ∧ er_bk b (p : Int) = 1)) = er_Lthr b := er_LC_congr hv.2.1 hv.2.2.2.1 (fun _ _ _ => rfl) (fun _ _ _ => rfl) (fun p hp => congrArg (1000000 * ·) (er_ic_iff ⟨fun z => z.2, fun z => ⟨by omega, z⟩⟩))
      rw [eL] at a1 a2 a3
      have mk3 : er_MK 52 m3 := k3.kpF kk (fun k => by omega) (by omega)
      have c3 : m3 52 10 = m 52 10 := kk _ _ (by omega)
      refine vc_R_throughput_66 ⟨⟨by omega, by omega⟩, fun _ => ?_, fun hlt => by omega⟩
      refine sp_N_pushAll hn52 a1 a2 mk3 (by omega) a3 (fun rm hf => er_LC_bound hbo 1000000 _ hf) (fun m4 x4 g1 g2 g3 g4 g5 g6 g7 g8 m5 e5 => ?_)
      have n5 : er_kp (fun c k => c = 1 ∧ k = 9) m4 m5 := by rw [e5]; exact er_kp.st ⟨rfl, rfl⟩
      have e19 : m5 1 9 = x4 := by rw [e5, er_st_s]
      have all : er_kp (fun c k => c = 82 ∨ (52 ≤ c ∧ c ≤ 60) ∨ (c = 1 ∧ k = 9)) m m5 := (kk.wk (fun c k z => by omega)).tr ((g1.wk (fun c k z => by unfold er_NP at z; omega)).tr (n5.wk (fun c k z => by omega)))
      rw [e19]
      have hsel : m5 1 7 = 0 ∨ (m5 1 7 = 1 ∧ er_slv m5 b) := by
        rw [all 1 7 (by omega)]
        exact hs7.imp id (fun z => ⟨z.1, z.2.kp all (fun q k a z => by omega) (by omega)⟩)
      exact hQ m5 x4 _ g5 g6 g7 (er_CI_tr h all (fun q k a z => by omega) ⟨hsel, Or.inr ⟨by rw [e19]; exact g6, by rw [e19]; exact g7, _, by rw [e19]; exact g5⟩⟩ (hl.kp all (fun q k a z => by omega)) ⟨k1.kpF all (fun k => by omega) (by omega), by rw [all 43 10 (by omega)]; omega, g2.kpF n5 (fun k => by omega) (by omega), by rw [n5 52 10 (by omega)]; omega⟩) (all.wk (fun c k z => by unfold er_cf; omega))
    | succ d ih =>
      intro x m3 hx a1 a2 a3 kk
      have h3 : m3 3 (x : Int) = er_bk b (x : Int) := by rw [kk 3 _ (by omega)]; exact (hb.2.2.2.2 x (by omega) (by omega)).1
      have hkd := hv.2.2.2.2.2.2.2.2.1 (x : Int) (by omega) (by omega)
      refine vc_R_throughput_66 ⟨⟨by omega, by omega⟩, fun hle => by omega, fun _ => ⟨by omega, by omega, ⟨by omega, by omega⟩, fun hz => ?_, fun hnz => ?_⟩⟩
      · have eL : er_LC (er_bR b) (er_bC b) (er_bh b) (er_bt b) (er_bk b) (fun j => er_ic (er_bk b j ≠ 2)) 1000000 (fun p => 1000000 * er_ic (p < x ∧ er_bk b (p : Int) = 1)) = er_LC (er_bR b) (er_bC b) (er_bh b) (er_bt b) (er_bk b) (fun j => er_ic (er_bk b j ≠ 2)) 1000000 (fun p => 1000000 * er_ic (p < x + 1 ∧ er_bk b (p : Int) = 1)) := er_LC_congr hv.2.1 hv.2.2.2.1 (fun _ _ _ => rfl) (fun _ _ _ => rfl) (fun p hp => congrArg (1000000 * ·) (er_ic_iff ⟨fun z => ⟨by omega, z.2⟩, fun z => ⟨by
          by_cases hpx : p = x
          · have := z.2
            rw [hpx] at this
            omega
          · omega, z.2⟩⟩))
        rw [eL] at a1 a2 a3
        exact ih (x + 1) m3 (by omega) a1 a2 a3 kk
      · refine sp_N_supply hn52 (by omega) (by omega) ?_
        have hs1 : er_bk b (x : Int) = 1 := by omega
        obtain ⟨s1, s2, s3⟩ := er_LC_supply (x := 0) (w := 1000000) (p := x) (sup' := fun p => 1000000 * er_ic (p < x + 1 ∧ er_bk b (p : Int) = 1)) a1 a2 a3 (by omega) ⟨by decide, by decide⟩ (by show 1000000 * er_ic _ = 0; rw [er_ic_f (fun z => by omega)]; rfl) (by show 1000000 * er_ic _ = 1000000; rw [er_ic_t ⟨by omega, hs1⟩]; rfl) (fun q hq hne => congrArg (1000000 * ·) (er_ic_iff ⟨fun z => ⟨by omega, z.2⟩, fun z => ⟨by omega, z.2⟩⟩)) (fun q hq => bd _)
        exact ih (x + 1) _ (by omega) s1 s2 s3 (kk.tr (er_kp.st (by omega)))
  -- what is open
  have opens : ∀ (d x : Nat) (m1 : er_M), x + d = 36 → (∀ j : Int, 0 ≤ j → j < x → m1 82 j = er_ic (er_bk b j ≠ 2)) → er_kp (fun c _ => c = 82) m m1 → wp_R_throughput_11 K (x : Int) m1 Q := by
    intro d
    induction d with
    | zero =>
      intro x m1 hx hop kk
      have hcb := hb.kp kk (fun q k a z => by omega)
      have h3 : ∀ j : Int, 0 ≤ j → j < 36 → m1 3 j = er_bk b j := fun j j0 j1 => (hcb.2.2.2.2 j j0 j1).1
      refine vc_R_throughput_11 ⟨⟨by omega, by omega⟩, fun _ => ?_, fun hlt => by omega⟩
      refine sp_N_build hn52 rfl (er_CB_BM hcb hv) (fun j j0 j1 => by rw [h3 j j0 j1]; exact hv.2.2.2.2.2.2.2.2.1 j j0 j1) (fun j j0 j1 => by rw [hop j j0 (by omega)]; exact er_ic_01 _) ⟨by decide, by decide⟩ (fun m3 hcf hk3 h9 => ?_)
      rw [er_LC_congr (kd' := er_bk b) (op' := fun j => er_ic (er_bk b j ≠ 2)) (sup' := fun p => 1000000 * er_ic (p < 0 ∧ er_bk b (p : Int) = 1)) hv.2.1 hv.2.2.2.1 h3 (fun j j0 j1 => hop j j0 (by omega)) (fun p _ => by rw [er_ic_f (fun z => by omega)]; rfl)] at hcf
      have hfo := er_Fr_FO hcf.2 hcf.1.2.2.1
      exact sups 36 0 m3 rfl hcf.1 hfo.1 (hfo.2 0) ((kk.wk (fun c k z => by omega)).tr (hk3.wk (fun c k z => by unfold er_NB at z; omega)))
    | succ d ih =>
      intro x m1 hx hop kk
      have h3 : m1 3 (x : Int) = er_bk b (x : Int) := by rw [kk 3 _ (by omega)]; exact (hb.2.2.2.2 x (by omega) (by omega)).1
      have hkd := hv.2.2.2.2.2.2.2.2.1 (x : Int) (by omega) (by omega)
      have step : ∀ v : Int, v = er_ic (er_bk b (x : Int) ≠ 2) → ∀ m8 : er_M, m8 = er_st m1 82 x v → wp_R_throughput_11 K ((x : Int) + 1) m8 Q := by
        intro v ev m8 e8
        refine ih (x + 1) m8 (by omega) (fun j j0 j1 => ?_) (kk.tr (by rw [e8]; exact er_kp.st rfl))
        rw [e8]
        by_cases hj : j = x
        · rw [hj, er_st_s, ev]
        · rw [er_st_k hj]; exact hop j j0 (by omega)
      refine vc_R_throughput_11 ⟨⟨by omega, by omega⟩, fun hle => by omega, fun _ => ⟨by omega, by omega, ⟨by omega, by omega⟩, fun hz => step 0 (er_ic_f (by omega)).symm, fun hz => step 1 (er_ic_t (by omega)).symm⟩⟩
  refine vc_R_throughput ⟨by rcases ht9 with z | z; exact ⟨by omega, by omega⟩; exact ⟨by omega, by omega⟩, fun hne => ?_, fun he => opens 36 0 m rfl (fun j j0 j1 => by omega) er_kp.rf⟩
  rcases ht9 with z | ⟨z1, z2, rm, z3⟩
  · exact absurd z hne
  · exact hQ m _ rm z3 z1 z2 (er_CI_tr h er_kp.rf (F := fun _ _ => False) (fun _ _ _ _ z => z) ⟨hs7, Or.inr ⟨z1, z2, rm, z3⟩⟩ hl ⟨k1, by omega, k3, by omega⟩) er_kp.rf
end ERCQ
