/-! the class's network: channels, build, supply -/
section ERN3
variable {K : er_K} {n o : Nat} {m0 : er_M} {R C : Nat} {ch tl : Int} {L : List er_Ed}
theorem er_O_out {n o : Nat} (hn : er_isN n) (ho : er_isO o) : o < 43 ∨ 60 < o := by
  have h : ∀ c, c < 18 → er_at er_SH (43 + c) ≠ some (1, 36, []) := by decide +kernel
  apply Classical.byContradiction
  intro z
  have := h (o - 43) (by omega)
  rw [show 43 + (o - 43) = o by omega] at this
  exact this ho
theorem sp_N_connectChannels {Q : er_M → Prop} (hn : er_isN n) (ho : er_isO o) (hb : er_BM m0 R C ch tl) (hop : ∀ j, 0 ≤ j → j < 36 → m0 o j = 0 ∨ m0 o j = 1) (h : er_CF n m0 L) (hl : L.length ≤ 253) (hQ : ∀ m', er_it n m0 L (er_chans R C ch (m0 o)) m' → Q m') : er_SV K mi_N_connectChannels [.inr n, .inr 2, .inr o] m0 Q := by
  have htot := er_chans_len hb.2.2.2.2.2.1 hb.2.2.2.2.2.2.2.1 ch (m0 o)
  have hoo := er_O_out hn ho
  have inner : ∀ r : Nat, r < R → (∀ m, er_it n m0 L (er_flat (r + 1) (fun r => er_flat C (fun c => er_chan R C ch (m0 o) r c))) m → wp_N_connectChannels_2 K n o ((r + 1 : Nat) : Int) m Q) → ∀ (d c : Nat) (m : er_M), c + d = C → er_it n m0 L (er_flat r (fun r => er_flat C (fun c => er_chan R C ch (m0 o) r c)) ++ er_flat c (fun c => er_chan R C ch (m0 o) r c)) m → wp_N_connectChannels_13 K n o (r : Int) (c : Int) m Q := by
    intro r hr hnext d
    induction d with
    | zero =>
      intro c m hc hi
      have hb' := hb.kp hn hi.2.1
      obtain ⟨b1, b2, b3, b4, b5, b6, b7, b8, b9⟩ := hb'
      refine vc_N_connectChannels_13 hn ho ⟨⟨by omega, by omega⟩, ⟨by omega, by omega⟩, fun _ => ?_, fun hlt => by omega⟩
      refine hnext m ?_
      rw [show C = c by omega] at hi ⊢
      exact hi
    | succ d ih =>
      intro c m hc hi
      have hb' := hb.kp hn hi.2.1
      obtain ⟨b1, b2, b3, b4, b5, b6, b7, b8, b9⟩ := hb'
      have hpre := Nat.le_trans (er_flat_pre (g := fun r c => er_chan R C ch (m0 o) r c) hr (show c < C by omega)) htot
      have eo : ∀ j, m o j = m0 o j := fun j => hi.2.1 o j (er_NB_2 hn hoo)
      have hlA : (c + 1 < C) → 2 ≤ (er_chan R C ch (m0 o) r c).length ∧ (r + 1 < R → (er_chan R C ch (m0 o) r c).length = 4) := fun z => by
        unfold er_chan
        rw [if_pos z]
        refine ⟨by simp [er_both], fun y => by rw [if_pos y]; rfl⟩
      have hlB : (r + 1 < R) → 2 ≤ (er_chan R C ch (m0 o) r c).length := fun z => by
        unfold er_chan
        rw [if_pos z]
        simp [er_both]
      have op0 := hop (6 * (r : Int) + c) (by omega) (by omega)
      -- behind the right neighbour
      have tail : ∀ m4, er_it n m0 L ((er_flat r (fun r => er_flat C (fun c => er_chan R C ch (m0 o) r c)) ++ er_flat c (fun c => er_chan R C ch (m0 o) r c)) ++ (if c + 1 < C then er_both (7 * (r : Int) + (c + 1)) (7 * ((r : Int) + 1) + (c + 1)) (ch + m0 o (6 * (r : Int) + c) + m0 o (6 * (r : Int) + (c + 1))) else [])) m4 → wp_N_connectChannels_111 K n o (r : Int) (c : Int) (7 * ((r : Int) + 1) + (c + 1)) (ch + m0 o (6 * (r : Int) + c)) m4 Q := by
        intro m4 h4
        have hb4 := hb.kp hn h4.2.1
        obtain ⟨d1, d2, d3, d4, d5, d6, d7, d8, d9⟩ := hb4
        have eo4 : ∀ j, m4 o j = m0 o j := fun j => h4.2.1 o j (er_NB_2 hn hoo)
        refine vc_N_connectChannels_111 hn ho ⟨⟨by omega, by omega⟩, ⟨by omega, by omega⟩, fun hge => ?_, fun hlt => ?_⟩
        · refine ih (c + 1) m4 (by omega) ?_
          have : er_flat r (fun r => er_flat C (fun c => er_chan R C ch (m0 o) r c)) ++ er_flat (c + 1) (fun c => er_chan R C ch (m0 o) r c) = (er_flat r (fun r => er_flat C (fun c => er_chan R C ch (m0 o) r c)) ++ er_flat c (fun c => er_chan R C ch (m0 o) r c)) ++ (if c + 1 < C then er_both (7 * (r : Int) + (c + 1)) (7 * ((r : Int) + 1) + (c + 1)) (ch + m0 o (6 * (r : Int) + c) + m0 o (6 * (r : Int) + (c + 1))) else []) := by
            rw [show er_flat (c + 1) (fun c => er_chan R C ch (m0 o) r c) = er_flat c (fun c => er_chan R C ch (m0 o) r c) ++ er_chan R C ch (m0 o) r c from rfl]
            unfold er_chan
            rw [if_neg (show ¬ r + 1 < R by omega)]
            simp
          rw [this]
          exact h4
        · have op1 := hop (6 * ((r : Int) + 1) + c) (by omega) (by omega)
          have fin : ∀ q : Int, m0 o (6 * ((r : Int) + 1) + c) = q → er_SV K mi_N_connectBothWays [.inr n, .inl (7 * ((r : Int) + 1) + c), .inl (7 * ((r : Int) + 1) + (c + 1)), .inl (ch + m0 o (6 * (r : Int) + c) + q)] m4 (fun m12 => wp_N_connectChannels_13 K n o (r : Int) ((c : Int) + 1) m12 Q) := by
            intro q hq
            refine sp_N_connectBothWays hn h4.1 ?_ (by omega) (by omega) (by omega) (fun m5 h5 k5 n5 => ?_)
            · have := hlB (by omega)
              simp only [List.length_append]
              by_cases hc1 : c + 1 < C
              · rw [if_pos hc1]
                have := (hlA hc1).2 (by omega)
                simp only [er_both, List.length_cons, List.length_nil]
                omega
              · rw [if_neg hc1]
                simp only [List.length_nil]
                omega
            · refine ih (c + 1) m5 (by omega) ⟨?_, h4.2.1.tr k5, n5.trans h4.2.2⟩
              have : L ++ (er_flat r (fun r => er_flat C (fun c => er_chan R C ch (m0 o) r c)) ++ er_flat (c + 1) (fun c => er_chan R C ch (m0 o) r c)) = L ++ ((er_flat r (fun r => er_flat C (fun c => er_chan R C ch (m0 o) r c)) ++ er_flat c (fun c => er_chan R C ch (m0 o) r c)) ++ (if c + 1 < C then er_both (7 * (r : Int) + (c + 1)) (7 * ((r : Int) + 1) + (c + 1)) (ch + m0 o (6 * (r : Int) + c) + m0 o (6 * (r : Int) + (c + 1))) else [])) ++ er_both (7 * ((r : Int) + 1) + c) (7 * ((r : Int) + 1) + (c + 1)) (ch + m0 o (6 * (r : Int) + c) + q) := by
                rw [show er_flat (c + 1) (fun c => er_chan R C ch (m0 o) r c) = er_flat c (fun c => er_chan R C ch (m0 o) r c) ++ er_chan R C ch (m0 o) r c from rfl]
                unfold er_chan
                rw [if_pos (show r + 1 < R by omega), hq]
                simp
              rw [this]
              exact h5
          refine vc_R_placeOf ?_
          rw [show (((r : Int) + 1) * 6 + c) = 6 * ((r : Int) + 1) + c by omega, eo4]
          refine ⟨by omega, by omega, ⟨by omega, by omega⟩, fun hz => vc_R_tileAt ?_, fun hz => vc_R_tileAt ?_⟩
          · rw [show (((r : Int) + 1) * 7 + c) = 7 * ((r : Int) + 1) + c by omega]
            exact fin 0 hz
          · rw [show (((r : Int) + 1) * 7 + c) = 7 * ((r : Int) + 1) + c by omega]
            exact fin 1 (by omega)
      have mid : ∀ p : Int, m0 o (6 * (r : Int) + c) = p → (er_in ((c : Int) + 1)) ∧ (er_in (m 2 1)) ∧ ((((m 2 1) ≤ ((c : Int) + 1) → wp_N_connectChannels_111 K n o r c (7 * ((r : Int) + 1) + (c + 1)) (ch + p) m Q) ∧ (((c : Int) + 1) < (m 2 1) → er_SI K mi_R_placeOf [.inl (r : Int), .inl ((c : Int) + 1)] m (fun v16 m15 => (0 ≤ v16) ∧ (v16 < 36) ∧ ((er_in (m15 o v16)) ∧ ((((m15 o v16) = 0 → er_SI K mi_R_tileAt [.inl (r : Int), .inl ((c : Int) + 1)] m15 (fun v22 m21 => er_SV K mi_N_connectBothWays [.inr n, .inl v22, .inl (7 * ((r : Int) + 1) + (c + 1)), .inl ((ch + p) + 0)] m21 (fun m23 => wp_N_connectChannels_111 K n o r c (7 * ((r : Int) + 1) + (c + 1)) (ch + p) m23 Q))) ∧ ((m15 o v16) ≠ 0 → er_SI K mi_R_tileAt [.inl (r : Int), .inl ((c : Int) + 1)] m15 (fun v25 m24 => er_SV K mi_N_connectBothWays [.inr n, .inl v25, .inl (7 * ((r : Int) + 1) + (c + 1)), .inl ((ch + p) + 1)] m24 (fun m26 => wp_N_connectChannels_111 K n o r c (7 * ((r : Int) + 1) + (c + 1)) (ch + p) m26 Q)))))))))) := by
        intro p hp
        refine ⟨⟨by omega, by omega⟩, ⟨by omega, by omega⟩, fun hge => ?_, fun hlt => ?_⟩
        · rw [← hp]
          refine tail m ?_
          rw [if_neg (show ¬ c + 1 < C by omega), List.append_nil]
          exact hi
        · have op1 := hop (6 * (r : Int) + (c + 1)) (by omega) (by omega)
          refine vc_R_placeOf ?_
          rw [show ((r : Int) * 6 + ((c : Int) + 1)) = 6 * (r : Int) + (c + 1) by omega, eo]
          have fin : ∀ q : Int, m0 o (6 * (r : Int) + (c + 1)) = q → er_SV K mi_N_connectBothWays [.inr n, .inl (7 * (r : Int) + (c + 1)), .inl (7 * ((r : Int) + 1) + (c + 1)), .inl (ch + p + q)] m (fun m23 => wp_N_connectChannels_111 K n o r c (7 * ((r : Int) + 1) + (c + 1)) (ch + p) m23 Q) := by
            intro q hq
            refine sp_N_connectBothWays hn hi.1 ?_ (by omega) (by omega) (by omega) (fun m5 h5 k5 n5 => ?_)
            · have := (hlA (by omega)).1
              simp only [List.length_append]
              omega
            · rw [← hp]
              refine tail m5 ⟨?_, hi.2.1.tr k5, n5.trans hi.2.2⟩
              rw [if_pos (show c + 1 < C by omega), hp, hq, ← List.append_assoc]
              exact h5
          refine ⟨by omega, by omega, ⟨by omega, by omega⟩, fun hz => vc_R_tileAt ?_, fun hz => vc_R_tileAt ?_⟩
          · rw [show ((r : Int) * 7 + ((c : Int) + 1)) = 7 * (r : Int) + (c + 1) by omega]
            exact fin 0 hz
          · rw [show ((r : Int) * 7 + ((c : Int) + 1)) = 7 * (r : Int) + (c + 1) by omega]
            exact fin 1 (by omega)
      refine vc_N_connectChannels_13 hn ho ⟨⟨by omega, by omega⟩, ⟨by omega, by omega⟩, fun hlt => by omega, fun _ => ?_⟩
      refine vc_R_placeOf ?_
      refine vc_R_tileAt ?_
      rw [show ((r : Int) * 6 + c) = 6 * (r : Int) + c by omega, show (((r : Int) + 1) * 7 + ((c : Int) + 1)) = 7 * ((r : Int) + 1) + (c + 1) by omega, eo, b3]
      refine ⟨by omega, by omega, ⟨by omega, by omega⟩, fun hz => mid 0 hz, fun hz => mid 1 (by omega)⟩
  have outer : ∀ (d r : Nat) (m : er_M), r + d = R → er_it n m0 L (er_flat r (fun r => er_flat C (fun c => er_chan R C ch (m0 o) r c))) m → wp_N_connectChannels_2 K n o (r : Int) m Q := by
    intro d
    induction d with
    | zero =>
      intro r m hr hi
      have hb' := hb.kp hn hi.2.1
      obtain ⟨b1, b2, b3, b4, b5, b6, b7, b8, b9⟩ := hb'
      refine vc_N_connectChannels_2 hn ho ⟨⟨by omega, by omega⟩, ⟨by omega, by omega⟩, fun _ => ?_, fun hlt => by omega⟩
      refine hQ m ?_
      unfold er_chans
      rw [show R = r by omega] at hi ⊢
      exact hi
    | succ d ih =>
      intro r m hr hi
      have hb' := hb.kp hn hi.2.1
      obtain ⟨b1, b2, b3, b4, b5, b6, b7, b8, b9⟩ := hb'
      refine vc_N_connectChannels_2 hn ho ⟨⟨by omega, by omega⟩, ⟨by omega, by omega⟩, fun hlt => by omega, fun _ => ?_⟩
      refine inner r (by omega) (fun m1 h1 => ih (r + 1) m1 (by omega) h1) C 0 m (by omega) ?_
      simp only [er_flat, List.append_nil]
      exact hi
  refine vc_N_connectChannels hn ho (outer R 0 m0 (by omega) ⟨?_, er_kp.rf, rfl⟩)
  simp only [er_flat, List.append_nil]
  exact h
/-- all edges of the class's network -/
noncomputable def er_LC (R C : Nat) (ch tl : Int) (kd op : Int → Int) (w : Int) (sup : Nat → Int) : List er_Ed := er_srcs sup ++ (er_pins R C kd w ++ (er_tiles R C tl 1000000 ++ er_chans R C ch op))
theorem sp_N_build {Q : er_M → Prop} {w : Int} (hn : er_isN n) (ho : er_isO o) (hb : er_BM m0 R C ch tl) (hkd : ∀ j, 0 ≤ j → j < 36 → 0 ≤ m0 3 j ∧ m0 3 j ≤ 2) (hop : ∀ j, 0 ≤ j → j < 36 → m0 o j = 0 ∨ m0 o j = 1) (hw : 0 ≤ w ∧ w ≤ 1000000) (hQ : ∀ m', er_CF n m' (er_LC R C ch tl (m0 3) (m0 o) w (fun _ => 0)) → er_kp (er_NB n) m0 m' → m' n 9 = 2 * (36 + (er_pins R C (m0 3) w).length + (er_tiles R C tl 1000000).length) → Q m') : er_SV K mi_N_build [.inr n, .inr 2, .inr o, .inl w] m0 Q := by
  have hoo := er_O_out hn ho
  have hnn := er_isN_c hn
  have rest : ∀ m, er_it n m0 [] (er_srcs (fun _ => 0)) m → er_SV K mi_N_connectPins [.inr n, .inr 2, .inl w] m (fun m3 => er_SV K mi_N_connectTiles [.inr n, .inr 2] m3 (fun m4 => ∀ m5 : er_M, m5 = er_st m4 n 9 (m4 n 8) → er_SV K mi_N_connectChannels [.inr n, .inr 2, .inr o] m5 (fun m6 => Q m6))) := by
    intro m hi
    have hi1 := hi.1
    rw [List.nil_append] at hi1
    have hb' := hb.kp hn hi.2.1
    have ek : m 3 = m0 3 := funext fun j => hi.2.1 3 j (er_NB_2 hn (by omega))
    refine sp_N_connectPins hn hb' (by rw [ek]; exact hkd) hi1 (by rw [er_srcs_len]; exact Nat.le_refl _) hw (fun m3 h3 => ?_)
    have hb3 := hb'.kp hn h3.2.1
    have lp := er_pins_len hb.2.2.2.2.2.1 hb.2.2.2.2.2.2.2.1 (m 3) w
    refine sp_N_connectTiles hn hb3 h3.1 (by rw [List.length_append, er_srcs_len]; omega) (fun m4 h4 => ?_)
    intro m5 e5
    have lt := er_tiles_len hb.2.2.2.2.2.1 hb.2.2.2.2.2.2.2.1 tl 1000000
    have k5 : er_kp (er_NB n) m4 m5 := by rw [e5]; exact er_kp.st (by unfold er_NB; omega)
    have h5 : er_CF n m5 (er_srcs (fun _ => 0) ++ er_pins R C (m 3) w ++ er_tiles R C tl 1000000) := by
      have c1 : m5 (n + 1) = m4 (n + 1) := by funext q; rw [e5]; exact er_st_c (by omega)
      have c2 : m5 (n + 2) = m4 (n + 2) := by funext q; rw [e5]; exact er_st_c (by omega)
      have c3 : m5 (n + 3) = m4 (n + 3) := by funext q; rw [e5]; exact er_st_c (by omega)
      have c4 : m5 (n + 4) = m4 (n + 4) := by funext q; rw [e5]; exact er_st_c (by omega)
      have c8 : m5 n 8 = m4 n 8 := by rw [e5]; exact er_st_k (by decide)
      have h := h4.1
      unfold er_CF er_CN at h ⊢
      rw [c1, c2, c3, c4, c8]
      exact h
    have hkk : er_kp (er_NB n) m0 m5 := ((hi.2.1.tr h3.2.1).tr h4.2.1).tr k5
    have hb5 := hb.kp hn hkk
    have eo5 : m5 o = m0 o := funext fun j => hkk o j (er_NB_2 hn hoo)
    refine sp_N_connectChannels hn ho hb5 (by rw [eo5]; exact hop) h5 (by simp only [List.length_append]; rw [er_srcs_len]; omega) (fun m6 h6 => ?_)
    refine hQ m6 ?_ (hkk.tr h6.2.1) ?_
    · have h := h6.1
      rw [eo5, ek] at h
      unfold er_LC
      rw [List.append_assoc, List.append_assoc] at h
      exact h
    · rw [h6.2.2, e5, er_st_s, h4.1.1.1]
      simp only [List.length_append]
      rw [er_srcs_len, ek]
      omega
  have loop2 : ∀ (d p : Nat) (m : er_M), p + d = 36 → er_it n m0 [] (er_flat p (fun p => [(0, 2 + (p : Int), 0)])) m → wp_N_build_33 K n o w (p : Int) m Q := by
    intro d
    induction d with
    | zero =>
      intro p m hp hi
      refine vc_N_build_33 hn ho ⟨⟨by omega, by omega⟩, fun _ => rest m ?_, fun hlt => by omega⟩
      rw [show p = 36 by omega] at hi
      exact hi
    | succ d ih =>
      intro p m hp hi
      refine vc_N_build_33 hn ho ⟨⟨by omega, by omega⟩, fun hlt => by omega, fun _ => ?_⟩
      have hlen := er_flat_le (f := fun p : Nat => [((0 : Int), 2 + (p : Int), (0 : Int))]) (k := 1) p (fun _ _ => Nat.le_refl _)
      refine sp_N_connect hn hi.1 (by simp only [List.nil_append]; omega) (by omega) (by omega) (by omega) (fun m1 h1 k1 n1 => ?_)
      refine ih (p + 1) m1 (by omega) ⟨?_, hi.2.1.tr k1, n1.trans hi.2.2⟩
      rw [List.append_assoc] at h1
      exact h1
  have loop1 : ∀ (d p : Nat) (m : er_M), p + d = 136 → m n 8 = 0 → er_kp (er_NB n) m0 m → m n 9 = m0 n 9 → (∀ v : Int, 0 ≤ v → v < p → m (n + 1) v = -1) → wp_N_build_8 K n o w (p : Int) m Q := by
    intro d
    induction d with
    | zero =>
      intro p m hp h8 hk h9 hf
      refine vc_N_build_8 hn ho ⟨⟨by omega, by omega⟩, fun _ => ?_, fun hlt => by omega⟩
      refine loop2 36 0 m (by omega) ⟨⟨⟨?_, by simp [er_flat], fun i hi => by simp [er_flat] at hi, fun e h0 h1 => by simp [er_flat] at h1; omega, ?_, fun e h0 h1 => by simp [er_flat] at h1; omega⟩, fun i hi => by simp [er_flat] at hi⟩, hk, h9⟩
      · simp [er_flat, h8]
      · intro v h0 h1
        exact Or.inl ⟨hf v h0 (by omega), fun k k0 k1 => by simp [er_flat] at k1; omega⟩
    | succ d ih =>
      intro p m hp h8 hk h9 hf
      refine vc_N_build_8 hn ho ⟨⟨by omega, by omega⟩, fun hlt => by omega, fun _ => ⟨by omega, by omega, fun m5 e5 => ?_⟩⟩
      refine ih (p + 1) m5 (by omega) (by rw [e5, er_st_c (by omega)]; exact h8) (hk.tr (by rw [e5]; exact er_kp.st (by unfold er_NB; omega))) (by rw [e5, er_st_c (by omega)]; exact h9) (fun v v0 v1 => ?_)
      rw [e5]
      by_cases hv : v = (p : Int)
      · rw [hv, er_st_s]
      · rw [er_st_k hv]
        exact hf v v0 (by omega)
  refine vc_N_build hn ho (fun m1 e1 => loop1 136 0 m1 (by omega) (by rw [e1, er_st_s]) (by rw [e1]; exact er_kp.st (by unfold er_NB; omega)) (by rw [e1, er_st_k (by decide)]) (fun v v0 v1 => by omega))
end ERN3
