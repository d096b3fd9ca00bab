/-! the class's network: tiles, pins, channels, all of it -/
/-- the board's measures -/
def er_BM (m : er_M) (R C : Nat) (ch tl : Int) : Prop := m 2 0 = (R : Int) ∧ m 2 1 = (C : Int) ∧ m 2 2 = ch ∧ m 2 3 = tl ∧ 1 ≤ R ∧ R ≤ 6 ∧ 1 ≤ C ∧ C ≤ 6 ∧ 0 ≤ ch ∧ ch ≤ 5 ∧ 0 ≤ tl ∧ tl ≤ 9
theorem er_isN_c {n : Nat} (h : er_isN n) : n = 43 ∨ n = 52 := h
theorem er_NB_2 {n : Nat} (h : er_isN n) {c : Nat} (hc : c < 43 ∨ 60 < c) {k : Int} : ¬ er_NB n c k := by
  have := er_isN_c h
  unfold er_NB
  omega
theorem er_BM.kp {n : Nat} {m m' : er_M} {R C : Nat} {ch tl : Int} (h : er_BM m R C ch tl) (hn : er_isN n) (hk : er_kp (er_NB n) m m') : er_BM m' R C ch tl := by
  obtain ⟨h1, h2, h3, h4, h5⟩ := h
  have e : ∀ k, m' 2 k = m 2 k := fun k => hk 2 k (er_NB_2 hn (by omega))
  exact ⟨by rw [e]; exact h1, by rw [e]; exact h2, by rw [e]; exact h3, by rw [e]; exact h4, h5⟩
theorem er_app4 {α : Type} (a b c d : List α) : a ++ b ++ c ++ d = a ++ (b ++ (c ++ d)) := by simp
section ERN2
variable {K : er_K} {n : Nat} {m0 : er_M} {R C : Nat} {ch tl : Int} {L : List er_Ed}
/-- how far the tiles are -/
def er_it (n : Nat) (m0 : er_M) (L P : List er_Ed) (m : er_M) : Prop := er_CF n m (L ++ P) ∧ er_kp (er_NB n) m0 m ∧ m n 9 = m0 n 9
theorem sp_N_connectTiles {Q : er_M → Prop} (hn : er_isN n) (hb : er_BM m0 R C ch tl) (h : er_CF n m0 L) (hl : L.length ≤ 180) (hQ : ∀ m', er_it n m0 L (er_tiles R C tl 1000000) m' → Q m') : er_SV K mi_N_connectTiles [.inr n, .inr 2] m0 Q := by
  have htot := er_tiles_len hb.2.2.2.2.2.1 hb.2.2.2.2.2.2.2.1 tl 1000000
  have inner : ∀ r : Nat, r ≤ R → (∀ m, er_it n m0 L (er_flat (r + 1) (fun r => er_flat (C + 1) (fun c => er_tile R C tl 1000000 r c))) m → wp_N_connectTiles_2 K n ((r + 1 : Nat) : Int) m Q) → ∀ (d c : Nat) (m : er_M), c + d = C + 1 → er_it n m0 L (er_flat r (fun r => er_flat (C + 1) (fun c => er_tile R C tl 1000000 r c)) ++ er_flat c (fun c => er_tile R C tl 1000000 r c)) m → wp_N_connectTiles_12 K n (r : Int) (c : Int) m Q := by
    intro r hr hnext d
    induction d with
    | zero =>
      intro c m hc hi
      have hb' := hb.kp hn hi.2.1
      obtain ⟨b1, b2, b3, b4, b5, b6, b7, b8, b9⟩ := hb'
      refine vc_N_connectTiles_12 hn ⟨⟨by omega, by omega⟩, ⟨by omega, by omega⟩, fun _ => ?_, fun hlt => by omega⟩
      refine hnext m ?_
      rw [show C + 1 = c by omega] at hi ⊢
      exact hi
    | succ d ih =>
      intro c m hc hi
      have hb' := hb.kp hn hi.2.1
      obtain ⟨b1, b2, b3, b4, b5, b6, b7, b8, b9⟩ := hb'
      have hpre := Nat.le_trans (er_flat_pre (g := fun r c => er_tile R C tl 1000000 r c) (show r < R + 1 by omega) (show c < C + 1 by omega)) htot
      have ht1 : 1 ≤ (er_tile R C tl 1000000 r c).length := by unfold er_tile; simp
      have ht2 : (r = 0 ∨ r = R ∨ c = 0 ∨ c = C) → (er_tile R C tl 1000000 r c).length = 2 := fun z => by unfold er_tile; rw [if_pos z]; rfl
      refine vc_N_connectTiles_12 hn ⟨⟨by omega, by omega⟩, ⟨by omega, by omega⟩, fun hlt => by omega, fun _ => ?_⟩
      refine vc_R_tileAt ?_
      rw [show ((r : Int) * 7 + c) = 7 * (r : Int) + c by omega, b4]
      have step : ∀ m6, er_it n m0 L (er_flat r (fun r => er_flat (C + 1) (fun c => er_tile R C tl 1000000 r c)) ++ er_flat (c + 1) (fun c => er_tile R C tl 1000000 r c)) m6 → wp_N_connectTiles_12 K n (r : Int) ((c : Int) + 1) m6 Q := fun m6 h6 => ih (c + 1) m6 (by omega) h6
      refine sp_N_connect hn hi.1 (by simp only [List.length_append]; omega) (by omega) (by omega) (by omega) (fun m6 h6 k6 n6 => ?_)
      have hb6 := hb.kp hn (hi.2.1.tr k6)
      obtain ⟨d1, d2, d3, d4, d5, d6, d7, d8, d9⟩ := hb6
      have rim : (r = 0 ∨ r = R ∨ c = 0 ∨ c = C) → wp_N_connectTiles_69 K n (r : Int) (c : Int) (7 * (r : Int) + c) m6 Q := by
        intro hrim
        refine vc_N_connectTiles_69 hn ?_
        refine sp_N_connect hn h6 (by have := ht2 hrim; simp only [List.length_append, List.length_singleton]; omega) (by omega) (by omega) (by omega) (fun m7 h7 k7 n7 => ?_)
        refine step m7 ⟨?_, (hi.2.1.tr k6).tr k7, (n7.trans n6).trans hi.2.2⟩
        have : L ++ (er_flat r (fun r => er_flat (C + 1) (fun c => er_tile R C tl 1000000 r c)) ++ er_flat (c + 1) (fun c => er_tile R C tl 1000000 r c)) = L ++ (er_flat r (fun r => er_flat (C + 1) (fun c => er_tile R C tl 1000000 r c)) ++ er_flat c (fun c => er_tile R C tl 1000000 r c)) ++ [(38 + (7 * (r : Int) + c), 87 + (7 * (r : Int) + c), tl)] ++ [(87 + (7 * (r : Int) + c), 1, 1000000)] := by
          simp only [er_flat, er_tile, if_pos hrim]
          simp
        rw [this]
        exact h7
      have norim : ¬ (r = 0 ∨ r = R ∨ c = 0 ∨ c = C) → wp_N_connectTiles_12 K n (r : Int) ((c : Int) + 1) m6 Q := by
        intro hrim
        refine step m6 ⟨?_, hi.2.1.tr k6, n6.trans hi.2.2⟩
        have : L ++ (er_flat r (fun r => er_flat (C + 1) (fun c => er_tile R C tl 1000000 r c)) ++ er_flat (c + 1) (fun c => er_tile R C tl 1000000 r c)) = L ++ (er_flat r (fun r => er_flat (C + 1) (fun c => er_tile R C tl 1000000 r c)) ++ er_flat c (fun c => er_tile R C tl 1000000 r c)) ++ [(38 + (7 * (r : Int) + c), 87 + (7 * (r : Int) + c), tl)] := by
          simp only [er_flat, er_tile, if_neg hrim]
          simp
        rw [this]
        exact h6
      refine ⟨⟨by omega, by omega⟩, fun _ => rim (by omega), fun _ => ⟨⟨by omega, by omega⟩, fun _ => rim (by omega), fun _ => ⟨fun _ => rim (by omega), fun _ => ⟨⟨by omega, by omega⟩, fun _ => norim (by omega), fun _ => rim (by omega)⟩⟩⟩⟩
  have outer : ∀ (d r : Nat) (m : er_M), r + d = R + 1 → er_it n m0 L (er_flat r (fun r => er_flat (C + 1) (fun c => er_tile R C tl 1000000 r c))) m → wp_N_connectTiles_2 K n (r : Int) m Q := by
    intro d
    induction d with
    | zero =>
      intro r m hr hi
      have hb' := hb.kp hn hi.2.1
      obtain ⟨b1, b2, b3, b4, b5, b6, b7, b8, b9⟩ := hb'
      refine vc_N_connectTiles_2 hn ⟨⟨by omega, by omega⟩, ⟨by omega, by omega⟩, fun _ => ?_, fun hlt => by omega⟩
      refine hQ m ?_
      unfold er_tiles
      rw [show R + 1 = r by omega]
      exact hi
    | succ d ih =>
      intro r m hr hi
      have hb' := hb.kp hn hi.2.1
      obtain ⟨b1, b2, b3, b4, b5, b6, b7, b8, b9⟩ := hb'
      refine vc_N_connectTiles_2 hn ⟨⟨by omega, by omega⟩, ⟨by omega, by omega⟩, fun hlt => by omega, fun _ => ?_⟩
      refine inner r (by omega) (fun m1 h1 => ih (r + 1) m1 (by omega) h1) (C + 1) 0 m (by omega) ?_
      simp only [er_flat, List.append_nil]
      exact hi
  refine vc_N_connectTiles hn (outer (R + 1) 0 m0 (by omega) ⟨?_, er_kp.rf, rfl⟩)
  simp only [er_flat, List.append_nil]
  exact h
theorem sp_N_connectPins {Q : er_M → Prop} {w : Int} (hn : er_isN n) (hb : er_BM m0 R C ch tl) (hkd : ∀ j, 0 ≤ j → j < 36 → 0 ≤ m0 3 j ∧ m0 3 j ≤ 2) (h : er_CF n m0 L) (hl : L.length ≤ 36) (hw : 0 ≤ w ∧ w ≤ 1000000) (hQ : ∀ m', er_it n m0 L (er_pins R C (m0 3) w) m' → Q m') : er_SV K mi_N_connectPins [.inr n, .inr 2, .inl w] m0 Q := by
  have htot := er_pins_len hb.2.2.2.2.2.1 hb.2.2.2.2.2.2.2.1 (m0 3) w
  have inner : ∀ r : Nat, r < R → (∀ m, er_it n m0 L (er_flat (r + 1) (fun r => er_flat C (fun c => er_pinc (m0 3) w r c))) m → wp_N_connectPins_2 K n w ((r + 1 : Nat) : Int) m Q) → ∀ (d c : Nat) (m : er_M), c + d = C → er_it n m0 L (er_flat r (fun r => er_flat C (fun c => er_pinc (m0 3) w r c)) ++ er_flat c (fun c => er_pinc (m0 3) w r c)) m → wp_N_connectPins_13 K n w (r : Int) (c : Int) m Q := by
    intro r hr hnext d
    induction d with
    | zero =>
      intro c m hc hi
      have hb' := hb.kp hn hi.2.1
      obtain ⟨b1, b2, b3, b4, b5, b6, b7, b8, b9⟩ := hb'
      refine vc_N_connectPins_13 hn ⟨⟨by omega, by omega⟩, ⟨by omega, by omega⟩, fun _ => ?_, fun hlt => by omega⟩
      refine hnext m ?_
      rw [show C = c by omega] at hi ⊢
      exact hi
    | succ d ih =>
      intro c m hc hi
      have hb' := hb.kp hn hi.2.1
      obtain ⟨b1, b2, b3, b4, b5, b6, b7, b8, b9⟩ := hb'
      have hpre := Nat.le_trans (er_flat_pre (g := fun r c => er_pinc (m0 3) w r c) hr (show c < C by omega)) htot
      have ek : ∀ j, m 3 j = m0 3 j := fun j => hi.2.1 3 j (er_NB_2 hn (by omega))
      refine vc_N_connectPins_13 hn ⟨⟨by omega, by omega⟩, ⟨by omega, by omega⟩, fun hlt => by omega, fun _ => ?_⟩
      refine vc_R_placeOf ?_
      have hk2 := hkd (6 * (r : Int) + c) (by omega) (by omega)
      rw [show ((r : Int) * 6 + c) = 6 * (r : Int) + c by omega, ek]
      refine ⟨by omega, by omega, ⟨by omega, by omega⟩, fun hne => ?_, fun heq => ?_⟩
      · refine ih (c + 1) m (by omega) ⟨?_, hi.2.1, hi.2.2⟩
        simp only [er_flat, er_pinc, if_neg hne, List.append_nil]
        exact hi.1
      · have hp4 : (er_pinc (m0 3) w r c).length = 4 := by unfold er_pinc; rw [if_pos heq]; rfl
        refine vc_R_tileAt ?_
        rw [show ((r : Int) * 7 + c) = 7 * (r : Int) + c by omega]
        refine sp_N_connect hn hi.1 (by simp only [List.length_append]; omega) (by omega) (by omega) hw (fun m1 h1 k1 n1 => ?_)
        refine vc_R_tileAt ?_
        rw [show ((r : Int) * 7 + ((c : Int) + 1)) = 7 * (r : Int) + ((c : Int) + 1) by omega]
        refine sp_N_connect hn h1 (by simp only [List.length_append, List.length_singleton]; omega) (by omega) (by omega) hw (fun m2 h2 k2 n2 => ?_)
        refine vc_R_tileAt ?_
        rw [show (((r : Int) + 1) * 7 + (c : Int)) = 7 * ((r : Int) + 1) + (c : Int) by omega]
        refine sp_N_connect hn h2 (by simp only [List.length_append, List.length_singleton]; omega) (by omega) (by omega) hw (fun m3 h3 k3 n3 => ?_)
        refine vc_R_tileAt ?_
        rw [show (((r : Int) + 1) * 7 + ((c : Int) + 1)) = 7 * ((r : Int) + 1) + ((c : Int) + 1) by omega]
        refine sp_N_connect hn h3 (by simp only [List.length_append, List.length_singleton]; omega) (by omega) (by omega) hw (fun m4 h4 k4 n4 => ?_)
        refine ih (c + 1) m4 (by omega) ⟨?_, (((hi.2.1.tr k1).tr k2).tr k3).tr k4, (((n4.trans n3).trans n2).trans n1).trans hi.2.2⟩
        have : L ++ (er_flat r (fun r => er_flat C (fun c => er_pinc (m0 3) w r c)) ++ er_flat (c + 1) (fun c => er_pinc (m0 3) w r c)) = L ++ (er_flat r (fun r => er_flat C (fun c => er_pinc (m0 3) w r c)) ++ er_flat c (fun c => er_pinc (m0 3) w r c)) ++ [(2 + (6 * (r : Int) + c), 38 + (7 * (r : Int) + c), w)] ++ [(2 + (6 * (r : Int) + c), 38 + (7 * (r : Int) + (c + 1)), w)] ++ [(2 + (6 * (r : Int) + c), 38 + (7 * ((r : Int) + 1) + c), w)] ++ [(2 + (6 * (r : Int) + c), 38 + (7 * ((r : Int) + 1) + (c + 1)), w)] := by
          simp only [er_flat, er_pinc, if_pos heq, er_pin4]
          simp
        rw [this]
        exact h4
  have outer : ∀ (d r : Nat) (m : er_M), r + d = R → er_it n m0 L (er_flat r (fun r => er_flat C (fun c => er_pinc (m0 3) w r c))) m → wp_N_connectPins_2 K n w (r : Int) m Q := by
    intro d
    induction d with
    | zero =>
      intro r m hr hi
      have hb' := hb.kp hn hi.2.1
      obtain ⟨b1, b2, b3, b4, b5, b6, b7, b8, b9⟩ := hb'
      refine vc_N_connectPins_2 hn ⟨⟨by omega, by omega⟩, ⟨by omega, by omega⟩, fun _ => ?_, fun hlt => by omega⟩
      refine hQ m ?_
      unfold er_pins
      rw [show R = r by omega]
      exact hi
    | succ d ih =>
      intro r m hr hi
      have hb' := hb.kp hn hi.2.1
      obtain ⟨b1, b2, b3, b4, b5, b6, b7, b8, b9⟩ := hb'
      refine vc_N_connectPins_2 hn ⟨⟨by omega, by omega⟩, ⟨by omega, by omega⟩, fun hlt => by omega, fun _ => ?_⟩
      refine inner r (by omega) (fun m1 h1 => ih (r + 1) m1 (by omega) h1) C 0 m (by omega) ?_
      simp only [er_flat, List.append_nil]
      exact hi
  refine vc_N_connectPins hn (outer R 0 m0 (by omega) ⟨?_, er_kp.rf, rfl⟩)
  simp only [er_flat, List.append_nil]
  exact h
end ERN2
