/-! the reference's network: how it is laid -/
/-- the reference's network holds the edges L -/
def er_MN (m : er_M) (L : List er_Ed) : Prop := m 83 13 = 2 * (L.length : Int) ∧ L.length ≤ 380 ∧ er_Bd L ∧ (∀ e : Int, 0 ≤ e → e < 2 * (L.length : Int) → m 88 e = er_fr L e ∧ m 89 e = er_to L e) ∧ er_Adj L (m 91) (m 92) (-9)
/-- where laying writes -/
def er_MB : Nat → Int → Prop := fun c k => (88 ≤ c ∧ c ≤ 92) ∨ (c = 83 ∧ k = 13)
/-- the reference's board -/
def er_SM (m : er_M) (R C : Nat) (ch tl : Int) : Prop := m 84 0 = (R : Int) ∧ m 84 1 = (C : Int) ∧ m 84 2 = ch ∧ m 84 3 = tl ∧ 1 ≤ R ∧ R ≤ 6 ∧ 1 ≤ C ∧ C ≤ 6 ∧ 0 ≤ ch ∧ ch ≤ 5 ∧ 0 ≤ tl ∧ tl ≤ 9
theorem er_SM.kp {m m' : er_M} {R C : Nat} {ch tl : Int} (h : er_SM m R C ch tl) (hk : er_kp er_MB m m') : er_SM m' R C ch tl := by
  obtain ⟨h1, h2, h3, h4, h5⟩ := h
  have e : ∀ k, m' 84 k = m 84 k := fun k => hk 84 k (by unfold er_MB; omega)
  exact ⟨by rw [e]; exact h1, by rw [e]; exact h2, by rw [e]; exact h3, by rw [e]; exact h4, h5⟩
theorem er_FO_add {L : List er_Ed} {t : er_Ed} {rm rm' : Int → Int} (h : er_FO L rm) (ht : 0 ≤ t.1 ∧ t.1 < 136 ∧ 0 ≤ t.2.1 ∧ t.2.1 < 136 ∧ 0 ≤ t.2.2) (h0 : ∀ k : Int, 0 ≤ k → k < 2 * (L.length : Int) → rm' k = rm k) (h1 : rm' (2 * (L.length : Int)) = t.2.2) (h2 : rm' (2 * (L.length : Int) + 1) = 0) : er_FO (L ++ [t]) rm' ∧ ∀ v, er_exc (L ++ [t]) rm' v = er_exc L rm v := by
  have hx : ∀ v, er_exc (L ++ [t]) rm' v = er_exc L rm v := by
    intro v
    unfold er_exc
    rw [List.length_append, List.length_singleton]
    simp only [er_sum]
    rw [er_g_app2, h2, Int.zero_mul, Int.add_zero]
    exact er_sum_congr (fun i hi => by rw [er_g_app1 hi, h0 _ (by omega) (by omega)])
  refine ⟨⟨fun i hi => ?_, fun v v0 v1 => by rw [hx]; exact h.2 v v0 v1⟩, hx⟩
  by_cases hl : i < L.length
  · rw [er_g_app1 hl, h0 _ (by omega) (by omega), h0 _ (by omega) (by omega)]
    exact h.1 i hl
  · rw [List.length_append, List.length_singleton] at hi
    rw [show i = L.length by omega, er_g_app2, h1, h2]
    exact ⟨ht.2.2.2.2, Int.le_refl _, by omega, ht.1, ht.2.1, ht.2.2.1, ht.2.2.2.1⟩
/-- the network and its flow of value x -/
def er_MF (m : er_M) (L : List er_Ed) (x : Int) : Prop := er_MN m L ∧ er_FO L (m 90) ∧ er_exc L (m 90) 0 = x
section ERM
variable {K : er_K} {m : er_M}
theorem sp_M_lead {a b cap e : Int} {Q : er_M → Prop} (he : m 83 13 = e) (h0 : 0 ≤ e) (h1 : e < 760) (ha : 0 ≤ a ∧ a < 136) (hQ : ∀ m', (∀ k, m' 88 k = if k = e then a else m 88 k) → (∀ k, m' 89 k = if k = e then b else m 89 k) → (∀ k, m' 90 k = if k = e then cap else m 90 k) → (∀ k, m' 91 k = if k = a then e else m 91 k) → (∀ k, m' 92 k = if k = e then m 91 a else m 92 k) → m' 83 13 = e + 1 → er_kp er_MB m m' → Q m') : er_SV K mi_M_lead [.inr 83, .inl a, .inl b, .inl cap] m Q := by
  refine vc_M_lead ⟨by omega, by omega, fun m3 e3 => ?_⟩
  have f3 : m3 83 13 = e := by rw [e3, er_st_c (by decide)]; exact he
  refine ⟨by omega, by omega, fun m6 e6 => ?_⟩
  have f6 : m6 83 13 = e := by rw [e6, er_st_c (by decide)]; exact f3
  refine ⟨by omega, by omega, fun m9 e9 => ?_⟩
  have f9 : m9 83 13 = e := by rw [e9, er_st_c (by decide)]; exact f6
  refine ⟨ha.1, ha.2, by omega, by omega, fun m14 e14 m15 e15 m16 e16 => ?_⟩
  have f14 : m14 83 13 = e := by rw [e14, er_st_c (by decide)]; exact f9
  have f15 : m15 83 13 = e := by rw [e15, er_st_c (by decide)]; exact f14
  rw [f15] at e16
  rw [f14] at e15
  rw [f9] at e14
  rw [f6] at e9
  rw [f3] at e6
  rw [he] at e3
  clear f3 f6 f9 f14 f15
  subst e3 e6 e9 e14 e15 e16
  refine hQ _ (fun k => by simp [er_st]) (fun k => by simp [er_st]) (fun k => by simp [er_st]) (fun k => by simp [er_st]) (fun k => by simp [er_st]) (er_st_s _ _ _ _) ?_
  repeat (first | exact er_kp.rf | refine er_kp.tr ?_ (er_kp.st (by unfold er_MB; omega)))
theorem sp_M_join {L : List er_Ed} {x a b cap : Int} {Q : er_M → Prop} (h : er_MF m L x) (hl : L.length < 380) (ha : 0 ≤ a ∧ a < 136) (hb : 0 ≤ b ∧ b < 136) (hc : 0 ≤ cap ∧ cap ≤ 1000000) (hQ : ∀ m', er_MF m' (L ++ [(a, b, cap)]) x → er_kp er_MB m m' → (∀ k : Int, 0 ≤ k → k < 2 * (L.length : Int) → m' 88 k = m 88 k ∧ m' 90 k = m 90 k ∧ m' 92 k = m 92 k) → Q m') : er_SV K mi_M_join [.inr 83, .inl a, .inl b, .inl cap] m Q := by
  obtain ⟨⟨h1, h2, h3, h4, h5⟩, h6, h7⟩ := h
  refine vc_M_join (sp_M_lead h1 (by omega) (by omega) ha (fun m1 p1 p2 p3 p4 p5 p6 p7 => sp_M_lead p6 (by omega) (by omega) hb (fun m2 q1 q2 q3 q4 q5 q6 q7 => ?_)))
  obtain ⟨f1, f2, f3, f4⟩ := er_fr_new (L := L) (t := (a, b, cap))
  have hlen : (2 * ((L ++ [(a, b, cap)]).length : Int)) = 2 * (L.length : Int) + 2 := by simp; omega
  have r0 : ∀ k : Int, 0 ≤ k → k < 2 * (L.length : Int) → m2 90 k = m 90 k := fun k k0 k1 => by rw [q3, if_neg (by omega), p3, if_neg (by omega)]
  have hF := er_FO_add (t := (a, b, cap)) h6 ⟨ha.1, ha.2, hb.1, hb.2, hc.1⟩ r0 (by rw [q3, if_neg (by omega), p3, if_pos rfl]) (by rw [q3, if_pos rfl])
  refine hQ m2 ⟨⟨by rw [q6, hlen]; omega, by simp; omega, er_Bd_add h3 ⟨ha.1, ha.2, hb.1, hb.2, hc.1, hc.2⟩, fun e e0 e1 => ?_, ?_⟩, hF.1, by rw [hF.2]; exact h7⟩ (p7.tr q7) (fun k k0 k1 => ⟨by rw [q1, if_neg (by omega), p1, if_neg (by omega)], r0 k k0 k1, by rw [q5, if_neg (by omega), p5, if_neg (by omega)]⟩)
  · rw [hlen] at e1
    rw [q1, q2, p1, p2]
    by_cases he : e < 2 * (L.length : Int)
    · rw [if_neg (by omega), if_neg (by omega), if_neg (by omega), if_neg (by omega), er_fr_app e0 he, er_to_app e0 he]
      exact h4 e e0 he
    · rcases (by omega : e = 2 * (L.length : Int) ∨ e = 2 * (L.length : Int) + 1) with rfl | rfl
      · rw [if_neg (by omega), if_pos rfl, if_neg (by omega), if_pos rfl, f1, f2]
        exact ⟨rfl, rfl⟩
      · rw [if_pos rfl, if_pos rfl, f3, f4]
        exact ⟨rfl, rfl⟩
  · refine er_Adj_add h5 ha.1 ha.2 hb.1 hb.2 (fun v _ _ => by rw [q4, p4]) ?_ ?_ (fun e e0 e1 => ?_)
    · rw [q5, if_neg (by omega), p5, if_pos rfl]
    · rw [q5, if_pos rfl, p4]
    · rw [q5, if_neg (by omega), p5, if_neg (by omega)]
/-- laid so far, from a memory m0 -/
def er_mt (m0 : er_M) (L : List er_Ed) (m : er_M) : Prop := er_MF m L 0 ∧ er_kp er_MB m0 m
theorem sp_M_joinTiles {L : List er_Ed} {R C : Nat} {ch tl p q a b u v : Int} {Q : er_M → Prop} (hb : er_SM m R C ch tl) (h : er_MF m L 0) (hl : L.length + 2 ≤ 380) (hp : 0 ≤ p ∧ p < 36) (hq : 0 ≤ q ∧ q < 36) (hu : m 93 p = u ∧ (u = 0 ∨ u = 1)) (hv : m 93 q = v ∧ (v = 0 ∨ v = 1)) (ha : 0 ≤ a ∧ a < 49) (hb2 : 0 ≤ b ∧ b < 49) (hQ : ∀ m', er_MF m' (L ++ er_both a b (ch + u + v)) 0 → er_kp er_MB m m' → Q m') : er_SV K mi_M_joinTiles [.inr 83, .inl p, .inl q, .inl a, .inl b] m Q := by
  obtain ⟨b1, b2, b3, b4, b5, b6, b7, b8, b9, b10, b11, b12⟩ := hb
  have two : ∀ cap : Int, cap = ch + u + v → er_SV K mi_M_join [.inr 83, .inl (87 + a), .inl (38 + b), .inl cap] m (fun m9 => er_SV K mi_M_join [.inr 83, .inl (87 + b), .inl (38 + a), .inl cap] m9 (fun m10 => Q m10)) := by
    intro cap hcap
    refine sp_M_join h (by omega) (by omega) (by omega) (by omega) (fun m1 h1 k1 _ => ?_)
    refine sp_M_join h1 (by simp; omega) (by omega) (by omega) (by omega) (fun m2 h2 k2 _ => ?_)
    refine hQ m2 ?_ (k1.tr k2)
    rw [List.append_assoc] at h2
    rw [← hcap]
    exact h2
  rw [← hu.1] at two
  rw [← hv.1] at two
  have hu2 := hu.2
  have hv2 := hv.2
  rw [← hu.1] at hu2
  rw [← hv.1] at hv2
  refine vc_M_joinTiles ⟨hp.1, hp.2, ⟨by omega, by omega⟩, fun z1 => ⟨hq.1, hq.2, ⟨by omega, by omega⟩, fun z2 => ?_, fun z2 => ?_⟩, fun z1 => ⟨hq.1, hq.2, ⟨by omega, by omega⟩, fun z2 => ?_, fun z2 => ?_⟩⟩ <;> exact two _ (by omega)
theorem sp_M_isRim {R C r c : Nat} {ch tl : Int} {Q : Int → er_M → Prop} (hb : er_SM m R C ch tl) (hr : r ≤ R) (hc : c ≤ C) (hQ : ∀ x, ((r = 0 ∨ r = R ∨ c = 0 ∨ c = C) ∧ x = 1 ∨ ¬ (r = 0 ∨ r = R ∨ c = 0 ∨ c = C) ∧ x = 0) → Q x m) : er_SI K mi_M_isRim [.inr 83, .inl (r : Int), .inl (c : Int)] m Q := by
  obtain ⟨b1, b2, b3, b4, b5, b6, b7, b8, b9, b10, b11, b12⟩ := hb
  have y : (r = 0 ∨ r = R ∨ c = 0 ∨ c = C) → wp_M_isRim_28 K m Q := fun z => vc_M_isRim_28 (hQ 1 (Or.inl ⟨z, rfl⟩))
  exact vc_M_isRim ⟨⟨by omega, by omega⟩, fun z => y (by omega), fun z1 => ⟨⟨by omega, by omega⟩, fun z => y (by omega), fun z2 => ⟨⟨by omega, by omega⟩, fun z => y (by omega), fun z3 => ⟨⟨by omega, by omega⟩, fun z => hQ 0 (Or.inr ⟨by omega, rfl⟩), fun z => y (by omega)⟩⟩⟩⟩
theorem sp_M_layPin {L : List er_Ed} {x w : Int} {p : Nat} {Q : er_M → Prop} (h : er_MF m L x) (hl : L.length + 5 ≤ 380) (hp : p < 36) (hw : 0 ≤ w ∧ w ≤ 1000000) (hQ : ∀ m', er_MF m' (L ++ er_mp w [p]) x → er_kp er_MB m m' → (∀ k : Int, 0 ≤ k → k < 2 * (L.length : Int) → m' 88 k = m 88 k ∧ m' 90 k = m 90 k ∧ m' 92 k = m 92 k) → Q m') : er_SV K mi_M_layPin [.inr 83, .inl (p : Int), .inl w] m Q := by
  have ep : 6 * ((p / 6 : Nat) : Int) + ((p % 6 : Nat) : Int) = p := by omega
  refine vc_M_layPin (sp_M_join h (by omega) (by omega) (by omega) hw (fun m1 h1 k1 s1 => ?_))
  refine vc_M_layPin_11 ⟨⟨by omega, by omega⟩, fun z => by omega, fun _ => ⟨by omega, by omega, by omega, by omega, vc_M_tile ?_⟩⟩
  rw [show (7 * ((p : Int) / 6 + 0 / 2) + ((p : Int) % 6 + 0 % 2)) = 7 * ((p / 6 : Nat) : Int) + ((p % 6 : Nat) : Int) by omega]
  refine sp_M_join h1 (by simp; omega) (by omega) (by omega) hw (fun m2 h2 k2 s2 => ?_)
  refine vc_M_layPin_11 ⟨⟨by omega, by omega⟩, fun z => by omega, fun _ => ⟨by omega, by omega, by omega, by omega, vc_M_tile ?_⟩⟩
  rw [show (7 * ((p : Int) / 6 + (0 + 1) / 2) + ((p : Int) % 6 + (0 + 1) % 2)) = 7 * ((p / 6 : Nat) : Int) + (((p % 6 : Nat) : Int) + 1) by omega]
  refine sp_M_join h2 (by simp; omega) (by omega) (by omega) hw (fun m3 h3 k3 s3 => ?_)
  refine vc_M_layPin_11 ⟨⟨by omega, by omega⟩, fun z => by omega, fun _ => ⟨by omega, by omega, by omega, by omega, vc_M_tile ?_⟩⟩
  rw [show (7 * ((p : Int) / 6 + (0 + 1 + 1) / 2) + ((p : Int) % 6 + (0 + 1 + 1) % 2)) = 7 * (((p / 6 : Nat) : Int) + 1) + ((p % 6 : Nat) : Int) by omega]
  refine sp_M_join h3 (by simp; omega) (by omega) (by omega) hw (fun m4 h4 k4 s4 => ?_)
  refine vc_M_layPin_11 ⟨⟨by omega, by omega⟩, fun z => by omega, fun _ => ⟨by omega, by omega, by omega, by omega, vc_M_tile ?_⟩⟩
  rw [show (7 * ((p : Int) / 6 + (0 + 1 + 1 + 1) / 2) + ((p : Int) % 6 + (0 + 1 + 1 + 1) % 2)) = 7 * (((p / 6 : Nat) : Int) + 1) + (((p % 6 : Nat) : Int) + 1) by omega]
  refine sp_M_join h4 (by simp; omega) (by omega) (by omega) hw (fun m5 h5 k5 s5 => ?_)
  refine vc_M_layPin_11 ⟨⟨by omega, by omega⟩, fun z => ?_, fun z => by omega⟩
  refine hQ m5 ?_ ((((k1.tr k2).tr k3).tr k4).tr k5) (fun k k0 k1' => ?_)
  · simp only [er_mp, er_pin4, ep, List.append_assoc, List.cons_append, List.nil_append, List.append_nil] at h5 ⊢
    exact h5
  · have a1 := s1 k k0 k1'
    have a2 := s2 k k0 (by simp; omega)
    have a3 := s3 k k0 (by simp; omega)
    have a4 := s4 k k0 (by simp; omega)
    have a5 := s5 k k0 (by simp; omega)
    exact ⟨by rw [a5.1, a4.1, a3.1, a2.1, a1.1], by rw [a5.2.1, a4.2.1, a3.2.1, a2.2.1, a1.2.1], by rw [a5.2.2, a4.2.2, a3.2.2, a2.2.2, a1.2.2]⟩
theorem sp_M_lay {R C : Nat} {ch tl : Int} {Q : er_M → Prop} (hb : er_SM m R C ch tl) (hop : ∀ j, 0 ≤ j → j < 36 → m 93 j = 0 ∨ m 93 j = 1) (hQ : ∀ m', er_mt m (er_tiles R C tl 100000 ++ er_chans R C ch (m 93)) m' → Q m') : er_SV K mi_M_lay [.inr 83] m Q := by
  have ltile := er_tiles_len hb.2.2.2.2.2.1 hb.2.2.2.2.2.2.2.1 tl 100000
  have lchan := er_chans_len hb.2.2.2.2.2.1 hb.2.2.2.2.2.2.2.1 ch (m 93)
  -- the channels
  have inner2 : ∀ r : Nat, r < R → (∀ m1, er_mt m (er_tiles R C tl 100000 ++ er_flat (r + 1) (fun r => er_flat C (fun c => er_chan R C ch (m 93) r c))) m1 → wp_M_lay_116 K ((r + 1 : Nat) : Int) m1 Q) → ∀ (d c : Nat) (m1 : er_M), c + d = C → er_mt m (er_tiles R C tl 100000 ++ (er_flat r (fun r => er_flat C (fun c => er_chan R C ch (m 93) r c)) ++ er_flat c (fun c => er_chan R C ch (m 93) r c))) m1 → wp_M_lay_128 K (r : Int) (c : Int) m1 Q := by
    intro r hr hnext d
    induction d with
    | zero =>
      intro c m1 hc hi
      have hb' := hb.kp hi.2
      obtain ⟨b1, b2, b3, b4, b5, b6, b7, b8, b9⟩ := hb'
      refine vc_M_lay_128 ⟨⟨by omega, by omega⟩, ⟨by omega, by omega⟩, fun _ => ?_, fun hlt => by omega⟩
      refine hnext m1 ?_
      rw [show C = c by omega] at hi ⊢
      exact hi
    | succ d ih =>
      intro c m1 hc hi
      have hb' := hb.kp hi.2
      have hb1 := hb'
      obtain ⟨b1, b2, b3, b4, b5, b6, b7, b8, b9⟩ := hb'
      have hpre := Nat.le_trans (er_flat_pre (g := fun r c => er_chan R C ch (m 93) r c) hr (show c < C by omega)) lchan
      have eo : ∀ j, m1 93 j = m 93 j := fun j => hi.2 93 j (by unfold er_MB; omega)
      have op0 := hop (6 * (r : Int) + c) (by omega) (by omega)
      have tail : ∀ m4, er_mt m (er_tiles R C tl 100000 ++ ((er_flat r (fun r => er_flat C (fun c => er_chan R C ch (m 93) r c)) ++ er_flat c (fun c => er_chan R C ch (m 93) r c)) ++ (if c + 1 < C then er_both (7 * (r : Int) + (c + 1)) (7 * ((r : Int) + 1) + (c + 1)) (ch + m 93 (6 * (r : Int) + c) + m 93 (6 * (r : Int) + (c + 1))) else []))) m4 → wp_M_lay_181 K (r : Int) (c : Int) (6 * (r : Int) + c) m4 Q := by
        intro m4 h4
        have hb4' := hb.kp h4.2
        have hb4 := hb4'
        obtain ⟨d1, d2, d3, d4, d5, d6, d7, d8, d9⟩ := hb4'
        have eo4 : ∀ j, m4 93 j = m 93 j := fun j => h4.2 93 j (by unfold er_MB; omega)
        refine vc_M_lay_181 ⟨⟨by omega, by omega⟩, ⟨by omega, by omega⟩, fun hge => ?_, fun hlt => ?_⟩
        · refine ih (c + 1) m4 (by omega) ?_
          have : er_flat r (fun r => er_flat C (fun c => er_chan R C ch (m 93) r c)) ++ er_flat (c + 1) (fun c => er_chan R C ch (m 93) r c) = (er_flat r (fun r => er_flat C (fun c => er_chan R C ch (m 93) r c)) ++ er_flat c (fun c => er_chan R C ch (m 93) r c)) ++ (if c + 1 < C then er_both (7 * (r : Int) + (c + 1)) (7 * ((r : Int) + 1) + (c + 1)) (ch + m 93 (6 * (r : Int) + c) + m 93 (6 * (r : Int) + (c + 1))) else []) := by
            rw [show er_flat (c + 1) (fun c => er_chan R C ch (m 93) r c) = er_flat c (fun c => er_chan R C ch (m 93) r c) ++ er_chan R C ch (m 93) r c from rfl]
            unfold er_chan
            rw [if_neg (show ¬ r + 1 < R by omega)]
            simp
          rw [this]
          exact h4
        · have op1 := hop (6 * ((r : Int) + 1) + c) (by omega) (by omega)
          refine vc_M_tile (vc_M_tile ?_)
          refine sp_M_joinTiles (u := m 93 (6 * (r : Int) + c)) (v := m 93 (6 * ((r : Int) + 1) + c)) hb4 h4.1 ?_ (by omega) (by omega) ⟨eo4 _, op0⟩ ⟨by rw [eo4]; congr 1; omega, op1⟩ (by omega) (by omega) (fun m5 h5 k5 => ?_)
          · have h1 : (er_chan R C ch (m 93) r c).length = (if c + 1 < C then er_both (7 * (r : Int) + (c + 1)) (7 * ((r : Int) + 1) + (c + 1)) (ch + m 93 (6 * (r : Int) + c) + m 93 (6 * (r : Int) + (c + 1))) else []).length + 2 := by
              unfold er_chan
              rw [List.length_append, if_pos (show r + 1 < R by omega)]
              rfl
            simp only [List.length_append]
            omega
          · refine ih (c + 1) m5 (by omega) ⟨?_, h4.2.tr k5⟩
            have : er_tiles R C tl 100000 ++ (er_flat r (fun r => er_flat C (fun c => er_chan R C ch (m 93) r c)) ++ er_flat (c + 1) (fun c => er_chan R C ch (m 93) r c)) = er_tiles R C tl 100000 ++ ((er_flat r (fun r => er_flat C (fun c => er_chan R C ch (m 93) r c)) ++ er_flat c (fun c => er_chan R C ch (m 93) r c)) ++ (if c + 1 < C then er_both (7 * (r : Int) + (c + 1)) (7 * ((r : Int) + 1) + (c + 1)) (ch + m 93 (6 * (r : Int) + c) + m 93 (6 * (r : Int) + (c + 1))) else [])) ++ er_both (7 * ((r : Int) + 1) + c) (7 * ((r : Int) + 1) + (c + 1)) (ch + m 93 (6 * (r : Int) + c) + m 93 (6 * ((r : Int) + 1) + c)) := by
              rw [show er_flat (c + 1) (fun c => er_chan R C ch (m 93) r c) = er_flat c (fun c => er_chan R C ch (m 93) r c) ++ er_chan R C ch (m 93) r c from rfl]
              unfold er_chan
              rw [if_pos (show r + 1 < R by omega)]
              simp
            rw [this]
            exact h5
      refine vc_M_lay_128 ⟨⟨by omega, by omega⟩, ⟨by omega, by omega⟩, fun hlt => by omega, fun _ => ⟨⟨by omega, by omega⟩, fun hge => ?_, fun hlt => ?_⟩⟩
      · refine tail m1 ?_
        rw [if_neg (show ¬ c + 1 < C by omega), List.append_nil]
        exact hi
      · have op1 := hop (6 * (r : Int) + (c + 1)) (by omega) (by omega)
        refine vc_M_tile (vc_M_tile ?_)
        refine sp_M_joinTiles (u := m 93 (6 * (r : Int) + c)) (v := m 93 (6 * (r : Int) + (c + 1))) hb1 hi.1 ?_ (by omega) (by omega) ⟨eo _, op0⟩ ⟨by rw [eo]; congr 1, op1⟩ (by omega) (by omega) (fun m5 h5 k5 => ?_)
        · have h1 : 2 ≤ (er_chan R C ch (m 93) r c).length := by
            unfold er_chan
            rw [List.length_append, if_pos (show c + 1 < C by omega)]
            simp [er_both]
          simp only [List.length_append]
          omega
        · refine tail m5 ⟨?_, hi.2.tr k5⟩
          rw [if_pos (show c + 1 < C by omega), ← List.append_assoc]
          exact h5
  have outer2 : ∀ (d r : Nat) (m1 : er_M), r + d = R → er_mt m (er_tiles R C tl 100000 ++ er_flat r (fun r => er_flat C (fun c => er_chan R C ch (m 93) r c))) m1 → wp_M_lay_116 K (r : Int) m1 Q := by
    intro d
    induction d with
    | zero =>
      intro r m1 hr hi
      have hb' := hb.kp hi.2
      obtain ⟨b1, b2, b3, b4, b5, b6, b7, b8, b9⟩ := hb'
      refine vc_M_lay_116 ⟨⟨by omega, by omega⟩, ⟨by omega, by omega⟩, fun _ => ?_, fun hlt => by omega⟩
      refine hQ m1 ?_
      unfold er_chans
      rw [show R = r by omega] at hi ⊢
      exact hi
    | succ d ih =>
      intro r m1 hr hi
      have hb' := hb.kp hi.2
      obtain ⟨b1, b2, b3, b4, b5, b6, b7, b8, b9⟩ := hb'
      refine vc_M_lay_116 ⟨⟨by omega, by omega⟩, ⟨by omega, by omega⟩, fun hlt => by omega, fun _ => ?_⟩
      refine inner2 r (by omega) (fun m2 h2 => ih (r + 1) m2 (by omega) h2) C 0 m1 (by omega) ?_
      simp only [er_flat, List.append_nil]
      exact hi
  -- the tiles
  have inner1 : ∀ r : Nat, r ≤ R → (∀ m1, er_mt m (er_flat (r + 1) (fun r => er_flat (C + 1) (fun c => er_tile R C tl 100000 r c))) m1 → wp_M_lay_30 K ((r + 1 : Nat) : Int) m1 Q) → ∀ (d c : Nat) (m1 : er_M), c + d = C + 1 → er_mt m (er_flat r (fun r => er_flat (C + 1) (fun c => er_tile R C tl 100000 r c)) ++ er_flat c (fun c => er_tile R C tl 100000 r c)) m1 → wp_M_lay_42 K (r : Int) (c : Int) m1 Q := by
    intro r hr hnext d
    induction d with
    | zero =>
      intro c m1 hc hi
      have hb' := hb.kp hi.2
      obtain ⟨b1, b2, b3, b4, b5, b6, b7, b8, b9⟩ := hb'
      refine vc_M_lay_42 ⟨⟨by omega, by omega⟩, ⟨by omega, by omega⟩, fun _ => ?_, fun hlt => by omega⟩
      refine hnext m1 ?_
      rw [show C + 1 = c by omega] at hi ⊢
      exact hi
    | succ d ih =>
      intro c m1 hc hi
      have hb' := hb.kp hi.2
      obtain ⟨b1, b2, b3, b4, b5, b6, b7, b8, b9⟩ := hb'
      have hpre := Nat.le_trans (er_flat_pre (g := fun r c => er_tile R C tl 100000 r c) (show r < R + 1 by omega) (show c < C + 1 by omega)) ltile
      have ht1 : 1 ≤ (er_tile R C tl 100000 r c).length := by unfold er_tile; simp
      have ht2 : (r = 0 ∨ r = R ∨ c = 0 ∨ c = C) → (er_tile R C tl 100000 r c).length = 2 := fun z => by unfold er_tile; rw [if_pos z]; rfl
      refine vc_M_lay_42 ⟨⟨by omega, by omega⟩, ⟨by omega, by omega⟩, fun hlt => by omega, fun _ => vc_M_tile (vc_M_tile ?_)⟩
      rw [b4]
      refine sp_M_join hi.1 (by simp only [List.length_append]; omega) (by omega) (by omega) (by omega) (fun m6 h6 k6 _ => ?_)
      have hb6 := hb.kp (hi.2.tr k6)
      refine sp_M_isRim hb6 hr (by omega) (fun x hx => ?_)
      refine ⟨⟨by omega, by omega⟩, fun z => ?_, fun z => ?_⟩
      · have hrim : ¬ (r = 0 ∨ r = R ∨ c = 0 ∨ c = C) := by rcases hx with h | h; omega; exact h.1
        refine ih (c + 1) m6 (by omega) ⟨?_, hi.2.tr k6⟩
        have : (er_flat r (fun r => er_flat (C + 1) (fun c => er_tile R C tl 100000 r c)) ++ er_flat (c + 1) (fun c => er_tile R C tl 100000 r c)) = (er_flat r (fun r => er_flat (C + 1) (fun c => er_tile R C tl 100000 r c)) ++ er_flat c (fun c => er_tile R C tl 100000 r c)) ++ [(38 + (7 * (r : Int) + c), 87 + (7 * (r : Int) + c), tl)] := by
          simp only [er_flat, er_tile, if_neg hrim]
          simp
        rw [this]
        exact h6
      · have hrim : r = 0 ∨ r = R ∨ c = 0 ∨ c = C := by rcases hx with h | h; exact h.1; omega
        refine vc_M_tile ?_
        refine sp_M_join h6 (by have := ht2 hrim; simp only [List.length_append, List.length_singleton]; omega) (by omega) (by omega) (by omega) (fun m7 h7 k7 _ => ?_)
        refine ih (c + 1) m7 (by omega) ⟨?_, (hi.2.tr k6).tr k7⟩
        have : (er_flat r (fun r => er_flat (C + 1) (fun c => er_tile R C tl 100000 r c)) ++ er_flat (c + 1) (fun c => er_tile R C tl 100000 r c)) = (er_flat r (fun r => er_flat (C + 1) (fun c => er_tile R C tl 100000 r c)) ++ er_flat c (fun c => er_tile R C tl 100000 r c)) ++ [(38 + (7 * (r : Int) + c), 87 + (7 * (r : Int) + c), tl)] ++ [(87 + (7 * (r : Int) + c), 1, 100000)] := by
          simp only [er_flat, er_tile, if_pos hrim]
          simp
        rw [this]
        exact h7
  have outer1 : ∀ (d r : Nat) (m1 : er_M), r + d = R + 1 → er_mt m (er_flat r (fun r => er_flat (C + 1) (fun c => er_tile R C tl 100000 r c))) m1 → wp_M_lay_30 K (r : Int) m1 Q := by
    intro d
    induction d with
    | zero =>
      intro r m1 hr hi
      have hb' := hb.kp hi.2
      obtain ⟨b1, b2, b3, b4, b5, b6, b7, b8, b9⟩ := hb'
      refine vc_M_lay_30 ⟨⟨by omega, by omega⟩, ⟨by omega, by omega⟩, fun _ => ?_, fun hlt => by omega⟩
      refine outer2 R 0 m1 (by omega) ?_
      rw [← show R + 1 = r by omega] at hi
      simp only [er_flat, List.append_nil] at hi ⊢
      exact hi
    | succ d ih =>
      intro r m1 hr hi
      have hb' := hb.kp hi.2
      obtain ⟨b1, b2, b3, b4, b5, b6, b7, b8, b9⟩ := hb'
      refine vc_M_lay_30 ⟨⟨by omega, by omega⟩, ⟨by omega, by omega⟩, fun hlt => by omega, fun _ => ?_⟩
      refine inner1 r (by omega) (fun m2 h2 => ih (r + 1) m2 (by omega) h2) (C + 1) 0 m1 (by omega) ?_
      simp only [er_flat, List.append_nil]
      exact hi
  have loop : ∀ (d p : Nat) (m1 : er_M), p + d = 136 → m1 83 13 = 0 → er_kp er_MB m m1 → (∀ v : Int, 0 ≤ v → v < p → m1 91 v = -9) → wp_M_lay_7 K (p : Int) m1 Q := by
    intro d
    induction d with
    | zero =>
      intro p m1 hp h13 hk hf
      refine vc_M_lay_7 ⟨⟨by omega, by omega⟩, fun _ => ?_, fun hlt => by omega⟩
      refine outer1 (R + 1) 0 m1 (by omega) ⟨⟨⟨?_, by simp [er_flat], fun i hi => by simp [er_flat] at hi, fun e e0 e1 => by simp [er_flat] at e1; omega, fun v v0 v1 => Or.inl ⟨hf v v0 (by omega), fun k k0 k1 => by simp [er_flat] at k1; omega⟩, fun e e0 e1 => by simp [er_flat] at e1; omega⟩, ⟨fun i hi => by simp [er_flat] at hi, fun v _ _ => rfl⟩, rfl⟩, hk⟩
      simp [er_flat, h13]
    | succ d ih =>
      intro p m1 hp h13 hk hf
      refine vc_M_lay_7 ⟨⟨by omega, by omega⟩, fun hlt => by omega, fun _ => ⟨by omega, by omega, fun m5 e5 => ?_⟩⟩
      refine ih (p + 1) m5 (by omega) (by rw [e5, er_st_c (by decide)]; exact h13) (hk.tr (by rw [e5]; exact er_kp.st (by unfold er_MB; omega))) (fun v v0 v1 => ?_)
      rw [e5]
      by_cases hv : v = (p : Int)
      · rw [hv, er_st_s]
      · rw [er_st_k hv]
        exact hf v v0 (by omega)
  exact vc_M_lay (fun m1 e1 => loop 136 0 m1 (by omega) (by rw [e1, er_st_s]) (by rw [e1]; exact er_kp.st (by unfold er_MB; omega)) (fun v v0 v1 => by omega))
end ERM
