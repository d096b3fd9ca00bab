/-! the reference's layering: a pin or pair that is tried -/
def er_ML (b : er_Bo) (op : Int → Int) (P : List Nat) : List er_Ed := er_LM (er_bR b) (er_bC b) (er_bh b) (er_bt b) op 1 P
theorem er_mp_app (w : Int) (P Q : List Nat) : er_mp w (P ++ Q) = er_mp w P ++ er_mp w Q := by
  induction P with
  | nil => rfl
  | cons p P ih => simp only [List.cons_append, er_mp, ih, List.append_assoc]
theorem er_mp_len (w : Int) (P : List Nat) : (er_mp w P).length = 5 * P.length := by
  induction P with
  | nil => rfl
  | cons p P ih => simp only [er_mp, List.length_append, List.length_cons, ih, er_pin4, List.length_nil]; omega
theorem er_ML_app (b : er_Bo) (op : Int → Int) (P Q : List Nat) : er_ML b op (P ++ Q) = er_ML b op P ++ er_mp 1 Q := by
  unfold er_ML er_LM
  rw [er_mp_app, List.append_assoc, List.append_assoc]
theorem er_ML_len {b : er_Bo} (op : Int → Int) (P : List Nat) (hv : er_BV b) : (er_ML b op P).length ≤ 193 + 5 * P.length := by
  unfold er_ML er_LM
  rw [List.length_append, List.length_append, er_mp_len]
  have h1 := er_tiles_len hv.2.1 hv.2.2.2.1 (er_bt b) 100000
  have h2 := er_chans_len hv.2.1 hv.2.2.2.1 (er_bh b) op
  omega
theorem er_card36 {P : List Nat} (hP : ∀ p ∈ P, p < 36) (hn : P.Nodup) : P.length ≤ 36 := by
  have h := er_sum_card hP hn
  have h1 : er_sum 36 (fun p => er_ic (p ∈ P)) ≤ er_sum 36 (fun _ => 1) := er_sum_le (fun i _ => by
    rcases er_ic_01 (i ∈ P) with z | z <;> rw [z] <;> decide)
  have h2 : er_sum 36 (fun _ => 1) = 36 := by decide
  omega
section ERcut
variable {b : er_Bo} {op : Int → Int} {P : List Nat}
theorem er_ML_parts (h : er_BO (er_bR b) (er_bC b) (er_bh b) (er_bt b) (er_bk b) op) (hP : ∀ p ∈ P, p < 36 ∧ er_bk b (p : Int) = 1) (hn : P.Nodup) (S : Int → Prop) : er_cut S (er_NL b op P) = er_sum 36 (fun p => er_ic (p ∈ P) * er_sp S p) + er_sum 36 (fun p => er_ic (er_bk b (p : Int) = 1) * er_fp S p) + (er_cut S (er_tiles (er_bR b) (er_bC b) (er_bt b) 0) + 1000000 * er_cut S (er_tiles (er_bR b) (er_bC b) 0 1) + er_cut S (er_chans (er_bR b) (er_bC b) (er_bh b) op))
      ∧ er_cut S (er_ML b op P) = er_cut S (er_tiles (er_bR b) (er_bC b) (er_bt b) 0) + 100000 * er_cut S (er_tiles (er_bR b) (er_bC b) 0 1) + (er_cut S (er_chans (er_bR b) (er_bC b) (er_bh b) op) + (er_sum 36 (fun p => er_ic (p ∈ P) * er_sp S p) + er_sum 36 (fun p => er_ic (p ∈ P) * er_fp S p))) := by
  constructor
  · unfold er_NL
    rw [er_LC_cut h]
    omega
  · unfold er_ML
    rw [er_LM_cut, ← er_sum_list (fun p hp => (hP p hp).1) hn, ← er_sum_add, er_sum_congr (n := 36) (f := fun p => er_ic (p ∈ P) * er_sp S p + er_ic (p ∈ P) * er_fp S p) (g := fun p => er_ic (p ∈ P) * (er_sp S p + er_fp S p)) (fun p _ => (Int.mul_add _ _ _).symm)]
    omega
theorem er_ML_nn (h : er_BO (er_bR b) (er_bC b) (er_bh b) (er_bt b) (er_bk b) op) (hP : ∀ p ∈ P, p < 36 ∧ er_bk b (p : Int) = 1) (S : Int → Prop) : 0 ≤ er_sum 36 (fun p => er_ic (p ∈ P) * er_sp S p) ∧ 0 ≤ er_sum 36 (fun p => er_ic (p ∈ P) * er_fp S p) ∧ er_sum 36 (fun p => er_ic (p ∈ P) * er_fp S p) ≤ er_sum 36 (fun p => er_ic (er_bk b (p : Int) = 1) * er_fp S p) ∧ 0 ≤ er_cut S (er_tiles (er_bR b) (er_bC b) (er_bt b) 0) ∧ 0 ≤ er_cut S (er_tiles (er_bR b) (er_bC b) 0 1) ∧ 0 ≤ er_cut S (er_chans (er_bR b) (er_bC b) (er_bh b) op) := by
  refine ⟨er_sum_nonneg (fun p _ => Int.mul_nonneg (er_ic_nn _) (er_sp_nn S p)), er_sum_nonneg (fun p _ => Int.mul_nonneg (er_ic_nn _) (er_fp_nn S p)), er_sum_le (fun p _ => ?_), er_tiles_nn h.2.2.2.1 (by decide), er_tiles_nn (by decide) (by decide), er_chans_nn h.1 h.2.1 h.2.2.1 h.2.2.2.2.2.2⟩
  refine Int.mul_le_mul_of_nonneg_right ?_ (er_fp_nn S p)
  by_cases hp : p ∈ P
  · rw [er_ic_t hp, er_ic_t (hP p hp).2]
    exact Int.le_refl _
  · rw [er_ic_f hp]
    exact er_ic_nn _
/-- pins that aren't laid are never near -/
theorem er_ML_out {rm : Int → Int} (h : er_BO (er_bR b) (er_bC b) (er_bh b) (er_bt b) (er_bk b) op) {p : Nat} (hp : p < 36) (hn : p ∉ P) : ¬ er_near (er_ML b op P) rm (2 + (p : Int)) := by
  unfold er_ML
  intro hnear
  have := hnear (fun v => ∀ q : Nat, q < 36 → v = 2 + (q : Int) → q ∈ P) (fun q _ hq => by omega) (fun i hi => by
    have hm := er_LM_mem h.1 h.2.1 (er_g_mem hi)
    have key : (∀ q : Nat, q < 36 → (er_g (er_LM (er_bR b) (er_bC b) (er_bh b) (er_bt b) op 1 P) i).1 = 2 + (q : Int) → q ∈ P) ∧ (∀ q : Nat, q < 36 → (er_g (er_LM (er_bR b) (er_bC b) (er_bh b) (er_bt b) op 1 P) i).2.1 = 2 + (q : Int) → q ∈ P) := by
      rcases hm with hm | ⟨p', hp', hm⟩
      · exact ⟨fun q hq e => by omega, fun q hq e => by omega⟩
      · exact ⟨fun q hq e => by rw [show q = p' by omega]; exact hp', fun q hq e => by rw [show q = p' by omega]; exact hp'⟩
    exact ⟨fun _ _ => key.2, fun _ _ => key.1⟩) p hp rfl
  exact hn this
theorem er_ML_full {rm : Int → Int} (h : er_BO (er_bR b) (er_bC b) (er_bh b) (er_bt b) (er_bk b) op) (hP : ∀ p ∈ P, p < 36 ∧ er_bk b (p : Int) = 1) (hn : P.Nodup) (hf : er_FO (er_ML b op P) rm) (hx : er_exc (er_ML b op P) rm 0 = (P.length : Int)) : er_can b op P := by
  intro S s0 s1
  have h1 := er_weak hf s0 s1
  obtain ⟨p1, p2⟩ := er_ML_parts h hP hn S
  obtain ⟨n1, n2, n3, n4, n5, n6⟩ := er_ML_nn h hP S
  rw [hx] at h1
  show (P.length : Int) ≤ er_cut S (er_NL b op P)
  omega
theorem er_ML_not {rm : Int → Int} {x : Int} (h : er_BO (er_bR b) (er_bC b) (er_bh b) (er_bt b) (er_bk b) op) (hP : ∀ p ∈ P, p < 36 ∧ er_bk b (p : Int) = 1) (hn : P.Nodup) (hm : er_max (er_ML b op P) rm x) (hx : x < (P.length : Int)) : ¬ er_can b op P := by
  intro hc
  have h2 : (P.length : Int) ≤ er_cut (er_near (er_ML b op P) rm) (er_NL b op P) := hc _ (er_near_0 _ _) hm.2.1
  have h3 := er_max_cut hm
  obtain ⟨p1, p2⟩ := er_ML_parts h hP hn (er_near (er_ML b op P) rm)
  obtain ⟨n1, n2, n3, n4, n5, n6⟩ := er_ML_nn h hP (er_near (er_ML b op P) rm)
  have hl := er_card36 (fun p hp => (hP p hp).1) hn
  have e3 : er_sum 36 (fun p => er_ic (er_bk b (p : Int) = 1) * er_fp (er_near (er_ML b op P) rm) p) = er_sum 36 (fun p => er_ic (p ∈ P) * er_fp (er_near (er_ML b op P) rm) p) := by
    refine er_sum_congr (fun p hp => ?_)
    by_cases hm : p ∈ P
    · rw [er_ic_t hm, er_ic_t (hP p hm).2]
    · rw [er_fp_out (er_ML_out h hp hm), Int.mul_zero, Int.mul_zero]
  omega
theorem er_ML_le {rm : Int → Int} (h : er_BO (er_bR b) (er_bC b) (er_bh b) (er_bt b) (er_bk b) op) (hP : ∀ p ∈ P, p < 36 ∧ er_bk b (p : Int) = 1) (hn : P.Nodup) (hf : er_FO (er_ML b op P) rm) : er_exc (er_ML b op P) rm 0 ≤ (P.length : Int) := by
  have h1 := er_weak hf (S := fun v => v = 0) rfl (by decide)
  have h2 := er_NL_src h (fun p hp => (hP p hp).1) hn
  obtain ⟨p1, p2⟩ := er_ML_parts h hP hn (fun v => v = 0)
  obtain ⟨n1, n2, n3, n4, n5, n6⟩ := er_ML_nn h hP (fun v => v = 0)
  omega
end ERcut
theorem er_fr_L {L X : List er_Ed} {e : Int} (h0 : 0 ≤ e) (h1 : e < 2 * (L.length : Int)) : er_fr (L ++ X) e = er_fr L e ∧ er_to (L ++ X) e = er_to L e := by
  unfold er_fr er_to
  rw [er_g_app1 (by omega)]
  exact ⟨rfl, rfl⟩
theorem er_last_L {L X : List er_Ed} {nil v e x : Int} (he : e ≤ 2 * (L.length : Int)) (h : er_last (L ++ X) nil v e x) : er_last L nil v e x := by
  rcases h with ⟨h1, h2⟩ | ⟨h1, h2, h3, h4⟩
  · exact Or.inl ⟨h1, fun k k0 k1 => by rw [← (er_fr_L (X := X) k0 (by omega)).1]; exact h2 k k0 k1⟩
  · exact Or.inr ⟨h1, h2, by rw [← (er_fr_L (X := X) h1 (by omega)).1]; exact h3, fun k k0 k1 => by rw [← (er_fr_L (X := X) (by omega) (by omega)).1]; exact h4 k k0 k1⟩
theorem er_MN.kpF {F : Nat → Int → Prop} {m m' : er_M} {L : List er_Ed} (h : er_MN m L) (hk : er_kp F m m') (h1 : ∀ k, ¬ F 88 k) (h2 : ∀ k, ¬ F 89 k) (h3 : ∀ k, ¬ F 91 k) (h4 : ∀ k, ¬ F 92 k) (h8 : ¬ F 83 13) : er_MN m' L := by
  have c1 : m' 88 = m 88 := funext fun q => hk _ _ (h1 q)
  have c2 : m' 89 = m 89 := funext fun q => hk _ _ (h2 q)
  have c3 : m' 91 = m 91 := funext fun q => hk _ _ (h3 q)
  have c4 : m' 92 = m 92 := funext fun q => hk _ _ (h4 q)
  have c8 : m' 83 13 = m 83 13 := hk _ _ h8
  unfold er_MN at h ⊢
  rw [c1, c2, c3, c4, c8]
  exact h
theorem er_MF.kpF {F : Nat → Int → Prop} {m m' : er_M} {L : List er_Ed} {x : Int} (h : er_MF m L x) (hk : er_kp F m m') (h1 : ∀ c k, 88 ≤ c → c ≤ 92 → ¬ F c k) (h8 : ¬ F 83 13) : er_MF m' L x := by
  have c0 : m' 90 = m 90 := funext fun q => hk _ _ (h1 90 q (by decide) (by decide))
  refine ⟨h.1.kpF hk (fun k => h1 88 k (by decide) (by decide)) (fun k => h1 89 k (by decide) (by decide)) (fun k => h1 91 k (by decide) (by decide)) (fun k => h1 92 k (by decide) (by decide)) h8, ?_⟩
  rw [c0]
  exact h.2
def er_MU : Nat → Int → Prop := fun c k => (88 ≤ c ∧ c ≤ 92) ∨ (94 ≤ c ∧ c ≤ 97) ∨ c = 99 ∨ (c = 83 ∧ k = 13)
section ERP
variable {K : er_K} {m : er_M}
theorem sp_M_cutBack {L X : List er_Ed} {Q : er_M → Prop} (h : er_MN m (L ++ X)) (hQ : ∀ m', er_MN m' L → er_kp (fun c k => c = 91 ∨ (c = 83 ∧ k = 13)) m m' → Q m') : er_SV K mi_M_cutBack [.inr 83, .inl (2 * (L.length : Int))] m Q := by
  obtain ⟨h1, h2, h3, h4, h5, h6⟩ := h
  rw [List.length_append] at h1 h2
  have loop : ∀ (d : Nat) (m1 : er_M), (d : Int) ≤ 2 * (X.length : Int) → m1 83 13 = 2 * (L.length : Int) + d → (∀ v : Int, 0 ≤ v → v < 136 → er_last (L ++ X) (-9) v (2 * (L.length : Int) + d) (m1 91 v)) → er_kp (fun c k => c = 91 ∨ (c = 83 ∧ k = 13)) m m1 → wp_M_cutBack_0 K (2 * (L.length : Int)) m1 Q := by
    intro d
    induction d with
    | zero =>
      intro m1 hd hm ha hk
      refine vc_M_cutBack_0 ⟨⟨by omega, by omega⟩, ⟨by omega, by omega⟩, fun _ => ?_, fun hlt => by omega⟩
      refine hQ m1 ⟨by omega, by omega, fun i hi => ?_, fun e e0 e1 => ?_, fun v v0 v1 => ?_, fun e e0 e1 => ?_⟩ hk
      · have := h3 i (by rw [List.length_append]; omega)
        rwa [er_g_app1 hi] at this
      · have := h4 e e0 (by rw [List.length_append]; omega)
        rw [(er_fr_L e0 e1).1, (er_fr_L e0 e1).2] at this
        rw [hk 88 e (by omega), hk 89 e (by omega)]
        exact this
      · have := er_last_L (by omega) (ha v v0 v1)
        rwa [show 2 * (L.length : Int) + ((0 : Nat) : Int) = 2 * (L.length : Int) by omega] at this
      · have := h6 e e0 (by rw [List.length_append]; omega)
        rw [hk 92 e (by omega), ← (er_fr_L (X := X) e0 e1).1]
        exact er_last_L (by omega) this
    | succ d ih =>
      intro m1 hd hm ha hk
      have hE : 2 * (L.length : Int) + (d : Int) < 2 * (((L ++ X).length : Nat) : Int) := by rw [List.length_append]; omega
      obtain ⟨b1, b2, b3, b4⟩ := er_fr_bd h3 (e := 2 * (L.length : Int) + (d : Int)) (by omega) hE
      have h88 : m1 88 (2 * (L.length : Int) + (d : Int)) = er_fr (L ++ X) (2 * (L.length : Int) + (d : Int)) := by rw [hk 88 _ (by omega)]; exact (h4 _ (by omega) hE).1
      have h92 : m1 92 (2 * (L.length : Int) + (d : Int)) = m 92 (2 * (L.length : Int) + (d : Int)) := hk 92 _ (by omega)
      refine vc_M_cutBack_0 ⟨⟨by omega, by omega⟩, ⟨by omega, by omega⟩, fun hle => by omega, fun _ m4 e4 => ?_⟩
      have g13 : m4 83 13 = 2 * (L.length : Int) + (d : Int) := by rw [e4, er_st_s, hm]; omega
      rw [g13]
      have g88 : m4 88 (2 * (L.length : Int) + (d : Int)) = er_fr (L ++ X) (2 * (L.length : Int) + (d : Int)) := by rw [e4, er_st_c (by decide)]; exact h88
      have g92 : m4 92 (2 * (L.length : Int) + (d : Int)) = m 92 (2 * (L.length : Int) + (d : Int)) := by rw [e4, er_st_c (by decide)]; exact h92
      rw [g88, g92]
      refine ⟨by omega, by omega, b1, b2, fun m9 e9 => ?_⟩
      refine ih m9 (by omega) (by rw [e9, er_st_c (by decide)]; exact g13) (fun v v0 v1 => ?_) (hk.tr (by rw [e9, e4]; exact (er_kp.st (Or.inr ⟨rfl, rfl⟩)).tr (er_kp.st (Or.inl rfl))))
      rw [e9]
      by_cases hvf : v = er_fr (L ++ X) (2 * (L.length : Int) + (d : Int))
      · rw [hvf, er_st_s]
        exact h6 _ (by omega) hE
      · rw [er_st_k hvf, e4, er_st_c (by decide)]
        rcases ha v v0 v1 with ⟨z1, z2⟩ | ⟨z1, z2, z3, z4⟩
        · exact Or.inl ⟨z1, fun k k0 k1 => z2 k k0 (by omega)⟩
        · refine Or.inr ⟨z1, ?_, z3, fun k k0 k1 => z4 k k0 (by omega)⟩
          by_cases hx : m1 91 v = 2 * (L.length : Int) + (d : Int)
          · rw [hx] at z3
            exact absurd z3.symm hvf
          · omega
  refine vc_M_cutBack (loop (2 * X.length) m (by omega) (by omega) (fun v v0 v1 => ?_) er_kp.rf)
  have := h5 v v0 v1
  rw [List.length_append] at this
  rwa [show 2 * (L.length : Int) + ((2 * X.length : Nat) : Int) = 2 * ((L.length + X.length : Nat) : Int) by omega]
theorem sp_M_puts {b : er_Bo} {op : Int → Int} {P : List Nat} {l : Int} {p : Nat} {Q : Int → er_M → Prop} (hv : er_BV b) (hop : ∀ j : Int, 0 ≤ j → j < 36 → op j = 0 ∨ op j = 1) (hpa : m 84 (40 + (p : Int)) = er_bp b p + 1) (h : er_MF m (er_ML b op P) (P.length : Int))
    (hPn : (P ++ er_pp b p).Nodup) (hPk : ∀ q ∈ P ++ er_pp b p, q < 36 ∧ er_bk b (q : Int) = 1) (hl : 1 ≤ l ∧ l ≤ 37)
    (hQ1 : er_can b op (P ++ er_pp b p) → ∀ m', er_MF m' (er_ML b op (P ++ er_pp b p)) (((P ++ er_pp b p).length : Nat) : Int) → (∀ j, m' 97 j = er_on b (m 97) p l j) → er_kp er_MU m m' → Q 1 m')
    (hQ0 : ¬ er_can b op (P ++ er_pp b p) → ∀ m', er_MF m' (er_ML b op P) (P.length : Int) → (∀ j, m' 97 j = m 97 j) → er_kp er_MU m m' → Q 0 m') : er_SI K mi_M_puts [.inr 83, .inl (p : Int), .inl l] m Q := by
  have hbo := er_BO_of hv hop
  have hppl : (er_pp b p).length = if er_bp b p = -1 then 1 else 2 := by unfold er_pp; split <;> rfl
  have hc36 := er_card36 (fun q hq => (hPk q hq).1) hPn
  rw [List.length_append] at hc36
  have hlen := er_ML_len (b := b) op P hv
  have hlen2 := er_ML_len (b := b) op (P ++ er_pp b p) hv
  rw [List.length_append] at hlen2
  have hp : p < 36 := (hPk p (List.mem_append_right _ (by unfold er_pp; split <;> simp))).1
  have hqr := hv.2.2.2.2.2.2.2.2.2.2.1 p (by omega) (by omega)
  have h13 : m 83 13 = 2 * ((er_ML b op P).length : Int) := h.1.1
  have hlen3 : ((er_ML b op P).length : Int) ≤ 368 := by
    have : 1 ≤ (er_pp b p).length := by rw [hppl]; split <;> decide
    omega
  -- after both are laid
  have fin : ∀ m4, er_MF m4 (er_ML b op (P ++ er_pp b p)) (P.length : Int) → (∀ k : Int, 0 ≤ k → k < 2 * ((er_ML b op P).length : Int) → m4 99 k = m 90 k) → er_kp (fun c k => er_MU c k ∧ c ≠ 97) m m4 → wp_M_puts_66 K (p : Int) l (er_bp b p) (2 * ((er_ML b op P).length : Int)) m4 Q := by
    intro m4 h4 h99 hk4
    -- no
    have no : ∀ m1 x, er_kp er_MQ m4 m1 → er_max (er_ML b op (P ++ er_pp b p)) (m1 90) x → x ≠ ((P ++ er_pp b p).length : Int) → er_SV K mi_M_cutBack [.inr 83, .inl (2 * ((er_ML b op P).length : Int))] m1 (fun m7 => wp_M_puts_111 K 0 m7 Q) := by
      intro m1 x hk1 hmx hne
      have hle := er_ML_le hbo hPk hPn hmx.1
      rw [hmx.2.2] at hle
      have hnot := er_ML_not hbo hPk hPn hmx (by omega)
      have hMN : er_MN m1 (er_ML b op P ++ er_mp 1 (er_pp b p)) := by rw [← er_ML_app]; exact h4.1.kp hk1
      refine sp_M_cutBack hMN (fun m7 h7 k7 => ?_)
      have back : ∀ (d e : Nat) (m8 : er_M), (e : Int) + d = 2 * ((er_ML b op P).length : Int) → (∀ k : Int, 0 ≤ k → k < e → m8 90 k = m 90 k) → er_kp (fun c _ => c = 90) m7 m8 → wp_M_puts_111 K (e : Int) m8 Q := by
        intro d
        induction d with
        | zero =>
          intro e m8 he h90 k8
          have g13 : m8 83 13 = 2 * ((er_ML b op P).length : Int) := by rw [k8 83 13 (by decide)]; exact h7.1
          refine vc_M_puts_111 ⟨⟨by omega, by omega⟩, ⟨by omega, by omega⟩, fun _ => ?_, fun hlt => by omega⟩
          have hfc := er_FO_congr (r2 := m8 90) (fun k k0 k1 => (h90 k k0 (by omega)).symm) h.2.1
          refine hQ0 hnot m8 ⟨h7.kpF k8 (fun k => by decide) (fun k => by decide) (fun k => by decide) (fun k => by decide) (by decide), hfc.1, by rw [hfc.2]; exact h.2.2⟩ (fun j => ?_) (((hk4.wk (fun c k z => z.1)).tr (hk1.wk (fun c k z => by unfold er_MQ at z; unfold er_MU; omega))).tr ((k7.wk (fun c k z => by unfold er_MU; omega)).tr (k8.wk (fun c k z => by unfold er_MU; omega))))
          rw [k8 97 j (by omega), k7 97 j (by omega), hk1 97 j (by unfold er_MQ; omega), hk4 97 j (fun z => z.2 rfl)]
        | succ d ih =>
          intro e m8 he h90 k8
          have g13 : m8 83 13 = 2 * ((er_ML b op P).length : Int) := by rw [k8 83 13 (by decide)]; exact h7.1
          refine vc_M_puts_111 ⟨⟨by omega, by omega⟩, ⟨by omega, by omega⟩, fun hle => by omega, fun _ => ⟨by omega, by omega, fun m6 e6 => ?_⟩⟩
          refine ih (e + 1) m6 (by omega) (fun k k0 k1 => ?_) (k8.tr (by rw [e6]; exact er_kp.st rfl))
          rw [e6]
          by_cases hke : k = e
          · rw [hke, er_st_s, k8 99 _ (by omega), k7 99 _ (by omega), hk1 99 _ (by unfold er_MQ; omega)]
            exact h99 e (by omega) (by omega)
          · rw [er_st_k hke]
            exact h90 k k0 (by omega)
      exact back (2 * (er_ML b op P).length) 0 m7 (by omega) (fun k k0 k1 => by omega) er_kp.rf
    -- yes
    have yes : ∀ m1 x, er_kp er_MQ m4 m1 → er_max (er_ML b op (P ++ er_pp b p)) (m1 90) x → x = ((P ++ er_pp b p).length : Int) → ∀ m9, er_kp (fun c _ => c = 97) m1 m9 → (∀ j, m9 97 j = er_on b (m 97) p l j) → Q 1 m9 := by
      intro m1 x hk1 hmx hxe m9 hk9 h97
      have hcan := er_ML_full hbo hPk hPn hmx.1 (by rw [hmx.2.2, hxe])
      have hmf : er_MF m1 (er_ML b op (P ++ er_pp b p)) (((P ++ er_pp b p).length : Nat) : Int) := ⟨h4.1.kp hk1, hmx.1, by rw [hmx.2.2, hxe]⟩
      exact hQ1 hcan m9 (hmf.kpF hk9 (fun c k a z => by omega) (by decide)) h97 (((hk4.wk (fun c k z => z.1)).tr (hk1.wk (fun c k z => by unfold er_MQ at z; unfold er_MU; omega))).tr (hk9.wk (fun c k z => by unfold er_MU; omega)))
    refine vc_M_puts_66 (sp_M_augmentAll h4 (by omega) (fun rm hf => er_LM_bound hv.2.1 hv.2.2.2.1 hv.2.2.2.2.2.2.1 hv.2.2.2.2.2.2.2.1 1 (fun q hq => (hPk q hq).1) hf) (fun m1 x hk1 hz hmx hx0 hx1 hnear => ?_))
    have e97 : ∀ j, m1 97 j = m 97 j := fun j => by rw [hk1 97 j (by unfold er_MQ; omega), hk4 97 j (fun z => z.2 rfl)]
    refine ⟨⟨by rcases hqr with z | z <;> omega, by rcases hqr with z | z <;> omega⟩, fun hneg => ⟨⟨by omega, by omega⟩, fun hne => ?_, fun he => ⟨by omega, by omega, fun m10 e10 => ⟨fun _ => ?_, fun hge => by omega⟩⟩⟩, fun hpos => ⟨⟨by omega, by omega⟩, fun hne => ?_, fun he => ⟨by omega, by omega, fun m20 e20 => ⟨fun hlt => by omega, fun _ => ⟨by rcases hqr with z | z <;> omega, by rcases hqr with z | z <;> omega, fun m24 e24 => ?_⟩⟩⟩⟩⟩
    · have hb1 : er_bp b p = -1 := by rcases hqr with z | z <;> omega
      rw [if_pos hb1] at hppl
      exact no m1 x hk1 hmx (by rw [List.length_append, hppl]; omega)
    · have hb1 : er_bp b p = -1 := by rcases hqr with z | z <;> omega
      rw [if_pos hb1] at hppl
      refine yes m1 x hk1 hmx (by rw [List.length_append, hppl]; omega) m10 (by rw [e10]; exact er_kp.st rfl) (fun j => ?_)
      rw [er_on_eq, if_pos hb1, e10]
      by_cases hj : j = p
      · rw [if_pos hj, hj, er_st_s]
      · rw [if_neg hj, er_st_k hj, e97]
    · have hb1 : er_bp b p ≠ -1 := by omega
      rw [if_neg hb1] at hppl
      exact no m1 x hk1 hmx (by rw [List.length_append, hppl]; omega)
    · have hb1 : er_bp b p ≠ -1 := by omega
      rw [if_neg hb1] at hppl
      refine yes m1 x hk1 hmx (by rw [List.length_append, hppl]; omega) m24 (by rw [e24, e20]; exact (er_kp.st rfl).tr (er_kp.st rfl)) (fun j => ?_)
      rw [er_on_eq, if_neg hb1, e24]
      by_cases hj : j = er_bp b p
      · rw [if_pos hj, hj, er_st_s]
      · rw [if_neg hj, er_st_k hj, e20]
        by_cases hj2 : j = p
        · rw [if_pos hj2, hj2, er_st_s]
        · rw [if_neg hj2, er_st_k hj2, e97]
  -- the rooms are kept
  have keep : ∀ (d e : Nat) (m1 : er_M), (e : Int) + d = 2 * ((er_ML b op P).length : Int) → (∀ k : Int, 0 ≤ k → k < e → m1 99 k = m 90 k) → er_kp (fun c _ => c = 99) m m1 → wp_M_puts_21 K (p : Int) l (er_bp b p) (2 * ((er_ML b op P).length : Int)) (e : Int) m1 Q := by
    intro d
    induction d with
    | zero =>
      intro e m1 he h99 k1
      have g13 : m1 83 13 = 2 * ((er_ML b op P).length : Int) := by rw [k1 83 13 (by decide)]; exact h13
      refine vc_M_puts_21 ⟨⟨by omega, by omega⟩, ⟨by omega, by omega⟩, fun _ => ?_, fun hlt => by omega⟩
      have hmf1 := h.kpF k1 (fun c k a z => by omega) (by decide)
      refine sp_M_layPin hmf1 (by omega) hp ⟨by decide, by decide⟩ (fun m4 h4 k4 hs4 => ?_)
      rw [← er_ML_app] at h4
      have kk4 : er_kp (fun c k => er_MU c k ∧ c ≠ 97) m m4 := (k1.wk (fun c k z => by unfold er_MU; omega)).tr (k4.wk (fun c k z => by unfold er_MB at z; unfold er_MU; omega))
      have h994 : ∀ k : Int, 0 ≤ k → k < 2 * ((er_ML b op P).length : Int) → m4 99 k = m 90 k := fun k k0 k1' => by rw [k4 99 k (by unfold er_MB; omega)]; exact h99 k k0 (by omega)
      refine ⟨⟨by rcases hqr with z | z <;> omega, by rcases hqr with z | z <;> omega⟩, fun hneg => ?_, fun hpos => ?_⟩
      · have hb1 : er_bp b p = -1 := by rcases hqr with z | z <;> omega
        have hpp1 : er_pp b p = [p] := by unfold er_pp; rw [if_pos hb1]
        rw [← hpp1] at h4
        exact fin m4 h4 h994 kk4
      · have hb1 : er_bp b p ≠ -1 := by omega
        have hpp2 : er_pp b p = [p] ++ [(er_bp b p).toNat] := by unfold er_pp; rw [if_neg hb1]; rfl
        have hq36 : (er_bp b p).toNat < 36 := (hPk _ (List.mem_append_right _ (by rw [hpp2]; simp))).1
        have hl4 := er_ML_len (b := b) op (P ++ [p]) hv
        rw [List.length_append, List.length_singleton] at hl4
        rw [if_neg hb1] at hppl
        have hlay := sp_M_layPin (K := K) (Q := fun m7 => wp_M_puts_66 K (p : Int) l (er_bp b p) (2 * ((er_ML b op P).length : Int)) m7 Q) h4 (by omega) hq36 (w := 1) ⟨by decide, by decide⟩ (fun m7 h7 k7 hs7 => by
          rw [← er_ML_app, List.append_assoc, ← hpp2] at h7
          exact fin m7 h7 (fun k k0 k1' => by rw [k7 99 k (by unfold er_MB; omega)]; exact h994 k k0 k1') (kk4.tr (k7.wk (fun c k z => by unfold er_MB at z; unfold er_MU; omega))))
        rw [show (((er_bp b p).toNat : Nat) : Int) = er_bp b p by omega] at hlay
        exact hlay
    | succ d ih =>
      intro e m1 he h99 k1
      have g13 : m1 83 13 = 2 * ((er_ML b op P).length : Int) := by rw [k1 83 13 (by decide)]; exact h13
      refine vc_M_puts_21 ⟨⟨by omega, by omega⟩, ⟨by omega, by omega⟩, fun hle => by omega, fun _ => ⟨by omega, by omega, fun m6 e6 => ?_⟩⟩
      refine ih (e + 1) m6 (by omega) (fun k k0 k1' => ?_) (k1.tr (by rw [e6]; exact er_kp.st rfl))
      rw [e6]
      by_cases hke : k = e
      · rw [hke, er_st_s, k1 90 _ (by omega)]
      · rw [er_st_k hke]
        exact h99 k k0 (by omega)
  refine vc_M_puts ⟨by omega, by omega, ?_⟩
  rw [hpa, h13, show er_bp b p + 1 - 1 = er_bp b p by omega]
  exact keep (2 * (er_ML b op P).length) 0 m (by omega) (fun k k0 k1 => by omega) er_kp.rf
end ERP
