/-! the class's layering: a pin or pair that is tried -/
theorem er_FO_congr {L : List er_Ed} {r1 r2 : Int → Int} (h : ∀ k : Int, 0 ≤ k → k < 2 * (L.length : Int) → r1 k = r2 k) (hf : er_FO L r1) : er_FO L r2 ∧ ∀ v, er_exc L r2 v = er_exc L r1 v := by
  have hx : ∀ v, er_exc L r2 v = er_exc L r1 v := fun v => (er_exc_same (fun i hi => h _ (by omega) (by omega)) v).symm
  refine ⟨⟨fun i hi => ?_, fun v v0 v1 => by rw [hx]; exact hf.2 v v0 v1⟩, hx⟩
  rw [← h _ (by omega) (by omega), ← h _ (by omega) (by omega)]
  exact hf.1 i hi
/-- the network of a layer with the pins P -/
noncomputable def er_NL (b : er_Bo) (op : Int → Int) (P : List Nat) : List er_Ed := er_LC (er_bR b) (er_bC b) (er_bh b) (er_bt b) (er_bk b) op 1 (fun p => er_ic (p ∈ P))
theorem er_BO_of {b : er_Bo} {op : Int → Int} (hv : er_BV b) (hop : ∀ j : Int, 0 ≤ j → j < 36 → op j = 0 ∨ op j = 1) : er_BO (er_bR b) (er_bC b) (er_bh b) (er_bt b) (er_bk b) op := by
  refine ⟨hv.2.1, hv.2.2.2.1, hv.2.2.2.2.1, hv.2.2.2.2.2.2.1, hv.2.2.2.2.2.2.2.1, fun p hp hn => ?_, hop⟩
  have := hv.2.2.2.2.2.2.2.2.2.1 (p : Int) (by omega) (by omega) (fun z => hn ⟨by omega, by omega⟩)
  omega
theorem er_sum_card {P : List Nat} (hP : ∀ p ∈ P, p < 36) (hn : P.Nodup) : er_sum 36 (fun p => er_ic (p ∈ P)) = (P.length : Int) := by
  have h := er_sum_list hP hn (fun _ => 1)
  have e : er_sum 36 (fun p => er_ic (p ∈ P) * 1) = er_sum 36 (fun p => er_ic (p ∈ P)) := er_sum_congr (fun p _ => by omega)
  rw [e] at h
  rw [h]
  clear h e hn hP
  induction P with
  | nil => rfl
  | cons q P ih => simp only [List.map_cons, List.sum_cons, List.length_cons, ih]; omega
theorem er_tiles_fr {R C : Nat} {tl M : Int} {t : er_Ed} (h : t ∈ er_tiles R C tl M) : 38 ≤ t.1 ∧ 1 ≤ t.2.1 := by
  obtain ⟨r, hr, h⟩ := er_flat_mem _ h
  obtain ⟨c, hc, h⟩ := er_flat_mem _ h
  unfold er_tile at h
  split at h
  · simp only [List.mem_cons, List.not_mem_nil, or_false] at h
    rcases h with rfl | rfl
    · exact ⟨by simp only; omega, by simp only; omega⟩
    · exact ⟨by simp only; omega, Int.le_refl 1⟩
  · simp only [List.mem_cons, List.not_mem_nil, or_false] at h
    rw [h]
    exact ⟨by simp only; omega, by simp only; omega⟩
theorem er_LC_mem {R C : Nat} {ch tl w : Int} {kd op : Int → Int} {sup : Nat → Int} {t : er_Ed} (hR : R ≤ 6) (hC : C ≤ 6) (h : t ∈ er_LC R C ch tl kd op w sup) : (∃ p : Nat, p < 36 ∧ t = (0, 2 + (p : Int), sup p)) ∨ (2 ≤ t.1 ∧ 1 ≤ t.2.1) := by
  unfold er_LC at h
  rcases List.mem_append.mp h with h | h
  · obtain ⟨p, hp, h⟩ := er_flat_mem _ h
    exact Or.inl ⟨p, hp, by simpa using h⟩
  · refine Or.inr ?_
    rcases List.mem_append.mp h with h | h
    · obtain ⟨r, hr, h⟩ := er_flat_mem _ h
      obtain ⟨c, hc, h⟩ := er_flat_mem _ h
      unfold er_pinc at h
      split at h
      · simp only [er_pin4, List.mem_cons, List.not_mem_nil, or_false] at h
        rcases h with rfl | rfl | rfl | rfl <;> exact ⟨by simp only; omega, by simp only; omega⟩
      · simp at h
    · rcases List.mem_append.mp h with h | h
      · have := er_tiles_fr h
        omega
      · obtain ⟨a, b, h1, h2, h3, h4, h5, h6⟩ := er_chans_mem hR hC h
        omega
/-- no more than the pins' number flows -/
theorem er_NL_src {b : er_Bo} {op : Int → Int} {P : List Nat} (hbo : er_BO (er_bR b) (er_bC b) (er_bh b) (er_bt b) (er_bk b) op) (hP : ∀ p ∈ P, p < 36) (hn : P.Nodup) : er_cut (fun v => v = 0) (er_NL b op P) = (P.length : Int) := by
  unfold er_NL
  rw [er_LC_cut hbo]
  have h1 : er_sum 36 (fun p => er_ic (p ∈ P) * er_sp (fun v => v = 0) p) = (P.length : Int) := by
    rw [← er_sum_card hP hn]
    refine er_sum_congr (fun p _ => ?_)
    have : er_sp (fun v => v = 0) p = 1 := er_ic_t ⟨rfl, fun z => by omega⟩
    rw [this, Int.mul_one]
  have h2 : er_sum 36 (fun p => er_ic (er_bk b (p : Int) = 1) * er_fp (fun v => v = 0) p) = 0 := er_sum_zero (fun p _ => by rw [er_fp_out (fun z => by omega), Int.mul_zero])
  have h3 : ∀ tl M : Int, er_cut (fun v => v = 0) (er_tiles (er_bR b) (er_bC b) tl M) = 0 := fun tl M => er_cut_zero _ (fun t ht => Or.inl (fun z => by have := (er_tiles_fr ht).1; omega))
  have h4 : er_cut (fun v => v = 0) (er_chans (er_bR b) (er_bC b) (er_bh b) op) = 0 := er_cut_zero _ (fun t ht => Or.inl (fun z => by obtain ⟨a, c, g1, g2, g3, g4, g5, g6⟩ := er_chans_mem hbo.1 hbo.2.1 ht; omega))
  rw [h1, h2, h3, h3, h4]
  omega
theorem er_max_uniq {L : List er_Ed} {r1 r2 : Int → Int} {x1 x2 : Int} (h1 : er_max L r1 x1) (h2 : er_max L r2 x2) : x1 = x2 := (er_same h1 h2 (Int.le_refl _) (Int.le_refl _)).1
/-- all that can come comes: they can escape -/
theorem er_NL_full {b : er_Bo} {op : Int → Int} {P : List Nat} {rm : Int → Int} (hbo : er_BO (er_bR b) (er_bC b) (er_bh b) (er_bt b) (er_bk b) op) (hP : ∀ p ∈ P, p < 36) (hn : P.Nodup) (hf : er_FO (er_NL b op P) rm) (hx : er_exc (er_NL b op P) rm 0 = (P.length : Int)) : er_can b op P := by
  intro S s0 s1
  have := er_weak hf s0 s1
  rw [hx] at this
  exact this
theorem er_NL_not {b : er_Bo} {op : Int → Int} {P : List Nat} {rm : Int → Int} {x : Int} (hm : er_max (er_NL b op P) rm x) (hx : x < (P.length : Int)) : ¬ er_can b op P := fun h => by
  have h2 : (P.length : Int) ≤ er_cut (er_near (er_NL b op P) rm) (er_NL b op P) := h _ (er_near_0 _ _) hm.2.1
  have h3 := er_max_cut hm
  omega
theorem er_NL_le {b : er_Bo} {op : Int → Int} {P : List Nat} {rm : Int → Int} (hbo : er_BO (er_bR b) (er_bC b) (er_bh b) (er_bt b) (er_bk b) op) (hP : ∀ p ∈ P, p < 36) (hn : P.Nodup) (hf : er_FO (er_NL b op P) rm) : er_exc (er_NL b op P) rm 0 ≤ (P.length : Int) := by
  have := er_weak hf (S := fun v => v = 0) rfl (by decide)
  rwa [er_NL_src hbo hP hn] at this
/-- an edge out of the source has room for one -/
theorem er_NL_one {b : er_Bo} {op : Int → Int} {P : List Nat} {rm : Int → Int} (hv : er_BV b) (hf : er_FO (er_NL b op P) rm) {e : Int} (h0 : 0 ≤ e) (h1 : e < 2 * ((er_NL b op P).length : Int)) (hfr : er_fr (er_NL b op P) e = 0) : rm e ≤ 1 := by
  have hi : (e / 2).toNat < (er_NL b op P).length := by omega
  obtain ⟨g0, g1, g2, -⟩ := hf.1 _ hi
  rw [show (((e / 2).toNat : Nat) : Int) = e / 2 by omega] at g0 g1 g2
  unfold er_fr at hfr
  rcases (by omega : e % 2 = 0 ∨ e % 2 = 1) with hp | hp
  · rw [if_pos hp] at hfr
    rw [show 2 * (e / 2) = e by omega] at g2 g0 g1
    have hm : (∃ p : Nat, p < 36 ∧ er_g (er_NL b op P) (e / 2).toNat = (0, 2 + (p : Int), er_ic (p ∈ P))) ∨ (2 ≤ (er_g (er_NL b op P) (e / 2).toNat).1 ∧ 1 ≤ (er_g (er_NL b op P) (e / 2).toNat).2.1) := er_LC_mem hv.2.1 hv.2.2.2.1 (er_g_mem hi)
    rcases hm with ⟨p, _, hp2⟩ | hm
    · rw [hp2] at g2
      simp only at g2
      have := er_ic_01 (p ∈ P)
      omega
    · omega
  · rw [if_neg (by omega)] at hfr
    have hm : (∃ p : Nat, p < 36 ∧ er_g (er_NL b op P) (e / 2).toNat = (0, 2 + (p : Int), er_ic (p ∈ P))) ∨ (2 ≤ (er_g (er_NL b op P) (e / 2).toNat).1 ∧ 1 ≤ (er_g (er_NL b op P) (e / 2).toNat).2.1) := er_LC_mem hv.2.1 hv.2.2.2.1 (er_g_mem hi)
    rcases hm with ⟨p, _, hp2⟩ | hm
    · rw [hp2] at hfr
      simp only at hfr
      omega
    · omega
/-- where trying a pin writes -/
def er_CF2 (y : Nat) : Nat → Int → Prop := fun c k => c = y + 2 ∨ c = y + 4 ∨ (56 ≤ c ∧ c ≤ 60) ∨ (c = 52 ∧ k = 10)
theorem er_len_NL {b : er_Bo} {op : Int → Int} {P Q : List Nat} : (er_NL b op P).length = (er_NL b op Q).length := (er_srcs_ends (sup := fun p => er_ic (p ∈ P)) (sup' := fun p => er_ic (p ∈ Q))).1
theorem er_NL_supply {b : er_Bo} {op : Int → Int} {P : List Nat} {m : er_M} {x : Int} {p : Nat} (hc : er_CN 52 m (er_NL b op P)) (hf : er_FO (er_NL b op P) (m 56)) (hx : er_exc (er_NL b op P) (m 56) 0 = x) (hp : p < 36) (hpn : p ∉ P) : er_CN 52 (er_st m 56 (2 * (p : Int)) 1) (er_NL b op (P ++ [p])) ∧ er_FO (er_NL b op (P ++ [p])) (er_st m 56 (2 * (p : Int)) 1 56) ∧ er_exc (er_NL b op (P ++ [p])) (er_st m 56 (2 * (p : Int)) 1 56) 0 = x := by
  have hs := er_FO_supply (sup := fun q => er_ic (q ∈ P)) (sup' := fun q => er_ic (q ∈ P ++ [p])) (rm' := er_st m 56 (2 * (p : Int)) 1 56) (w := 1) hf hp (by decide) (er_ic_t (by simp)) (fun q hq hne => er_ic_iff (by simp [hne])) (er_ic_f hpn) (er_st_s _ _ _ _) (fun k hk => er_st_k hk)
  refine ⟨?_, hs.1, by rw [← hx]; exact hs.2 0⟩
  have hc2 := er_CN_ends (er_srcs_ends (sup := fun q => er_ic (q ∈ P)) (sup' := fun q => er_ic (q ∈ P ++ [p]))) (er_srcs_Bd hc.2.2.1 (fun q _ => by rcases er_ic_01 (q ∈ P ++ [p]) with z | z <;> rw [z] <;> exact ⟨by decide, by decide⟩)) hc
  exact hc2.kp (er_kp.st (by unfold er_NP; omega))
theorem er_CN.kpF {F : Nat → Int → Prop} {n : Nat} {m m' : er_M} {L : List er_Ed} (h : er_CN n m L) (hk : er_kp F m m') (h1 : ∀ k, ¬ F (n + 1) k) (h2 : ∀ k, ¬ F (n + 2) k) (h3 : ∀ k, ¬ F (n + 3) k) (h8 : ¬ F n 8) : er_CN n m' L := by
  have c1 : m' (n + 1) = m (n + 1) := funext fun q => hk _ _ (h1 q)
  have c2 : m' (n + 2) = m (n + 2) := funext fun q => hk _ _ (h2 q)
  have c3 : m' (n + 3) = m (n + 3) := funext fun q => hk _ _ (h3 q)
  have c8 : m' n 8 = m n 8 := hk _ _ h8
  unfold er_CN at h ⊢
  rw [c1, c2, c3, c8]
  exact h
theorem er_MK.kpF {F : Nat → Int → Prop} {n : Nat} {m m' : er_M} (h : er_MK n m) (hk : er_kp F m m') (h1 : ∀ k, ¬ F (n + 6) k) (h2 : ¬ F n 10) : er_MK n m' := by
  have c1 : m' (n + 6) = m (n + 6) := funext fun q => hk _ _ (h1 q)
  have c2 : m' n 10 = m n 10 := hk _ _ h2
  unfold er_MK at h ⊢
  rw [c1, c2]
  exact h
section ERC
variable {K : er_K} {y : Nat} {m : er_M}
theorem sp_Y_consider {b : er_Bo} {op : Int → Int} {P : List Nat} {l : Int} {p : Nat} {Q : Int → er_M → Prop} (hy : er_isY y) (hv : er_BV b) (hop : ∀ j : Int, 0 ≤ j → j < 36 → op j = 0 ∨ op j = 1)
    (hc : er_CN 52 m (er_NL b op P)) (hf : er_FO (er_NL b op P) (m 56)) (hx : er_exc (er_NL b op P) (m 56) 0 = (P.length : Int)) (hk : er_MK 52 m) (hs : m 52 10 < 1999990000)
    (hPn : (P ++ er_pp b p).Nodup) (hP36 : ∀ q ∈ P ++ er_pp b p, q < 36) (hl : 1 ≤ l ∧ l ≤ 36)
    (hQ1 : er_can b op (P ++ er_pp b p) → ∀ m', er_CN 52 m' (er_NL b op (P ++ er_pp b p)) → er_FO (er_NL b op (P ++ er_pp b p)) (m' 56) → er_exc (er_NL b op (P ++ er_pp b p)) (m' 56) 0 = ((P ++ er_pp b p).length : Int) → er_MK 52 m' → m' 52 10 ≤ m 52 10 + 2 → m 52 10 ≤ m' 52 10 → (∀ j, m' (y + 4) j = er_on b (m (y + 4)) p l j) → (∀ j, m' (y + 2) j = er_on b (m (y + 2)) p l j) → er_kp (er_CF2 y) m m' → Q ((er_pp b p).length : Int) m')
    (hQ0 : ¬ er_can b op (P ++ er_pp b p) → ∀ m', er_CN 52 m' (er_NL b op P) → er_FO (er_NL b op P) (m' 56) → er_exc (er_NL b op P) (m' 56) 0 = (P.length : Int) → er_MK 52 m' → m' 52 10 ≤ m 52 10 + 2 → m 52 10 ≤ m' 52 10 → (∀ j, m' (y + 4) j = m (y + 4) j) → (∀ j, m' (y + 2) j = er_on b (m (y + 2)) p l j) → er_kp (er_CF2 y) m m' → Q 0 m') : er_SI K mi_Y_consider [.inr y, .inl (p : Int), .inl (er_bp b p), .inl l, .inr 52] m Q := by
  have hn52 : er_isN 52 := Or.inr rfl
  have yc := er_isY_c hy
  have hbo := er_BO_of hv hop
  have hp : p < 36 := hP36 p (List.mem_append_right _ (by unfold er_pp; split <;> simp))
  have hPn1 : P.Nodup := (List.nodup_append.mp hPn).1
  have hP1 : ∀ q ∈ P, q < 36 := fun q hq => hP36 q (List.mem_append_left _ hq)
  have hpn : p ∉ P := fun z => (List.nodup_append.mp hPn).2.2 p z p (by unfold er_pp; split <;> simp) rfl
  have hlen := hc.2.1
  -- the wires of the tried pins: t of k are pushed
  have loop : ∀ (pi k : Nat) (q : Int), (pi = 0 ∧ k = 1 ∧ er_bp b p = -1 ∨ pi = 1 ∧ k = 2 ∧ er_bp b p ≠ -1) → (q = er_bp b p) → ∀ (d t : Nat) (m1 : er_M), t + d = k → er_CN 52 m1 (er_NL b op (P ++ er_pp b p)) → er_FO (er_NL b op (P ++ er_pp b p)) (m1 56) → er_exc (er_NL b op (P ++ er_pp b p)) (m1 56) 0 = (P.length : Int) + t → er_MK 52 m1 → m1 52 10 = m 52 10 + t → (∀ j, m1 (y + 4) j = m (y + 4) j) → (∀ j, m1 (y + 2) j = er_on b (m (y + 2)) p l j) → (∀ j : Int, 0 ≤ j → j < 746 → m1 57 j = m 56 j) → er_kp (er_CF2 y) m m1 → wp_Y_consider_65 K y (p : Int) q l (pi : Int) (k : Int) (t : Int) m1 Q := by
    intro pi k q hpk hqe d
    have hppl : (er_pp b p).length = k := by
      unfold er_pp
      rcases hpk with ⟨_, h2, h3⟩ | ⟨_, h2, h3⟩
      · rw [if_pos h3, h2]; rfl
      · rw [if_neg h3, h2]; rfl
    induction d with
    | zero =>
      intro t m1 ht h1 h2 h3 h4 h5 h6 h7 h8 h9
      have hk2 : k ≤ 2 := by rcases hpk with z | z <;> omega
      have hfull : ((P ++ er_pp b p).length : Int) = (P.length : Int) + k := by rw [List.length_append, hppl]; omega
      have hcan := er_NL_full hbo hP36 hPn h2 (by rw [h3, hfull]; omega)
      refine vc_Y_consider_65 hy ⟨⟨by omega, by omega⟩, ⟨by omega, by omega⟩, fun _ => ⟨by omega, by omega, fun m6 e6 => ?_⟩, fun z => by omega⟩
      have k6 : er_kp (er_CF2 y) m1 m6 := by rw [e6]; exact er_kp.st (by unfold er_CF2; omega)
      have n6 : er_kp (fun c _ => c = y + 4) m1 m6 := by rw [e6]; exact er_kp.st rfl
      have fin : ∀ m7, er_kp (fun c _ => c = y + 4) m1 m7 → (∀ j, m7 (y + 4) j = er_on b (m (y + 4)) p l j) → Q (k : Int) m7 := by
        intro m7 k7 hw
        have e56 : m7 56 = m1 56 := funext fun j => k7 _ _ (by omega)
        have := hQ1 hcan m7 (h1.kpF k7 (fun k => by omega) (fun k => by omega) (fun k => by omega) (by omega)) (by rw [e56]; exact h2) (by rw [e56, h3, hfull]; omega) ?_ (by rw [k7 52 10 (by omega)]; omega) (by rw [k7 52 10 (by omega)]; omega) hw (fun j => by rw [k7 _ _ (by omega)]; exact h7 j) (h9.tr (k7.wk (fun c j z => by unfold er_CF2; omega)))
        · rwa [hppl] at this
        · refine ⟨by rw [k7 52 10 (by omega)]; exact h4.1, fun v v0 v1 => ?_⟩
          rw [k7 52 10 (by omega), k7 _ _ (by omega)]
          exact h4.2 v v0 v1
      refine ⟨⟨by omega, by omega⟩, fun hz => fin m6 n6 (fun j => ?_), fun hz => ?_⟩
      · have hone : er_bp b p = -1 := by rcases hpk with z | z <;> omega
        unfold er_on
        rw [if_pos hone, e6]
        by_cases hj : j = (p : Int)
        · rw [hj, er_st_s, er_u_s]
        · rw [er_st_k hj, er_u_n hj]; exact h6 j
      · have hne : er_bp b p ≠ -1 := by rcases hpk with z | z; omega; exact z.2.2
        have hq := hv.2.2.2.2.2.2.2.2.2.2.1 p (by omega) (by omega)
        have hq2 : 0 ≤ q ∧ q < 36 := by rcases hq with z | z <;> omega
        refine ⟨hq2.1, hq2.2, fun m11 e11 => fin m11 (n6.tr (by rw [e11]; exact er_kp.st rfl)) (fun j => ?_)⟩
        unfold er_on
        rw [if_neg hne, e11, e6, ← hqe]
        by_cases hj : j = q
        · rw [hj, er_st_s, er_u_s]
        · rw [er_st_k hj, er_u_n hj]
          by_cases hj2 : j = (p : Int)
          · rw [hj2, er_st_s, er_u_s]
          · rw [er_st_k hj2, er_u_n hj2]; exact h6 j
    | succ d ih =>
      intro t m1 ht h1 h2 h3 h4 h5 h6 h7 h8 h9
      have hk2 : k ≤ 2 := by rcases hpk with z | z <;> omega
      refine vc_Y_consider_65 hy ⟨⟨by omega, by omega⟩, ⟨by omega, by omega⟩, fun z => by omega, fun _ => ?_⟩
      refine sp_N_push hn52 h1 h2 h4 (by omega) (fun m' a ha1 ha2 hsrc k1 k2 k3 k4 k5 => ?_) (fun m' k1 k2 k3 k4 k5 => ?_)
      · obtain ⟨e, e0, e1, ef, er⟩ := hsrc
        have h1r : m1 56 e ≤ 1 := er_NL_one hv h2 e0 e1 ef
        have er' : a ≤ m1 56 e := er
        have ha : a = 1 := by omega
        have k5' : er_exc (er_NL b op (P ++ er_pp b p)) (m' 56) 0 = er_exc (er_NL b op (P ++ er_pp b p)) (m1 56) 0 + a := k5
        refine ⟨⟨by omega, by omega⟩, fun _ => ?_, fun z => by omega⟩
        have := ih (t + 1) m' (by omega) (h1.kp k1) k4 (by rw [k5', h3, ha]; omega) k2 (by rw [k3, h5]; omega) (fun j => by rw [k1 _ _ (by unfold er_NP; omega)]; exact h6 j) (fun j => by rw [k1 _ _ (by unfold er_NP; omega)]; exact h7 j) (fun j j0 j1 => by rw [k1 _ _ (by unfold er_NP; omega)]; exact h8 j j0 j1) (h9.tr (k1.wk (fun c j z => by unfold er_NP at z; unfold er_CF2; omega)))
        exact this
      · refine ⟨by decide, fun z => absurd rfl z, fun _ => ?_⟩
        have e56 : m' 56 = m1 56 := funext fun q => k1 _ _ (by unfold er_NW; omega)
        have hnot : ¬ er_can b op (P ++ er_pp b p) := er_NL_not ⟨h2, k5, h3⟩ (by rw [List.length_append, hppl]; omega)
        refine sp_N_giveFlowBack hn52 ?_
        have k17 : er_kp (er_CF2 y) m1 (er_cpy m' 57 56 746) := (k1.wk (fun c j z => by unfold er_NW at z; unfold er_CF2; omega)).tr (er_kp.cpy (fun _ => by unfold er_CF2; omega))
        have g56 : ∀ j : Int, 0 ≤ j → j < 746 → er_cpy m' 57 56 746 56 j = m 56 j := fun j j0 j1 => by
          rw [er_cpy_in j0 j1, k1 _ _ (by unfold er_NW; omega)]
          exact h8 j j0 j1
        have hfc := er_FO_congr (r2 := er_cpy m' 57 56 746 56) (fun j j0 j1 => (g56 j j0 (by omega)).symm) hf
        have kc : er_kp (er_NP 52) m (er_cpy m' 57 56 746) → True := fun _ => trivial
        have hcn : er_CN 52 (er_cpy m' 57 56 746) (er_NL b op P) := by
          have c1 : er_CN 52 m1 (er_NL b op P) := er_CN_ends (er_srcs_ends (sup := fun q => er_ic (q ∈ P ++ er_pp b p)) (sup' := fun q => er_ic (q ∈ P))) hc.2.2.1 h1
          exact (c1.kp (k1.wk (fun c j z => er_NW_P z))).kp (er_kp.cpy (fun _ => by unfold er_NP; omega))
        refine hQ0 hnot _ hcn hfc.1 (by rw [hfc.2]; exact hx) ⟨by rw [er_cpy_c (by decide)]; exact k2.1, fun v v0 v1 => by rw [er_cpy_c (by decide), er_cpy_c (by decide)]; exact k2.2 v v0 v1⟩ (by rw [er_cpy_c (by decide)]; omega) (by rw [er_cpy_c (by decide)]; omega) (fun j => ?_) (fun j => ?_) (h9.tr k17)
        · rw [er_cpy_c (by omega), k1 _ _ (by unfold er_NW; omega)]; exact h6 j
        · rw [er_cpy_c (by omega), k1 _ _ (by unfold er_NW; omega)]; exact h7 j
  refine vc_Y_consider hy ⟨?_, fun hz => ?_, fun hz => ?_⟩
  · have hq := hv.2.2.2.2.2.2.2.2.2.2.1 p (by omega) (by omega)
    rcases hq with z | z <;> exact ⟨by omega, by omega⟩
  · have hpp1 : er_pp b p = [p] := by unfold er_pp; rw [if_pos hz]
    refine sp_N_keepFlow hn52 ⟨by omega, by omega, fun m6 e6 => sp_N_supply hn52 (by omega) (by omega) ?_⟩
    have n6 : er_kp (fun c _ => c = 57 ∨ c = y + 2) m m6 := by rw [e6]; exact (er_kp.cpy (fun _ => Or.inl rfl)).tr (er_kp.st (Or.inr rfl))
    have e56 : m6 56 = m 56 := funext fun j => n6 _ _ (by omega)
    have cn6 := hc.kpF n6 (fun k => by omega) (fun k => by omega) (fun k => by omega) (by omega)
    obtain ⟨s1, s2, s3⟩ := er_NL_supply (x := (P.length : Int)) cn6 (by rw [e56]; exact hf) (by rw [e56]; exact hx) hp hpn
    have n7 : er_kp (fun c _ => c = 57 ∨ c = y + 2 ∨ c = 56) m (er_st m6 56 (2 * (p : Int)) 1) := (n6.wk (fun c j z => by omega)).tr (er_kp.st (by omega))
    refine vc_Y_consider_50 hy ⟨by decide, fun _ => ?_, fun z => absurd rfl z⟩
    refine loop 0 1 _ (Or.inl ⟨rfl, rfl, hz⟩) rfl 1 0 _ rfl (by rw [hpp1]; exact s1) (by rw [hpp1]; exact s2) (by rw [hpp1]; rw [s3]; omega) (hk.kpF n7 (fun k => by omega) (by omega)) (by rw [n7 52 10 (by omega)]; omega) (fun j => n7 _ _ (by omega)) (fun j => ?_) (fun j j0 j1 => ?_) (n7.wk (fun c j z => by unfold er_CF2; omega))
    · rw [er_st_c (by omega), e6]
      unfold er_on
      rw [if_pos hz]
      by_cases hj : j = (p : Int)
      · rw [hj, er_st_s, er_u_s]
      · rw [er_st_k hj, er_u_n hj, er_cpy_c (by omega)]
    · rw [er_st_c (by omega), e6, er_st_c (by omega), er_cpy_in j0 j1]
  · have hq := hv.2.2.2.2.2.2.2.2.2.2.1 p (by omega) (by omega)
    have hq2 : 0 ≤ er_bp b p ∧ er_bp b p < 36 := by rcases hq with z | z <;> omega
    have hpp2 : er_pp b p = [p, (er_bp b p).toNat] := by unfold er_pp; rw [if_neg hz]
    have hqn : (er_bp b p).toNat ∉ P ++ [p] := by
      rw [hpp2] at hPn
      intro z
      have h1 := List.nodup_append.mp hPn
      rcases List.mem_append.mp z with z | z
      · exact h1.2.2 _ z _ (by simp) rfl
      · have := h1.2.1
        simp at this z
        omega
    refine sp_N_keepFlow hn52 ⟨by omega, by omega, fun m6 e6 => sp_N_supply hn52 (by omega) (by omega) ?_⟩
    have n6 : er_kp (fun c _ => c = 57 ∨ c = y + 2) m m6 := by rw [e6]; exact (er_kp.cpy (fun _ => Or.inl rfl)).tr (er_kp.st (Or.inr rfl))
    have e56 : m6 56 = m 56 := funext fun j => n6 _ _ (by omega)
    have cn6 := hc.kpF n6 (fun k => by omega) (fun k => by omega) (fun k => by omega) (by omega)
    obtain ⟨s1, s2, s3⟩ := er_NL_supply (x := (P.length : Int)) cn6 (by rw [e56]; exact hf) (by rw [e56]; exact hx) hp hpn
    refine ⟨hq2.1, hq2.2, fun m17 e17 => sp_N_supply hn52 hq2.1 hq2.2 ?_⟩
    have n17 : er_kp (fun c _ => c = y + 2) (er_st m6 56 (2 * (p : Int)) 1) m17 := by rw [e17]; exact er_kp.st rfl
    have f56 : m17 56 = er_st m6 56 (2 * (p : Int)) 1 56 := funext fun j => n17 _ _ (by omega)
    have cn17 := s1.kpF n17 (fun k => by omega) (fun k => by omega) (fun k => by omega) (by omega)
    obtain ⟨t1, t2, t3⟩ := er_NL_supply (x := (P.length : Int)) (p := (er_bp b p).toNat) cn17 (by rw [f56]; exact s2) (by rw [f56]; exact s3) (by omega) hqn
    rw [show (2 * (((er_bp b p).toNat : Nat) : Int)) = 2 * er_bp b p by omega, List.append_assoc] at t1 t2 t3
    have hl2 : P ++ ([p] ++ [(er_bp b p).toNat]) = P ++ er_pp b p := by rw [hpp2]; rfl
    rw [hl2] at t1 t2 t3
    have n18 : er_kp (fun c _ => c = 57 ∨ c = y + 2 ∨ c = 56) m (er_st m17 56 (2 * er_bp b p) 1) := (((n6.wk (fun c j z => by omega)).tr (er_kp.st (by omega))).tr (n17.wk (fun c j z => by omega))).tr (er_kp.st (by omega))
    refine vc_Y_consider_50 hy ⟨by decide, fun z => absurd z (by decide), fun _ => ?_⟩
    refine loop 1 2 _ (Or.inr ⟨rfl, rfl, hz⟩) rfl 2 0 _ rfl t1 t2 (by rw [t3]; omega) (hk.kpF n18 (fun k => by omega) (by omega)) (by rw [n18 52 10 (by omega)]; omega) (fun j => n18 _ _ (by omega)) (fun j => ?_) (fun j j0 j1 => ?_) (n18.wk (fun c j z => by unfold er_CF2; omega))
    · rw [er_st_c (by omega), e17]
      unfold er_on
      rw [if_neg hz]
      by_cases hj : j = er_bp b p
      · rw [hj, er_st_s, er_u_s]
      · rw [er_st_k hj, er_u_n hj, er_st_c (by omega), e6]
        by_cases hj2 : j = (p : Int)
        · rw [hj2, er_st_s, er_u_s]
        · rw [er_st_k hj2, er_u_n hj2, er_cpy_c (by omega)]
    · rw [er_st_c (by omega), e17, er_st_c (by omega), er_st_c (by omega), e6, er_st_c (by omega), er_cpy_in j0 j1]
end ERC
