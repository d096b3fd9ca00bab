/-! the class's network: what is asked of it -/
noncomputable def er_nc2 (S : Int → Prop) (t u : er_Ed) : Int := er_ic ((S t.1 ∧ ¬ S t.2.1) ∨ (S u.1 ∧ ¬ S u.2.1))
/-- channels that are cut: two edges each -/
noncomputable def er_ncut (S : Int → Prop) : List er_Ed → Int
  | t :: u :: l => er_nc2 S t u + er_ncut S l
  | _ => 0
/-- a tile's side -/
def er_sd (S : Int → Prop) (t r : Int) : Prop := (¬ S (38 + t) ∧ r = 2) ∨ (S (38 + t) ∧ S (87 + t) ∧ r = 0) ∨ (S (38 + t) ∧ ¬ S (87 + t) ∧ r = 1)
theorem er_g_mid {A B : List er_Ed} {t : er_Ed} : er_g (A ++ t :: B) A.length = t := by
  unfold er_g
  rw [List.getD_eq_getElem?_getD, List.getElem?_append_right (Nat.le_refl _), Nat.sub_self]
  rfl
section ERQ
variable {K : er_K} {n : Nat} {m : er_M} {L : List er_Ed}
theorem sp_N_supply {p w : Int} {Q : er_M → Prop} (hn : er_isN n) (h0 : 0 ≤ p) (h1 : p < 36) (hQ : Q (er_st m (n + 4) (2 * p) w)) : er_SV K mi_N_supply [.inr n, .inl p, .inl w] m Q :=
  vc_N_supply hn ⟨by omega, by omega, fun m3 e3 => by rw [e3]; exact hQ⟩
theorem sp_N_keepFlow {Q : er_M → Prop} (hn : er_isN n) (hQ : Q (er_cpy m (n + 4) (n + 5) 746)) : er_SV K mi_N_keepFlow [.inr n] m Q := vc_N_keepFlow hn (fun m1 e1 => by rw [e1]; exact hQ)
theorem sp_N_giveFlowBack {Q : er_M → Prop} (hn : er_isN n) (hQ : Q (er_cpy m (n + 5) (n + 4) 746)) : er_SV K mi_N_giveFlowBack [.inr n] m Q := vc_N_giveFlowBack hn (fun m1 e1 => by rw [e1]; exact hQ)
theorem sp_N_isNear {v : Int} {Q : Int → er_M → Prop} (hn : er_isN n) (hk : er_MK n m) (hs : m n 10 < 2000000000) (h0 : 0 ≤ v) (h1 : v < 136) (hQ : ∀ r, (er_mk n m v ∧ r = 1 ∨ ¬ er_mk n m v ∧ r = 0) → Q r m) : er_SI K mi_N_isNear [.inr n, .inl v] m Q := by
  have hm := hk.2 v h0 h1
  have h10 := hk.1
  exact vc_N_isNear hn ⟨h0, h1, ⟨by omega, by omega⟩, ⟨by omega, by omega⟩, fun z => hQ 0 (Or.inr ⟨z, rfl⟩), fun z => hQ 1 (Or.inl ⟨z, rfl⟩)⟩
theorem sp_N_sideOf {t : Int} {Q : Int → er_M → Prop} (hn : er_isN n) (hk : er_MK n m) (hs : m n 10 < 2000000000) (h0 : 0 ≤ t) (h1 : t < 49) (hQ : ∀ r, er_sd (er_mk n m) t r → Q r m) : er_SI K mi_N_sideOf [.inr n, .inl t] m Q := by
  refine vc_N_sideOf hn (sp_N_isNear hn hk hs (by omega) (by omega) (fun r hr => ?_))
  refine ⟨⟨by omega, by omega⟩, fun hne => ?_, fun he => hQ 2 (Or.inl ⟨fun z => by rcases hr with h | h; omega; exact h.1 z, rfl⟩)⟩
  have h38 : er_mk n m (38 + t) := by rcases hr with h | h; exact h.1; omega
  refine sp_N_isNear hn hk hs (by omega) (by omega) (fun r2 hr2 => ?_)
  exact ⟨⟨by omega, by omega⟩, fun he => hQ 1 (Or.inr (Or.inr ⟨h38, fun z => by rcases hr2 with h | h; omega; exact h.1 z, rfl⟩)), fun hne2 => hQ 0 (Or.inr (Or.inl ⟨h38, by rcases hr2 with h | h; exact h.1; omega, rfl⟩))⟩
theorem sp_N_leaves {e : Int} {Q : Int → er_M → Prop} (hn : er_isN n) (h : er_CN n m L) (hk : er_MK n m) (hs : m n 10 < 2000000000) (h0 : 0 ≤ e) (h1 : e < 2 * (L.length : Int)) (hQ : ∀ r, r = er_ic (er_mk n m (er_fr L e) ∧ ¬ er_mk n m (er_to L e)) → Q r m) : er_SI K mi_N_leavesNearSide [.inr n, .inl e] m Q := by
  obtain ⟨c1, c2, c3, c4, c5⟩ := h
  obtain ⟨p0, p1⟩ := er_px_in h0 h1
  obtain ⟨f1, f2, f3, f4⟩ := er_fr_bd c3 h0 h1
  refine vc_N_leavesNearSide hn ?_
  have hp : e + 1 - 2 * (e % 2) = er_px e := rfl
  rw [hp]
  refine ⟨h0, by omega, p0, by omega, ?_⟩
  rw [c4 _ p0 p1, er_to_px]
  refine sp_N_isNear hn hk hs f1 f2 (fun r hr => ?_)
  refine ⟨⟨by omega, by omega⟩, fun he => hQ 0 (er_ic_f (fun z => by rcases hr with h | h; omega; exact h.1 z.1)).symm, fun hne => ⟨h0, by omega, ?_⟩⟩
  have hfr : er_mk n m (er_fr L e) := by rcases hr with h | h; exact h.1; omega
  rw [c4 _ h0 h1]
  refine sp_N_isNear hn hk hs f3 f4 (fun r2 hr2 => ?_)
  exact ⟨⟨by omega, by omega⟩, fun hne2 => hQ 0 (er_ic_f (fun z => by rcases hr2 with h | h; exact z.2 h.1; omega)).symm, fun he => hQ 1 (er_ic_t ⟨hfr, fun z => by rcases hr2 with h | h; omega; exact h.1 z⟩).symm⟩
theorem sp_N_countCut {A X : List er_Ed} {k : Nat} {Q : Int → er_M → Prop} (hn : er_isN n) (h : er_CN n m (A ++ X)) (hk : er_MK n m) (hs : m n 10 < 2000000000) (h9 : m n 9 = 2 * (A.length : Int)) (hX : X.length = 2 * k) (hQ : ∀ r, r = er_ncut (er_mk n m) X → Q r m) : er_SI K mi_N_countCutChannels [.inr n] m Q := by
  have hlen := h.2.1
  have h8 := h.1
  have loop : ∀ (d : Nat) (A1 X1 : List er_Ed) (x : Int), X1.length = 2 * d → A ++ X = A1 ++ X1 → 0 ≤ x → x + d ≤ 400 → x + er_ncut (er_mk n m) X1 = er_ncut (er_mk n m) X → wp_N_countCutChannels_7 K n x (2 * (A1.length : Int)) m Q := by
    intro d
    induction d with
    | zero =>
      intro A1 X1 x hd he h0 hx hc
      have hX1 : X1 = [] := List.length_eq_zero_iff.mp (by omega)
      subst hX1
      rw [List.append_nil] at he
      rw [he] at h8 hlen
      refine vc_N_countCutChannels_7 hn ⟨⟨by omega, by omega⟩, ⟨by omega, by omega⟩, fun _ => hQ x ?_, fun hlt => by omega⟩
      rw [show er_ncut (er_mk n m) [] = 0 from rfl] at hc
      omega
    | succ d ih =>
      intro A1 X1 x hd he h0 hx hc
      obtain ⟨t, u, X2, rfl⟩ : ∃ t u X2, X1 = t :: u :: X2 := by
        match X1, hd with
        | t :: u :: X2, _ => exact ⟨t, u, X2, rfl⟩
        | [t], hd => simp at hd; omega
        | [], hd => simp at hd
      have hl2 : (A ++ X).length = A1.length + (X2.length + 2) := by rw [he]; simp
      have g1 : er_g (A ++ X) A1.length = t := by rw [he]; exact er_g_mid
      have g2 : er_g (A ++ X) (A1.length + 1) = u := by
        have := er_g_mid (A := A1 ++ [t]) (t := u) (B := X2)
        rw [List.append_assoc] at this
        rw [he]
        simpa using this
      have f1 : er_fr (A ++ X) (2 * (A1.length : Int)) = t.1 ∧ er_to (A ++ X) (2 * (A1.length : Int)) = t.2.1 := by
        unfold er_fr er_to
        rw [if_pos (by omega), if_pos (by omega), show ((2 * (A1.length : Int)) / 2).toNat = A1.length by omega, g1]
        exact ⟨rfl, rfl⟩
      have f2 : er_fr (A ++ X) (2 * (A1.length : Int) + 2) = u.1 ∧ er_to (A ++ X) (2 * (A1.length : Int) + 2) = u.2.1 := by
        unfold er_fr er_to
        rw [if_pos (by omega), if_pos (by omega), show ((2 * (A1.length : Int) + 2) / 2).toNat = A1.length + 1 by omega, g2]
        exact ⟨rfl, rfl⟩
      have next : ∀ y : Int, y = x + er_nc2 (er_mk n m) t u → wp_N_countCutChannels_7 K n y (2 * (A1.length : Int) + 4) m Q := by
        intro y hy
        have hn2 : er_nc2 (er_mk n m) t u = 0 ∨ er_nc2 (er_mk n m) t u = 1 := er_ic_01 _
        have := ih (A1 ++ [t, u]) X2 y (by simp at hd; omega) (by rw [he]; simp) (by omega) (by omega) (by rw [← hc, hy]; simp only [er_ncut]; omega)
        rw [show (2 * ((A1 ++ [t, u]).length : Int)) = 2 * (A1.length : Int) + 4 by simp; omega] at this
        exact this
      refine vc_N_countCutChannels_7 hn ⟨⟨by omega, by omega⟩, ⟨by omega, by omega⟩, fun hle => by omega, fun hlt => ?_⟩
      refine sp_N_leaves hn h hk hs (by omega) (by omega) (fun r hr => ?_)
      rw [f1.1, f1.2] at hr
      have hr01 : r = 0 ∨ r = 1 := by rw [hr]; exact er_ic_01 _
      refine ⟨⟨by omega, by omega⟩, fun hne => next (x + 1) ?_, fun he0 => ?_⟩
      · have : er_mk n m t.1 ∧ ¬ er_mk n m t.2.1 := Classical.byContradiction (fun z => hne (by rw [hr]; exact er_ic_f z))
        unfold er_nc2
        rw [er_ic_t (Or.inl this)]
      · have hnot : ¬ (er_mk n m t.1 ∧ ¬ er_mk n m t.2.1) := fun z => by rw [hr, er_ic_t z] at he0; omega
        refine sp_N_leaves hn h hk hs (by omega) (by omega) (fun r2 hr2 => ?_)
        rw [f2.1, f2.2] at hr2
        refine ⟨?_, fun hz => next x ?_, fun hne2 => next (x + 1) ?_⟩
        · rcases er_ic_01 (er_mk n m u.1 ∧ ¬ er_mk n m u.2.1) with z | z <;> rw [z] at hr2 <;> exact ⟨by omega, by omega⟩
        · have hnot2 : ¬ (er_mk n m u.1 ∧ ¬ er_mk n m u.2.1) := fun z => by rw [hr2, er_ic_t z] at hz; omega
          unfold er_nc2
          rw [er_ic_f (fun z => z.elim hnot hnot2)]
          omega
        · have : er_mk n m u.1 ∧ ¬ er_mk n m u.2.1 := Classical.byContradiction (fun z => hne2 (by rw [hr2]; exact er_ic_f z))
          unfold er_nc2
          rw [er_ic_t (Or.inr this)]
  refine vc_N_countCutChannels hn ?_
  rw [h9]
  refine loop k A X 0 hX rfl (by omega) ?_ (by omega)
  rw [List.length_append] at hlen
  omega
end ERQ
