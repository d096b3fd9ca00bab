/-! layerings, without a machine -/
noncomputable def er_if {α : Type} (p : Prop) (a b : α) : α := @ite α p (Classical.propDecidable p) a b
theorem er_if_t {α : Type} {p : Prop} {a b : α} (h : p) : er_if p a b = a := by unfold er_if; rw [if_pos h]
theorem er_if_f {α : Type} {p : Prop} {a b : α} (h : ¬ p) : er_if p a b = b := by unfold er_if; rw [if_neg h]
def er_fN (n : Nat) (f : Nat → List Nat) : List Nat := match n with
  | 0 => []
  | k + 1 => er_fN k f ++ f k
theorem er_fN_mono {f : Nat → List Nat} {a b : Nat} (h : a ≤ b) : (er_fN a f).length ≤ (er_fN b f).length := by
  induction b with
  | zero => rw [show a = 0 by omega]; exact Nat.le_refl _
  | succ b ih =>
    by_cases hb : a = b + 1
    · rw [hb]; exact Nat.le_refl _
    · simp only [er_fN, List.length_append]
      have := ih (by omega)
      omega
theorem er_fN_pre {g : Nat → Nat → List Nat} {R C r c : Nat} (hr : r < R) (hc : c < C) : (er_fN r (fun r => er_fN C (fun c => g r c))).length + (er_fN c (fun c => g r c)).length + (g r c).length ≤ (er_fN R (fun r => er_fN C (fun c => g r c))).length := by
  have h1 : (er_fN (c + 1) (fun c => g r c)).length ≤ (er_fN C (fun c => g r c)).length := er_fN_mono (by omega)
  have h2 : (er_fN (r + 1) (fun r => er_fN C (fun c => g r c))).length ≤ (er_fN R (fun r => er_fN C (fun c => g r c))).length := er_fN_mono (by omega)
  rw [show er_fN (c + 1) (fun c => g r c) = er_fN c (fun c => g r c) ++ g r c from rfl, List.length_append] at h1
  rw [show er_fN (r + 1) (fun r => er_fN C (fun c => g r c)) = er_fN r (fun r => er_fN C (fun c => g r c)) ++ er_fN C (fun c => g r c) from rfl, List.length_append] at h2
  omega
/-- a position's ring -/
def er_ring (R C : Nat) (r c : Int) : Int := min (min r ((R : Int) - 1 - r)) (min c ((C : Int) - 1 - c))
def er_rows (R C : Nat) : List Nat := er_fN R (fun r => er_fN C (fun c => [6 * r + c]))
def er_cols (R C : Nat) : List Nat := er_fN C (fun c => er_fN R (fun r => [6 * r + c]))
def er_rngs (R C : Nat) (i : Int) : List Nat := er_fN R (fun r => er_fN C (fun c => if er_ring R C (r : Int) (c : Int) = i then [6 * r + c] else []))
/-- the places in the order of a strategy -/
def er_seq (R C s : Nat) : List Nat := if s = 0 then er_rows R C else if s = 1 then er_cols R C else er_fN 3 (fun i => er_rngs R C (if s = 2 then (i : Int) else 2 - (i : Int)))
/-- a place's rank in a strategy -/
def er_rank (R C s p : Nat) : Int := if s = 0 then (p : Int) else if s = 1 then 6 * ((p : Int) % 6) + (p : Int) / 6 else if s = 2 then 36 * er_ring R C ((p : Int) / 6) ((p : Int) % 6) + p else 36 * (5 - er_ring R C ((p : Int) / 6) ((p : Int) % 6)) + p
def er_srt (R C s : Nat) : List Nat → Bool
  | [] => true
  | p :: t => t.all (fun q => decide (er_rank R C s p < er_rank R C s q)) && er_srt R C s t
theorem er_srt_nodup {R C s : Nat} : ∀ l : List Nat, er_srt R C s l = true → l.Nodup := by
  intro l
  induction l with
  | nil => intro _; exact List.nodup_nil
  | cons p t ih =>
    intro h
    simp only [er_srt, Bool.and_eq_true, List.all_eq_true, decide_eq_true_eq] at h
    exact List.nodup_cons.mpr ⟨fun z => by have := h.1 p z; omega, ih h.2⟩
def er_seqok (R C s : Nat) : Bool := decide ((er_seq R C s).length ≤ 36) && (er_seq R C s).all (fun p => decide (p / 6 < R ∧ p % 6 < C ∧ p < 36)) && (List.range 36).all (fun p => decide (p / 6 < R → p % 6 < C → p ∈ er_seq R C s)) && er_srt R C s (er_seq R C s)
set_option maxRecDepth 100000 in
theorem er_seq_bool : ∀ R, R < 7 → ∀ C, C < 7 → ∀ s, s < 4 → er_seqok R C s = true := by decide +kernel
theorem er_seq_all (R : Nat) (hR : R < 7) (C : Nat) (hC : C < 7) (s : Nat) (hs : s < 4) : (er_seq R C s).length ≤ 36 ∧ (∀ p ∈ er_seq R C s, p / 6 < R ∧ p % 6 < C ∧ p < 36) ∧ (∀ p, p < 36 → p / 6 < R → p % 6 < C → p ∈ er_seq R C s) ∧ er_srt R C s (er_seq R C s) = true ∧ (er_seq R C s).Nodup := by
  have h := er_seq_bool R hR C hC s hs
  simp only [er_seqok, Bool.and_eq_true, List.all_eq_true, decide_eq_true_eq, List.mem_range] at h
  exact ⟨h.1.1.1, h.1.1.2, h.1.2, h.2, er_srt_nodup _ h.2⟩
def er_u (f : Int → Int) (k v : Int) : Int → Int := fun j => if j = k then v else f j
theorem er_u_s (f : Int → Int) (k v : Int) : er_u f k v k = v := by unfold er_u; rw [if_pos rfl]
theorem er_u_n {f : Int → Int} {k v j : Int} (h : j ≠ k) : er_u f k v j = f j := by unfold er_u; rw [if_neg h]
/-- the pins in P can escape, the open positions being op -/
def er_can (b : er_Bo) (op : Int → Int) (P : List Nat) : Prop := ∀ S : Int → Prop, S 0 → ¬ S 1 → (P.length : Int) ≤ er_cut S (er_LC (er_bR b) (er_bC b) (er_bh b) (er_bt b) (er_bk b) op 1 (fun p => er_ic (p ∈ P)))
/-- a pin and its partner -/
def er_pp (b : er_Bo) (p : Nat) : List Nat := if er_bp b p = -1 then [p] else [p, (er_bp b p).toNat]
/-- a pin that is due: not on a layer, and its partner didn't come before -/
def er_due (b : er_Bo) (seen : List Nat) (f : Int → Int) (p : Nat) : Prop := er_bk b p = 1 ∧ f p = 0 ∧ ¬ (0 ≤ er_bp b p ∧ (er_bp b p).toNat ∈ seen)
def er_on (b : er_Bo) (f : Int → Int) (p : Nat) (l : Int) : Int → Int := if er_bp b p = -1 then er_u f p l else er_u (er_u f p l) (er_bp b p) l
/-- one layer -/
noncomputable def er_put (b : er_Bo) (op : Int → Int) (l : Int) : List Nat → List Nat → (Int → Int) → List Nat → (Int → Int) × List Nat
  | [], _, f, P => (f, P)
  | p :: t, seen, f, P => er_if (er_due b seen f p ∧ er_can b op (P ++ er_pp b p)) (er_put b op l t (seen ++ [p]) (er_on b f p l) (P ++ er_pp b p)) (er_put b op l t (seen ++ [p]) f P)
/-- open on a layer: no pin there, or one on an earlier layer -/
def er_opn (b : er_Bo) (f : Int → Int) : Int → Int := fun j => if er_bk b j = 0 ∨ f j ≠ 0 then 1 else 0
noncomputable def er_lays (b : er_Bo) (seq : List Nat) : Nat → Int → (Int → Int) → Int → (Int → Int) × Int × Int
  | 0, l, f, _ => (f, l - 1, 0)
  | k + 1, l, f, left => if left ≤ 0 then (f, l - 1, 1) else er_if ((er_put b (er_opn b f) l seq [] f []).2 = []) ((er_put b (er_opn b f) l seq [] f []).1, l - 1, 0) (er_lays b seq k (l + 1) (er_put b (er_opn b f) l seq [] f []).1 (left - ((er_put b (er_opn b f) l seq [] f []).2.length : Int)))
noncomputable def er_sig (b : er_Bo) : Int := er_sum 36 (fun p => er_ic (er_bk b (p : Int) = 1))
/-- a layering: each pin's layer (0: none), how many layers, whether it is complete -/
noncomputable def er_lay (b : er_Bo) (s : Nat) : (Int → Int) × Int × Int := er_lays b (er_seq (er_bR b) (er_bC b) s) 37 1 (fun _ => 0) (er_sig b)
/-- pins that are not on a layer -/
noncomputable def er_left (b : er_Bo) (f : Int → Int) : Int := er_sum 36 (fun p => er_ic (er_bk b (p : Int) = 1 ∧ f p = 0))
/-- what holds between layers: partners go together, and pins alone are on layers -/
def er_LI (b : er_Bo) (f : Int → Int) : Prop := (∀ j : Int, 0 ≤ j → j < 36 → er_bp b j ≠ -1 → (f j = 0 ↔ f (er_bp b j) = 0)) ∧ (∀ j : Int, 0 ≤ j → j < 36 → f j ≠ 0 → er_bk b j = 1)
/-- and within a layer -/
def er_PI2 (b : er_Bo) (f0 : Int → Int) (l : Int) (seen : List Nat) (f : Int → Int) (P : List Nat) : Prop :=
  er_LI b f ∧ P.Nodup ∧ (∀ p ∈ P, p < 36 ∧ er_bk b p = 1 ∧ f0 p = 0) ∧ (∀ j : Int, 0 ≤ j → j < 36 → f j = if j.toNat ∈ P then l else f0 j) ∧ (∀ p ∈ P, p ∈ seen ∨ (0 ≤ er_bp b p ∧ (er_bp b p).toNat ∈ seen))
theorem er_PI2_0 {b : er_Bo} {f : Int → Int} {l : Int} (h : er_LI b f) : er_PI2 b f l [] f [] := ⟨h, List.nodup_nil, fun p hp => by simp at hp, fun j _ _ => by simp, fun p hp => by simp at hp⟩
theorem er_pp_mem {b : er_Bo} {p x : Nat} (hv : er_BV b) (hp : p < 36) (h : x ∈ er_pp b p) : (x = p ∨ (er_bp b p ≠ -1 ∧ (x : Int) = er_bp b p)) ∧ x < 36 := by
  unfold er_pp at h
  have h2 := hv.2.2.2.2.2.2.2.2.2.2.1 p (by omega) (by omega)
  split at h
  · simp at h
    exact ⟨Or.inl h, by omega⟩
  · next hne =>
    simp only [List.mem_cons, List.not_mem_nil, or_false] at h
    rcases h with h | h
    · exact ⟨Or.inl h, by omega⟩
    · rcases h2 with z | z
      · exact absurd z hne
      · exact ⟨Or.inr ⟨hne, by omega⟩, by omega⟩
theorem er_PI2_put {b : er_Bo} {f0 f : Int → Int} {l : Int} {seen P : List Nat} {p : Nat} (hv : er_BV b) (h : er_PI2 b f0 l seen f P) (hl : l ≠ 0) (hp : p < 36) (hns : p ∉ seen) (hd : er_due b seen f p) : er_PI2 b f0 l (seen ++ [p]) (er_on b f p l) (P ++ er_pp b p) := by
  obtain ⟨⟨h1, h1'⟩, h2, h3, h4, h5⟩ := h
  obtain ⟨d1, d2, d3⟩ := hd
  have hP := hv.2.2.2.2.2.2.2.2.2.2.1
  have hpp := hP p (by omega) (by omega)
  have hpn : p ∉ P := fun z => by
    have := h4 p (by omega) (by omega)
    rw [show ((p : Int)).toNat = p by omega, if_pos z] at this
    omega
  have hf0p : f0 p = 0 := by
    have := h4 p (by omega) (by omega)
    rw [show ((p : Int)).toNat = p by omega, if_neg hpn] at this
    omega
  -- the partner
  have hq : er_bp b p ≠ -1 → 0 ≤ er_bp b p ∧ er_bp b p < 36 ∧ (er_bp b p).toNat ∉ P ∧ (er_bp b p).toNat ≠ p ∧ er_bk b (er_bp b p) = 1 ∧ f0 (er_bp b p) = 0 ∧ er_bp b (er_bp b p) = p := by
    intro hne
    rcases hpp with z | ⟨z1, z2, z3, z4, z5⟩
    · exact absurd z hne
    · have hfq : f (er_bp b p) = 0 := (h1 p (by omega) (by omega) hne).mp d2
      have hqn : (er_bp b p).toNat ∉ P := fun z => by
        have := h4 (er_bp b p) z1 z2
        rw [if_pos z] at this
        omega
      have hk : er_bk b (er_bp b p) = 1 := by
        rcases hP (er_bp b p) z1 z2 with y | y
        · omega
        · exact y.2.2.2.2
      refine ⟨z1, z2, hqn, by omega, hk, ?_, z3⟩
      have := h4 (er_bp b p) z1 z2
      rw [if_neg hqn] at this
      omega
  have hon : ∀ j : Int, 0 ≤ j → j < 36 → er_on b f p l j = if j.toNat ∈ P ++ er_pp b p then l else f0 j := by
    intro j j0 j1
    have hj := h4 j j0 j1
    unfold er_on er_pp
    by_cases hne : er_bp b p = -1
    · rw [if_pos hne, if_pos hne]
      by_cases hjp : j = p
      · rw [hjp, er_u_s, if_pos (by simp)]
      · rw [er_u_n hjp, hj]
        have : (j.toNat ∈ P ++ [p]) ↔ j.toNat ∈ P := by
          rw [List.mem_append, List.mem_singleton]
          exact ⟨fun z => z.resolve_right (by omega), Or.inl⟩
        simp only [this]
    · rw [if_neg hne, if_neg hne]
      have hqq := hq hne
      by_cases hjq : j = er_bp b p
      · rw [hjq, er_u_s, if_pos (by simp)]
      · rw [er_u_n hjq]
        by_cases hjp : j = p
        · rw [hjp, er_u_s, if_pos (by simp)]
        · rw [er_u_n hjp, hj]
          have : (j.toNat ∈ P ++ [p, (er_bp b p).toNat]) ↔ j.toNat ∈ P := by
            simp only [List.mem_append, List.mem_cons, List.not_mem_nil, or_false]
            exact ⟨fun z => z.resolve_right (fun z => by rcases z with z | z <;> omega), Or.inl⟩
          simp only [this]
  have hnz : ∀ j : Int, 0 ≤ j → j < 36 → (er_on b f p l j = 0 ↔ f j = 0 ∧ j.toNat ∉ er_pp b p) := by
    intro j j0 j1
    rw [hon j j0 j1, h4 j j0 j1]
    by_cases hjP : j.toNat ∈ P
    · rw [if_pos (List.mem_append_left _ hjP), if_pos hjP]
      exact ⟨fun z => absurd z hl, fun z => absurd z.1 hl⟩
    · by_cases hjp : j.toNat ∈ er_pp b p
      · rw [if_pos (List.mem_append_right _ hjp)]
        exact ⟨fun z => absurd z hl, fun z => absurd hjp z.2⟩
      · rw [if_neg (fun z => (List.mem_append.mp z).elim hjP hjp), if_neg hjP]
        exact ⟨fun z => ⟨z, hjp⟩, fun z => z.1⟩
  have hppq : ∀ j : Int, 0 ≤ j → j < 36 → er_bp b j ≠ -1 → (j.toNat ∈ er_pp b p ↔ (er_bp b j).toNat ∈ er_pp b p) := by
    intro j j0 j1 hj
    rcases hP j j0 j1 with z | ⟨z1, z2, z3, z4, z5⟩
    · exact absurd z hj
    · unfold er_pp
      by_cases hne : er_bp b p = -1
      · rw [if_pos hne, List.mem_singleton, List.mem_singleton]
        constructor
        · intro y
          exfalso
          rw [show j = p by omega] at hj
          exact hj hne
        · intro y
          exfalso
          rw [show er_bp b j = p by omega, hne] at z3
          omega
      · rw [if_neg hne]
        have hqq := hq hne
        simp only [List.mem_cons, List.not_mem_nil, or_false]
        constructor
        · intro y
          rcases y with y | y
          · right
            rw [show j = p by omega]
          · left
            rw [show j = er_bp b p by omega, hqq.2.2.2.2.2.2]
            omega
        · intro y
          rcases y with y | y
          · right
            rw [show er_bp b j = p by omega] at z3
            rw [z3]
          · left
            have e2 : er_bp b j = er_bp b p := by omega
            rw [e2, hqq.2.2.2.2.2.2] at z3
            omega
  refine ⟨⟨fun j j0 j1 hj => ?_, fun j j0 j1 hj => ?_⟩, ?_, fun x hx => ?_, hon, fun x hx => ?_⟩
  · rcases hP j j0 j1 with z | ⟨z1, z2, z3, z4, z5⟩
    · exact absurd z hj
    · rw [hnz j j0 j1, hnz (er_bp b j) z1 z2, h1 j j0 j1 hj, hppq j j0 j1 hj]
  · rw [hon j j0 j1] at hj
    by_cases hjP : j.toNat ∈ P ++ er_pp b p
    · rcases List.mem_append.mp hjP with z | z
      · have := (h3 _ z).2.1
        rwa [show ((j.toNat : Nat) : Int) = j by omega] at this
      · rcases (er_pp_mem hv hp z).1 with y | y
        · rw [show j = p by omega]; exact d1
        · rw [show j = er_bp b p by omega]; exact (hq y.1).2.2.2.2.1
    · rw [if_neg hjP] at hj
      refine h1' j j0 j1 ?_
      rw [h4 j j0 j1, if_neg (fun z => hjP (List.mem_append_left _ z))]
      exact hj
  · rw [List.nodup_append]
    refine ⟨h2, ?_, fun x hx y hy hxy => ?_⟩
    · unfold er_pp
      split
      · simp
      · next hne =>
        have := (hq hne).2.2.2.1
        simp
        omega
    · subst hxy
      rcases (er_pp_mem hv hp hy).1 with z | z
      · exact hpn (z ▸ hx)
      · exact (hq z.1).2.2.1 (by rw [show (er_bp b p).toNat = x by omega]; exact hx)
  · rcases List.mem_append.mp hx with z | z
    · exact h3 x z
    · obtain ⟨y, y36⟩ := er_pp_mem hv hp z
      rcases y with y | y
      · subst y; exact ⟨y36, d1, hf0p⟩
      · rw [y.2]; exact ⟨y36, (hq y.1).2.2.2.2.1, (hq y.1).2.2.2.2.2.1⟩
  · rcases List.mem_append.mp hx with z | z
    · rcases h5 x z with y | y
      · exact Or.inl (List.mem_append_left _ y)
      · exact Or.inr ⟨y.1, List.mem_append_left _ y.2⟩
    · rcases (er_pp_mem hv hp z).1 with y | y
      · exact Or.inl (by rw [y]; simp)
      · refine Or.inr ?_
        rw [y.2, (hq y.1).2.2.2.2.2.2]
        exact ⟨by omega, by simp⟩
theorem er_PI2_seen {b : er_Bo} {f0 f : Int → Int} {l : Int} {seen P : List Nat} {p : Nat} (h : er_PI2 b f0 l seen f P) : er_PI2 b f0 l (seen ++ [p]) f P :=
  ⟨h.1, h.2.1, h.2.2.1, h.2.2.2.1, fun x hx => (h.2.2.2.2 x hx).elim (fun z => Or.inl (List.mem_append_left _ z)) (fun z => Or.inr ⟨z.1, List.mem_append_left _ z.2⟩)⟩
/-- through a whole layer -/
theorem er_put_PI {b : er_Bo} {op f0 : Int → Int} {l : Int} (hv : er_BV b) (hl : l ≠ 0) : ∀ (t seen : List Nat) (f : Int → Int) (P : List Nat), (∀ p ∈ t, p < 36) → (seen ++ t).Nodup → er_PI2 b f0 l seen f P → er_PI2 b f0 l (seen ++ t) (er_put b op l t seen f P).1 (er_put b op l t seen f P).2 := by
  intro t
  induction t with
  | nil => intro seen f P _ _ h; rw [List.append_nil]; exact h
  | cons p t ih =>
    intro seen f P h36 hnd h
    have hns : p ∉ seen := fun z => (List.nodup_append.mp hnd).2.2 p z p List.mem_cons_self rfl
    have e : seen ++ p :: t = (seen ++ [p]) ++ t := by simp
    rw [e] at hnd ⊢
    simp only [er_put]
    by_cases hc : er_due b seen f p ∧ er_can b op (P ++ er_pp b p)
    · rw [er_if_t hc]
      exact ih _ _ _ (fun q hq => h36 q (List.mem_cons_of_mem _ hq)) hnd (er_PI2_put hv h hl (h36 p List.mem_cons_self) hns hc.1)
    · rw [er_if_f hc]
      exact ih _ _ _ (fun q hq => h36 q (List.mem_cons_of_mem _ hq)) hnd (er_PI2_seen h)
theorem er_left_put {b : er_Bo} {f0 f : Int → Int} {l : Int} {seen P : List Nat} (h : er_PI2 b f0 l seen f P) (hl : l ≠ 0) : er_left b f = er_left b f0 - (P.length : Int) := by
  have hP36 : ∀ p ∈ P, p < 36 := fun p hp => (h.2.2.1 p hp).1
  have e : (P.length : Int) = er_sum 36 (fun p => er_ic (p ∈ P) * 1) := by
    rw [er_sum_list hP36 h.2.1 (fun _ => 1)]
    clear hP36 h
    induction P with
    | nil => rfl
    | cons q P ih => simp only [List.map_cons, List.sum_cons, List.length_cons, ← ih]; omega
  unfold er_left
  rw [e, ← er_sum_sub]
  refine er_sum_congr (fun p hp => ?_)
  have hj := h.2.2.2.1 (p : Int) (by omega) (by omega)
  rw [show ((p : Int)).toNat = p by omega] at hj
  by_cases hm : p ∈ P
  · rw [if_pos hm] at hj
    have h3 := h.2.2.1 p hm
    rw [er_ic_f (show ¬ (er_bk b (p : Int) = 1 ∧ f (p : Int) = 0) from fun z => hl (by omega)), er_ic_t ⟨h3.2.1, h3.2.2⟩, er_ic_t hm]
    rfl
  · rw [if_neg hm] at hj
    rw [hj, er_ic_f hm]
    omega
