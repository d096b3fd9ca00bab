/-! sums, cuts, flows: no machine here -/
def er_sum : Nat → (Nat → Int) → Int
  | 0, _ => 0
  | n + 1, g => er_sum n g + g n
theorem er_sum_congr {n : Nat} {f g : Nat → Int} (h : ∀ i, i < n → f i = g i) : er_sum n f = er_sum n g := by
  induction n with
  | zero => rfl
  | succ n ih => simp only [er_sum]; rw [ih (fun i hi => h i (by omega)), h n (by omega)]
theorem er_sum_add {n : Nat} {f g : Nat → Int} : er_sum n (fun i => f i + g i) = er_sum n f + er_sum n g := by
  induction n with
  | zero => rfl
  | succ n ih => simp only [er_sum]; rw [ih]; omega
theorem er_sum_sub {n : Nat} {f g : Nat → Int} : er_sum n (fun i => f i - g i) = er_sum n f - er_sum n g := by
  induction n with
  | zero => rfl
  | succ n ih => simp only [er_sum]; rw [ih]; omega
theorem er_sum_mul {n : Nat} {f : Nat → Int} (c : Int) : er_sum n (fun i => c * f i) = c * er_sum n f := by
  induction n with
  | zero => simp [er_sum]
  | succ n ih => simp only [er_sum]; rw [ih, Int.mul_add]
theorem er_sum_zero {n : Nat} {f : Nat → Int} (h : ∀ i, i < n → f i = 0) : er_sum n f = 0 := by
  induction n with
  | zero => rfl
  | succ n ih => simp only [er_sum]; rw [ih (fun i hi => h i (by omega)), h n (by omega)]; rfl
theorem er_sum_le {n : Nat} {f g : Nat → Int} (h : ∀ i, i < n → f i ≤ g i) : er_sum n f ≤ er_sum n g := by
  induction n with
  | zero => exact Int.le_refl _
  | succ n ih => simp only [er_sum]; have := ih (fun i hi => h i (by omega)); have := h n (by omega); omega
theorem er_sum_nonneg {n : Nat} {f : Nat → Int} (h : ∀ i, i < n → 0 ≤ f i) : 0 ≤ er_sum n f := by
  have := er_sum_le (n := n) (f := fun _ => 0) (g := f) h
  rwa [er_sum_zero (fun _ _ => rfl)] at this
theorem er_sum_comm {n k : Nat} {f : Nat → Nat → Int} : er_sum n (fun i => er_sum k (fun j => f i j)) = er_sum k (fun j => er_sum n (fun i => f i j)) := by
  induction n with
  | zero => simp only [er_sum]; exact (er_sum_zero (fun _ _ => rfl)).symm
  | succ n ih => simp only [er_sum]; rw [ih, ← er_sum_add]
theorem er_sum_one {n k : Nat} {f g : Nat → Int} (hk : k < n) (h : ∀ i, i < n → i ≠ k → f i = g i) : er_sum n f = er_sum n g + (f k - g k) := by
  induction n with
  | zero => omega
  | succ n ih =>
    simp only [er_sum]
    by_cases hn : k = n
    · subst hn
      rw [er_sum_congr (g := g) (fun i hi => h i (by omega) (by omega))]
      omega
    · rw [ih (by omega) (fun i hi hk => h i (by omega) hk), h n (by omega) (by omega)]
      omega
theorem er_sum_eq_le {n : Nat} {f g : Nat → Int} (h : ∀ i, i < n → f i ≤ g i) (e : er_sum n f = er_sum n g) : ∀ i, i < n → f i = g i := by
  induction n with
  | zero => intro i hi; omega
  | succ n ih =>
    simp only [er_sum] at e
    have h1 := er_sum_le (n := n) (fun i hi => h i (by omega))
    have h2 := h n (by omega)
    intro i hi
    by_cases hn : i = n
    · subst hn; omega
    · exact ih (fun i hi => h i (by omega)) (by omega) i (by omega)
/-- 1 where p holds, else 0 -/
noncomputable def er_ic (p : Prop) : Int := @ite Int p (Classical.propDecidable p) 1 0
theorem er_ic_t {p : Prop} (h : p) : er_ic p = 1 := by unfold er_ic; rw [if_pos h]
theorem er_ic_f {p : Prop} (h : ¬ p) : er_ic p = 0 := by unfold er_ic; rw [if_neg h]
theorem er_ic_01 (p : Prop) : er_ic p = 0 ∨ er_ic p = 1 := by
  by_cases h : p
  · exact Or.inr (er_ic_t h)
  · exact Or.inl (er_ic_f h)
theorem er_ic_nn (p : Prop) : 0 ≤ er_ic p := by rcases er_ic_01 p with h | h <;> omega
theorem er_ic_iff {p q : Prop} (h : p ↔ q) : er_ic p = er_ic q := by rw [propext h]
def er_dl (x v : Int) : Int := if x = v then 1 else 0
theorem er_dl_t (x : Int) : er_dl x x = 1 := by unfold er_dl; rw [if_pos rfl]
theorem er_dl_f {x v : Int} (h : x ≠ v) : er_dl x v = 0 := by unfold er_dl; rw [if_neg h]
theorem er_sum_dl {n : Nat} {g : Nat → Int} {a : Int} (h0 : 0 ≤ a) (h1 : a < n) : er_sum n (fun v => g v * er_dl a v) = g a.toNat := by
  have hk : a.toNat < n := by omega
  rw [er_sum_one (g := fun _ => 0) hk (fun i _ hi => by rw [er_dl_f (by omega)]; simp), er_sum_zero (fun _ _ => rfl)]
  have : er_dl a (a.toNat : Int) = 1 := by rw [show (a.toNat : Int) = a by omega]; exact er_dl_t a
  rw [this]
  omega
/-- an edge: from, to, capacity; edge 2i of the network and its reverse 2i+1 are the i-th of the list -/
abbrev er_Ed : Type := Int × Int × Int
def er_g (L : List er_Ed) (i : Nat) : er_Ed := L.getD i (0, 0, 0)
theorem er_g_app1 {L M : List er_Ed} {i : Nat} (h : i < L.length) : er_g (L ++ M) i = er_g L i := by
  unfold er_g
  rw [List.getD_eq_getElem?_getD, List.getD_eq_getElem?_getD, List.getElem?_append_left h]
theorem er_g_app2 {L : List er_Ed} {t : er_Ed} : er_g (L ++ [t]) L.length = t := by
  unfold er_g
  rw [List.getD_eq_getElem?_getD, List.getElem?_append_right (Nat.le_refl _), Nat.sub_self]
  rfl
/-- the capacity of what leaves S -/
noncomputable def er_cut (S : Int → Prop) : List er_Ed → Int
  | [] => 0
  | t :: l => t.2.2 * er_ic (S t.1 ∧ ¬ S t.2.1) + er_cut S l
theorem er_cut_app (S : Int → Prop) (L M : List er_Ed) : er_cut S (L ++ M) = er_cut S L + er_cut S M := by
  induction L with
  | nil => simp [er_cut]
  | cons t l ih => simp only [List.cons_append, er_cut]; rw [ih]; omega
theorem er_sum_shift {n : Nat} {f : Nat → Int} : er_sum (n + 1) f = f 0 + er_sum n (fun i => f (i + 1)) := by
  induction n with
  | zero => simp [er_sum]
  | succ n ih =>
    rw [show er_sum (n + 1 + 1) f = er_sum (n + 1) f + f (n + 1) from rfl, ih]
    simp only [er_sum]
    omega
theorem er_cut_sum (S : Int → Prop) (L : List er_Ed) : er_cut S L = er_sum L.length (fun i => (er_g L i).2.2 * er_ic (S (er_g L i).1 ∧ ¬ S (er_g L i).2.1)) := by
  induction L with
  | nil => rfl
  | cons t l ih =>
    rw [List.length_cons, er_sum_shift]
    simp only [er_cut]
    rw [ih]
    rfl
/-- what flows out of v beyond what flows in; the flow on the i-th edge is the room of its reverse -/
def er_exc (L : List er_Ed) (rm : Int → Int) (v : Int) : Int := er_sum L.length (fun i => rm (2 * (i : Int) + 1) * (er_dl (er_g L i).1 v - er_dl (er_g L i).2.1 v))
/-- rooms of a flow from 0 to 1 -/
def er_FO (L : List er_Ed) (rm : Int → Int) : Prop := (∀ i : Nat, i < L.length → 0 ≤ rm (2 * (i : Int)) ∧ 0 ≤ rm (2 * (i : Int) + 1) ∧ rm (2 * (i : Int)) + rm (2 * (i : Int) + 1) = (er_g L i).2.2 ∧ 0 ≤ (er_g L i).1 ∧ (er_g L i).1 < 136 ∧ 0 ≤ (er_g L i).2.1 ∧ (er_g L i).2.1 < 136) ∧ ∀ v : Int, v ≠ 0 → v ≠ 1 → er_exc L rm v = 0
theorem er_across {L : List er_Ed} {rm : Int → Int} (h : er_FO L rm) {S : Int → Prop} (h0 : S 0) (h1 : ¬ S 1) : er_exc L rm 0 = er_sum L.length (fun i => rm (2 * (i : Int) + 1) * (er_ic (S (er_g L i).1) - er_ic (S (er_g L i).2.1))) := by
  have e1 : er_sum 136 (fun v => er_ic (S (v : Int)) * er_exc L rm (v : Int)) = er_exc L rm 0 := by
    rw [er_sum_one (k := 0) (g := fun _ => 0) (by omega) (fun i _ hi => ?_), er_sum_zero (fun _ _ => rfl)]
    · rw [show er_ic (S ((0 : Nat) : Int)) = 1 from er_ic_t h0]
      simp
    · by_cases hi1 : i = 1
      · subst hi1
        rw [show er_ic (S ((1 : Nat) : Int)) = 0 from er_ic_f h1]
        simp
      · rw [h.2 (i : Int) (by omega) (by omega)]
        simp
  rw [← e1]
  unfold er_exc
  have e2 : er_sum 136 (fun v => er_ic (S (v : Int)) * er_sum L.length (fun i => rm (2 * (i : Int) + 1) * (er_dl (er_g L i).1 v - er_dl (er_g L i).2.1 v))) = er_sum 136 (fun v => er_sum L.length (fun i => rm (2 * (i : Int) + 1) * (er_ic (S (v : Int)) * er_dl (er_g L i).1 v - er_ic (S (v : Int)) * er_dl (er_g L i).2.1 v))) := by
    apply er_sum_congr
    intro v _
    rw [← er_sum_mul]
    apply er_sum_congr
    intro i _
    rw [← Int.mul_sub, ← Int.mul_assoc, ← Int.mul_assoc, Int.mul_comm (er_ic _)]
  rw [e2, er_sum_comm]
  apply er_sum_congr
  intro i hi
  obtain ⟨-, -, -, g1, g2, g3, g4⟩ := h.1 i hi
  rw [er_sum_mul, er_sum_sub, er_sum_dl (g := fun v => er_ic (S (v : Int))) g1 g2, er_sum_dl (g := fun v => er_ic (S (v : Int))) g3 g4]
  rw [show (((er_g L i).1.toNat : Nat) : Int) = (er_g L i).1 by omega, show (((er_g L i).2.1.toNat : Nat) : Int) = (er_g L i).2.1 by omega]
theorem er_term {f c a0 b0 : Int} {p q : Prop} (h0 : 0 ≤ a0) (h1 : 0 ≤ b0) (h : a0 + b0 = c) (e : f = b0) : f * (er_ic p - er_ic q) ≤ c * er_ic (p ∧ ¬ q) ∧ (f * (er_ic p - er_ic q) = c * er_ic (p ∧ ¬ q) ↔ (p → ¬ q → a0 = 0) ∧ (q → ¬ p → b0 = 0)) := by
  subst e
  by_cases hp : p <;> by_cases hq : q
  · rw [er_ic_t hp, er_ic_t hq, er_ic_f (fun z => z.2 hq)]
    exact ⟨by omega, by constructor <;> intro _ <;> first | exact ⟨fun _ z => absurd hq z, fun _ z => absurd hp z⟩ | omega⟩
  · rw [er_ic_t hp, er_ic_f hq, er_ic_t ⟨hp, hq⟩]
    refine ⟨by omega, ⟨fun z => ⟨fun _ _ => by omega, fun z => absurd z hq⟩, fun z => by have := z.1 hp hq; omega⟩⟩
  · rw [er_ic_f hp, er_ic_t hq, er_ic_f (fun z => hp z.1)]
    refine ⟨by omega, ⟨fun z => ⟨fun z => absurd z hp, fun _ _ => by omega⟩, fun z => by have := z.2 hq hp; omega⟩⟩
  · rw [er_ic_f hp, er_ic_f hq, er_ic_f (fun z => hp z.1)]
    exact ⟨by omega, by constructor <;> intro _ <;> first | exact ⟨fun z => absurd z hp, fun z => absurd z hq⟩ | omega⟩
/-- S is closed under the edges that have room -/
def er_clo (L : List er_Ed) (rm : Int → Int) (S : Int → Prop) : Prop := ∀ i : Nat, i < L.length → (0 < rm (2 * (i : Int)) → S (er_g L i).1 → S (er_g L i).2.1) ∧ (0 < rm (2 * (i : Int) + 1) → S (er_g L i).2.1 → S (er_g L i).1)
/-- reached from the source by edges that have room -/
def er_near (L : List er_Ed) (rm : Int → Int) (v : Int) : Prop := ∀ S : Int → Prop, S 0 → er_clo L rm S → S v
theorem er_near_0 (L : List er_Ed) (rm : Int → Int) : er_near L rm 0 := fun _ h _ => h
theorem er_near_clo (L : List er_Ed) (rm : Int → Int) : er_clo L rm (er_near L rm) := fun i hi => ⟨fun h g S h0 hc => (hc i hi).1 h (g S h0 hc), fun h g S h0 hc => (hc i hi).2 h (g S h0 hc)⟩
theorem er_weak {L : List er_Ed} {rm : Int → Int} (h : er_FO L rm) {S : Int → Prop} (h0 : S 0) (h1 : ¬ S 1) : er_exc L rm 0 ≤ er_cut S L := by
  rw [er_across h h0 h1, er_cut_sum]
  refine er_sum_le (fun i hi => ?_)
  obtain ⟨g0, g1, g2, -⟩ := h.1 i hi
  exact (er_term g0 g1 g2 rfl).1
theorem er_tight {L : List er_Ed} {rm : Int → Int} (h : er_FO L rm) {S : Int → Prop} (h0 : S 0) (h1 : ¬ S 1) : er_exc L rm 0 = er_cut S L ↔ er_clo L rm S := by
  rw [er_across h h0 h1, er_cut_sum]
  constructor
  · intro e i hi
    have hle : ∀ i, i < L.length → _ := fun i hi => (er_term (p := S (er_g L i).1) (q := S (er_g L i).2.1) (h.1 i hi).1 (h.1 i hi).2.1 (h.1 i hi).2.2.1 rfl).1
    have h2 := er_sum_eq_le hle e i hi
    have h3 := (er_term (p := S (er_g L i).1) (q := S (er_g L i).2.1) (h.1 i hi).1 (h.1 i hi).2.1 (h.1 i hi).2.2.1 rfl).2.mp h2
    refine ⟨fun hr hs => Classical.byContradiction (fun hn => ?_), fun hr hs => Classical.byContradiction (fun hn => ?_)⟩
    · have := h3.1 hs hn; omega
    · have := h3.2 hs hn; omega
  · intro hc
    refine er_sum_congr (fun i hi => ?_)
    obtain ⟨g0, g1, g2, -⟩ := h.1 i hi
    refine (er_term g0 g1 g2 rfl).2.mpr ⟨fun hp hq => ?_, fun hq hp => ?_⟩
    · exact Classical.byContradiction (fun z => hq ((hc i hi).1 (by omega) hp))
    · exact Classical.byContradiction (fun z => hp ((hc i hi).2 (by omega) hq))
/-- a greatest flow's value -/
def er_max (L : List er_Ed) (rm : Int → Int) (x : Int) : Prop := er_FO L rm ∧ ¬ er_near L rm 1 ∧ er_exc L rm 0 = x
theorem er_max_cut {L : List er_Ed} {rm : Int → Int} {x : Int} (h : er_max L rm x) : x = er_cut (er_near L rm) L := by
  obtain ⟨h1, h2, rfl⟩ := h
  exact (er_tight h1 (er_near_0 _ _) h2).mpr (er_near_clo _ _)
/-- two networks: same greatest value, same near side -/
theorem er_same {L1 L2 : List er_Ed} {r1 r2 : Int → Int} {x1 x2 : Int} (h1 : er_max L1 r1 x1) (h2 : er_max L2 r2 x2) (c1 : er_cut (er_near L1 r1) L2 ≤ er_cut (er_near L1 r1) L1) (c2 : er_cut (er_near L2 r2) L1 ≤ er_cut (er_near L2 r2) L2) : x1 = x2 ∧ ∀ v, er_near L1 r1 v ↔ er_near L2 r2 v := by
  have e1 := er_max_cut h1
  have e2 := er_max_cut h2
  have w1 := er_weak h1.1 (er_near_0 L2 r2) h2.2.1
  have w2 := er_weak h2.1 (er_near_0 L1 r1) h1.2.1
  have v1 := h1.2.2
  have v2 := h2.2.2
  have k1 := (er_tight h1.1 (er_near_0 L2 r2) h2.2.1).mp (by omega)
  have k2 := (er_tight h2.1 (er_near_0 L1 r1) h1.2.1).mp (by omega)
  exact ⟨by omega, fun v => ⟨fun z => z _ (er_near_0 _ _) k1, fun z => z _ (er_near_0 _ _) k2⟩⟩
/-- the reverse of an edge -/
def er_px (e : Int) : Int := e + 1 - 2 * (e % 2)
/-- an edge's ends -/
def er_fr (L : List er_Ed) (e : Int) : Int := if e % 2 = 0 then (er_g L (e / 2).toNat).1 else (er_g L (e / 2).toNat).2.1
def er_to (L : List er_Ed) (e : Int) : Int := if e % 2 = 0 then (er_g L (e / 2).toNat).2.1 else (er_g L (e / 2).toNat).1
/-- d more along e -/
def er_up (rm : Int → Int) (e d : Int) : Int → Int := fun k => if k = e then rm e - d else if k = er_px e then rm (er_px e) + d else rm k
theorem er_exc_up {L : List er_Ed} {rm : Int → Int} {e d : Int} (h0 : 0 ≤ e) (h1 : e < 2 * L.length) (v : Int) : er_exc L (er_up rm e d) v = er_exc L rm v + d * (er_dl (er_fr L e) v - er_dl (er_to L e) v) := by
  have hk : (e / 2).toNat < L.length := by omega
  unfold er_exc
  rw [er_sum_one (k := (e / 2).toNat) (g := fun i => rm (2 * (i : Int) + 1) * (er_dl (er_g L i).1 v - er_dl (er_g L i).2.1 v)) hk (fun i _ hi => ?_)]
  · have hc : (((e / 2).toNat : Nat) : Int) = e / 2 := by omega
    rw [hc]
    rcases (by omega : e % 2 = 0 ∨ e % 2 = 1) with hp | hp
    · have e1 : er_up rm e d (2 * (e / 2) + 1) = rm (2 * (e / 2) + 1) + d := by
        unfold er_up er_px
        rw [if_neg (by omega), if_pos (by omega)]
        congr 2
        omega
      rw [e1]
      unfold er_fr er_to
      rw [if_pos hp, if_pos hp, Int.add_mul]
      omega
    · have e1 : er_up rm e d (2 * (e / 2) + 1) = rm (2 * (e / 2) + 1) - d := by
        unfold er_up
        rw [if_pos (by omega)]
        congr 2
        omega
      rw [e1]
      unfold er_fr er_to
      rw [if_neg (by omega), if_neg (by omega), Int.sub_mul, Int.mul_sub, Int.mul_sub, Int.mul_sub]
      omega
  · have e1 : er_up rm e d (2 * (i : Int) + 1) = rm (2 * (i : Int) + 1) := by
      unfold er_up er_px
      rw [if_neg (by omega), if_neg (by omega)]
    rw [e1]
theorem er_exc_same {L : List er_Ed} {r1 r2 : Int → Int} (h : ∀ i : Nat, i < L.length → r1 (2 * (i : Int) + 1) = r2 (2 * (i : Int) + 1)) (v : Int) : er_exc L r1 v = er_exc L r2 v := by
  unfold er_exc
  exact er_sum_congr (fun i hi => by rw [h i hi])
