/-! the fixed shape: printed by wip/whole/gen12.py -/
def er_SH : er_Sh := [(5 + 5, 10, [some 2, some 6, some 40, some 43, some 52, some 61, some 82, none, none, none]), (0 + 5, 7, [none, none, none, none, some 3, some 4, some 5]), (0, 36, []), (0, 36, []), (1, 36, []), (3 + 5, 2, [some 7, none]), (3, 8, []), (0 + 5, 7, [none, none, none, none, some 9, some 10, some 11]), (0, 36, []), (0, 36, []), (1, 36, []), (0 + 5, 7, [none, none, none, none, some 13, some 14, some 15]), (0, 36, []), (0, 36, []), (1, 36, []), (0 + 5, 7, [none, none, none, none, some 17, some 18, some 19]), (0, 36, []), (0, 36, []), (1, 36, []), (0 + 5, 7, [none, none, none, none, some 21, some 22, some 23]), (0, 36, []), (0, 36, []), (1, 36, []), (0 + 5, 7, [none, none, none, none, some 25, some 26, some 27]), (0, 36, []), (0, 36, []), (1, 36, []), (0 + 5, 7, [none, none, none, none, some 29, some 30, some 31]), (0, 36, []), (0, 36, []), (1, 36, []), (0 + 5, 7, [none, none, none, none, some 33, some 34, some 35]), (0, 36, []), (0, 36, []), (1, 36, []), (0 + 5, 7, [none, none, none, none, some 37, some 38, some 39]), (0, 36, []), (0, 36, []), (1, 36, []), (2 + 5, 5, [some 41, none, none, none, some 42]), (0, 60, []), (0, 36, []), (1 + 5, 11, [some 44, some 45, some 46, some 47, some 48, some 49, some 50, some 51, none, none, none]), (0, 136, []), (0, 746, []), (0, 746, []), (0, 746, []), (0, 746, []), (0, 136, []), (0, 136, []), (0, 136, []), (1 + 5, 11, [some 53, some 54, some 55, some 56, some 57, some 58, some 59, some 60, none, none, none]), (0, 136, []), (0, 746, []), (0, 746, []), (0, 746, []), (0, 746, []), (0, 136, []), (0, 136, []), (0, 136, []), (4, 4, []), (4 + 5, 9, [none, some 63, none, some 64, some 65, some 66, none, none, none]), (0, 36, []), (0, 36, []), (1, 36, []), (0, 36, []), (4 + 5, 9, [none, some 68, none, some 69, some 70, some 71, none, none, none]), (0, 36, []), (0, 36, []), (1, 36, []), (0, 36, []), (4 + 5, 9, [none, some 73, none, some 74, some 75, some 76, none, none, none]), (0, 36, []), (0, 36, []), (1, 36, []), (0, 36, []), (4 + 5, 9, [none, some 78, none, some 79, some 80, some 81, none, none, none]), (0, 36, []), (0, 36, []), (1, 36, []), (0, 36, []), (1, 36, []), (0, 64, [])]
theorem sh_1 : er_at er_SH 1 = some (5 + 5, 10, [some 2, some 6, some 40, some 43, some 52, some 61, some 82, none, none, none]) := rfl
theorem sh_2 : er_at er_SH 2 = some (0 + 5, 7, [none, none, none, none, some 3, some 4, some 5]) := rfl
theorem sh_3 : er_at er_SH 3 = some (0, 36, []) := rfl
theorem sh_4 : er_at er_SH 4 = some (0, 36, []) := rfl
theorem sh_5 : er_at er_SH 5 = some (1, 36, []) := rfl
theorem sh_6 : er_at er_SH 6 = some (3 + 5, 2, [some 7, none]) := rfl
theorem sh_7 : er_at er_SH 7 = some (3, 8, []) := rfl
theorem sh_8 : er_at er_SH 8 = some (0 + 5, 7, [none, none, none, none, some 9, some 10, some 11]) := rfl
theorem sh_9 : er_at er_SH 9 = some (0, 36, []) := rfl
theorem sh_10 : er_at er_SH 10 = some (0, 36, []) := rfl
theorem sh_11 : er_at er_SH 11 = some (1, 36, []) := rfl
theorem sh_12 : er_at er_SH 12 = some (0 + 5, 7, [none, none, none, none, some 13, some 14, some 15]) := rfl
theorem sh_13 : er_at er_SH 13 = some (0, 36, []) := rfl
theorem sh_14 : er_at er_SH 14 = some (0, 36, []) := rfl
theorem sh_15 : er_at er_SH 15 = some (1, 36, []) := rfl
theorem sh_16 : er_at er_SH 16 = some (0 + 5, 7, [none, none, none, none, some 17, some 18, some 19]) := rfl
theorem sh_17 : er_at er_SH 17 = some (0, 36, []) := rfl
theorem sh_18 : er_at er_SH 18 = some (0, 36, []) := rfl
theorem sh_19 : er_at er_SH 19 = some (1, 36, []) := rfl
theorem sh_20 : er_at er_SH 20 = some (0 + 5, 7, [none, none, none, none, some 21, some 22, some 23]) := rfl
theorem sh_21 : er_at er_SH 21 = some (0, 36, []) := rfl
theorem sh_22 : er_at er_SH 22 = some (0, 36, []) := rfl
theorem sh_23 : er_at er_SH 23 = some (1, 36, []) := rfl
theorem sh_24 : er_at er_SH 24 = some (0 + 5, 7, [none, none, none, none, some 25, some 26, some 27]) := rfl
theorem sh_25 : er_at er_SH 25 = some (0, 36, []) := rfl
theorem sh_26 : er_at er_SH 26 = some (0, 36, []) := rfl
theorem sh_27 : er_at er_SH 27 = some (1, 36, []) := rfl
theorem sh_28 : er_at er_SH 28 = some (0 + 5, 7, [none, none, none, none, some 29, some 30, some 31]) := rfl
theorem sh_29 : er_at er_SH 29 = some (0, 36, []) := rfl
theorem sh_30 : er_at er_SH 30 = some (0, 36, []) := rfl
theorem sh_31 : er_at er_SH 31 = some (1, 36, []) := rfl
theorem sh_32 : er_at er_SH 32 = some (0 + 5, 7, [none, none, none, none, some 33, some 34, some 35]) := rfl
theorem sh_33 : er_at er_SH 33 = some (0, 36, []) := rfl
theorem sh_34 : er_at er_SH 34 = some (0, 36, []) := rfl
theorem sh_35 : er_at er_SH 35 = some (1, 36, []) := rfl
theorem sh_36 : er_at er_SH 36 = some (0 + 5, 7, [none, none, none, none, some 37, some 38, some 39]) := rfl
theorem sh_37 : er_at er_SH 37 = some (0, 36, []) := rfl
theorem sh_38 : er_at er_SH 38 = some (0, 36, []) := rfl
theorem sh_39 : er_at er_SH 39 = some (1, 36, []) := rfl
theorem sh_40 : er_at er_SH 40 = some (2 + 5, 5, [some 41, none, none, none, some 42]) := rfl
theorem sh_41 : er_at er_SH 41 = some (0, 60, []) := rfl
theorem sh_42 : er_at er_SH 42 = some (0, 36, []) := rfl
theorem sh_43 : er_at er_SH 43 = some (1 + 5, 11, [some 44, some 45, some 46, some 47, some 48, some 49, some 50, some 51, none, none, none]) := rfl
theorem sh_44 : er_at er_SH 44 = some (0, 136, []) := rfl
theorem sh_45 : er_at er_SH 45 = some (0, 746, []) := rfl
theorem sh_46 : er_at er_SH 46 = some (0, 746, []) := rfl
theorem sh_47 : er_at er_SH 47 = some (0, 746, []) := rfl
theorem sh_48 : er_at er_SH 48 = some (0, 746, []) := rfl
theorem sh_49 : er_at er_SH 49 = some (0, 136, []) := rfl
theorem sh_50 : er_at er_SH 50 = some (0, 136, []) := rfl
theorem sh_51 : er_at er_SH 51 = some (0, 136, []) := rfl
theorem sh_52 : er_at er_SH 52 = some (1 + 5, 11, [some 53, some 54, some 55, some 56, some 57, some 58, some 59, some 60, none, none, none]) := rfl
theorem sh_53 : er_at er_SH 53 = some (0, 136, []) := rfl
theorem sh_54 : er_at er_SH 54 = some (0, 746, []) := rfl
theorem sh_55 : er_at er_SH 55 = some (0, 746, []) := rfl
theorem sh_56 : er_at er_SH 56 = some (0, 746, []) := rfl
theorem sh_57 : er_at er_SH 57 = some (0, 746, []) := rfl
theorem sh_58 : er_at er_SH 58 = some (0, 136, []) := rfl
theorem sh_59 : er_at er_SH 59 = some (0, 136, []) := rfl
theorem sh_60 : er_at er_SH 60 = some (0, 136, []) := rfl
theorem sh_61 : er_at er_SH 61 = some (4, 4, []) := rfl
theorem sh_62 : er_at er_SH 62 = some (4 + 5, 9, [none, some 63, none, some 64, some 65, some 66, none, none, none]) := rfl
theorem sh_63 : er_at er_SH 63 = some (0, 36, []) := rfl
theorem sh_64 : er_at er_SH 64 = some (0, 36, []) := rfl
theorem sh_65 : er_at er_SH 65 = some (1, 36, []) := rfl
theorem sh_66 : er_at er_SH 66 = some (0, 36, []) := rfl
theorem sh_67 : er_at er_SH 67 = some (4 + 5, 9, [none, some 68, none, some 69, some 70, some 71, none, none, none]) := rfl
theorem sh_68 : er_at er_SH 68 = some (0, 36, []) := rfl
theorem sh_69 : er_at er_SH 69 = some (0, 36, []) := rfl
theorem sh_70 : er_at er_SH 70 = some (1, 36, []) := rfl
theorem sh_71 : er_at er_SH 71 = some (0, 36, []) := rfl
theorem sh_72 : er_at er_SH 72 = some (4 + 5, 9, [none, some 73, none, some 74, some 75, some 76, none, none, none]) := rfl
theorem sh_73 : er_at er_SH 73 = some (0, 36, []) := rfl
theorem sh_74 : er_at er_SH 74 = some (0, 36, []) := rfl
theorem sh_75 : er_at er_SH 75 = some (1, 36, []) := rfl
theorem sh_76 : er_at er_SH 76 = some (0, 36, []) := rfl
theorem sh_77 : er_at er_SH 77 = some (4 + 5, 9, [none, some 78, none, some 79, some 80, some 81, none, none, none]) := rfl
theorem sh_78 : er_at er_SH 78 = some (0, 36, []) := rfl
theorem sh_79 : er_at er_SH 79 = some (0, 36, []) := rfl
theorem sh_80 : er_at er_SH 80 = some (1, 36, []) := rfl
theorem sh_81 : er_at er_SH 81 = some (0, 36, []) := rfl
theorem sh_82 : er_at er_SH 82 = some (1, 36, []) := rfl
theorem sh_83 : er_at er_SH 83 = some (0, 64, []) := rfl
def er_isN (n : Nat) : Prop := n = 43 ∨ n = 52
theorem shN_0 {n : Nat} (h : er_isN n) : er_at er_SH n = some (1 + 5, 11, [some (n + 1), some (n + 2), some (n + 3), some (n + 4), some (n + 5), some (n + 6), some (n + 7), some (n + 8), none, none, none]) := by
  rcases h with rfl | rfl <;> rfl
theorem shN_1 {n : Nat} (h : er_isN n) : er_at er_SH (n + 1) = some (0, 136, []) := by
  rcases h with rfl | rfl <;> rfl
theorem shN_2 {n : Nat} (h : er_isN n) : er_at er_SH (n + 2) = some (0, 746, []) := by
  rcases h with rfl | rfl <;> rfl
theorem shN_3 {n : Nat} (h : er_isN n) : er_at er_SH (n + 3) = some (0, 746, []) := by
  rcases h with rfl | rfl <;> rfl
theorem shN_4 {n : Nat} (h : er_isN n) : er_at er_SH (n + 4) = some (0, 746, []) := by
  rcases h with rfl | rfl <;> rfl
theorem shN_5 {n : Nat} (h : er_isN n) : er_at er_SH (n + 5) = some (0, 746, []) := by
  rcases h with rfl | rfl <;> rfl
theorem shN_6 {n : Nat} (h : er_isN n) : er_at er_SH (n + 6) = some (0, 136, []) := by
  rcases h with rfl | rfl <;> rfl
theorem shN_7 {n : Nat} (h : er_isN n) : er_at er_SH (n + 7) = some (0, 136, []) := by
  rcases h with rfl | rfl <;> rfl
theorem shN_8 {n : Nat} (h : er_isN n) : er_at er_SH (n + 8) = some (0, 136, []) := by
  rcases h with rfl | rfl <;> rfl
theorem shN_ne {n : Nat} (h : er_isN n) : n ≠ 0 := by
  rcases h with rfl | rfl <;> decide
def er_isY (y : Nat) : Prop := y = 62 ∨ y = 67 ∨ y = 72 ∨ y = 77
theorem shY_0 {y : Nat} (h : er_isY y) : er_at er_SH y = some (4 + 5, 9, [none, some (y + 1), none, some (y + 2), some (y + 3), some (y + 4), none, none, none]) := by
  rcases h with rfl | rfl | rfl | rfl <;> rfl
theorem shY_1 {y : Nat} (h : er_isY y) : er_at er_SH (y + 1) = some (0, 36, []) := by
  rcases h with rfl | rfl | rfl | rfl <;> rfl
theorem shY_2 {y : Nat} (h : er_isY y) : er_at er_SH (y + 2) = some (0, 36, []) := by
  rcases h with rfl | rfl | rfl | rfl <;> rfl
theorem shY_3 {y : Nat} (h : er_isY y) : er_at er_SH (y + 3) = some (1, 36, []) := by
  rcases h with rfl | rfl | rfl | rfl <;> rfl
theorem shY_4 {y : Nat} (h : er_isY y) : er_at er_SH (y + 4) = some (0, 36, []) := by
  rcases h with rfl | rfl | rfl | rfl <;> rfl
theorem shY_ne {y : Nat} (h : er_isY y) : y ≠ 0 := by
  rcases h with rfl | rfl | rfl | rfl <;> decide
def er_isB (b : Nat) : Prop := b = 2 ∨ b = 8 ∨ b = 12 ∨ b = 16 ∨ b = 20 ∨ b = 24 ∨ b = 28 ∨ b = 32 ∨ b = 36
theorem shB_0 {b : Nat} (h : er_isB b) : er_at er_SH b = some (0 + 5, 7, [none, none, none, none, some (b + 1), some (b + 2), some (b + 3)]) := by
  rcases h with rfl | rfl | rfl | rfl | rfl | rfl | rfl | rfl | rfl <;> rfl
theorem shB_1 {b : Nat} (h : er_isB b) : er_at er_SH (b + 1) = some (0, 36, []) := by
  rcases h with rfl | rfl | rfl | rfl | rfl | rfl | rfl | rfl | rfl <;> rfl
theorem shB_2 {b : Nat} (h : er_isB b) : er_at er_SH (b + 2) = some (0, 36, []) := by
  rcases h with rfl | rfl | rfl | rfl | rfl | rfl | rfl | rfl | rfl <;> rfl
theorem shB_3 {b : Nat} (h : er_isB b) : er_at er_SH (b + 3) = some (1, 36, []) := by
  rcases h with rfl | rfl | rfl | rfl | rfl | rfl | rfl | rfl | rfl <;> rfl
theorem shB_ne {b : Nat} (h : er_isB b) : b ≠ 0 := by
  rcases h with rfl | rfl | rfl | rfl | rfl | rfl | rfl | rfl | rfl <;> decide
def er_isO (o : Nat) : Prop := er_at er_SH o = some (1, 36, [])
/-- answers over the fixed shape -/
def er_PI (Q : Int → er_M → Prop) : er_Post := fun v sh m => sh = er_SH ∧ ∃ x : Int, v = some (.inl x) ∧ Q x m
def er_PV (Q : er_M → Prop) : er_Post := fun v sh m => sh = er_SH ∧ v = none ∧ Q m
def er_PR (Q : Nat → er_M → Prop) : er_Post := fun v sh m => sh = er_SH ∧ ∃ x : Nat, v = some (.inr x) ∧ Q x m
def er_SI (K : er_K) (i : er_I) (as : List er_V) (m : er_M) (Q : Int → er_M → Prop) : Prop := er_Spec K i as er_SH m (er_PI Q)
def er_SV (K : er_K) (i : er_I) (as : List er_V) (m : er_M) (Q : er_M → Prop) : Prop := er_Spec K i as er_SH m (er_PV Q)
def er_SR (K : er_K) (i : er_I) (as : List er_V) (m : er_M) (Q : Nat → er_M → Prop) : Prop := er_Spec K i as er_SH m (er_PR Q)
section ER5
variable {K : er_K} {i j : er_I} {m : er_M} {pc : Nat} {ls : List (Option er_V)} {st : List er_V} {Z : List Frame → Array Value → State → State → Prop}
def er_z (j : er_I) : Prop := j.2.2.2.2.cells = 0 ∧ j.2.2.2.2.slots = 0
theorem er_z_f {i j : er_I} (h : er_z j) : 0 + j.2.2.2.2.cells ≤ i.2.2.2.2.cells ∧ 0 + j.2.2.2.2.slots ≤ i.2.2.2.2.slots := by rw [h.1, h.2]; exact ⟨Nat.zero_le _, Nat.zero_le _⟩
theorem er_z_k {i j : er_I} {sh : er_Sh} (h : er_z j) (k : er_WP K i 0 0 sh m pc ls st Z) : er_WP K i (0 + j.2.2.2.2.cells) (0 + j.2.2.2.2.slots) sh m pc ls st Z := by rw [h.1, h.2]; exact k
theorem er_cVI {idx n b ci N : Nat} {As : List er_V} {rs : List (Option Nat)} {stk : List er_V} {Q : Int → er_M → Prop} (hM : Cond.methodLink i.1.cls idx j.1 ∈ er_tb ∧ Cond.instanceMethod j.1 ∈ er_tb ∧ Cond.selects j.1.cls j.1 j.1 ∈ er_tb) (hw : er_MW j) (hm : er_MD j n) (hz : er_z j) (hn : As.length = n) (h8 : st.length ≤ 8) (hb : er_at er_SH b = some (ci + 5, N, rs)) (hcl : (er_cl[ci]?).map (fun q => q.1) = some j.1.cls) (hR : er_fits i j) (hst : stk = As.reverse ++ .inr b :: st) (hd : decode i.2.1 pc = .ok (.invokevirtual idx, 3)) (hS : er_SI K j (.inr b :: As) m Q) (kk : ∀ (x : Int) (m1 : er_M), Q x m1 → er_WP K i 0 0 er_SH m1 (pc + 3) ls (.inl x :: st) Z) : er_WP K i 0 0 er_SH m pc ls stk Z := by
  refine er_callV hM hw hm hst hn h8 hb hcl hR (er_z_f hz) hd hS (fun v sh1 m1 hq => er_z_k hz ?_)
  obtain ⟨rfl, x, rfl, hq⟩ := hq
  exact kk x m1 hq
theorem er_cVV {idx n b ci N : Nat} {As : List er_V} {rs : List (Option Nat)} {stk : List er_V} {Q : er_M → Prop} (hM : Cond.methodLink i.1.cls idx j.1 ∈ er_tb ∧ Cond.instanceMethod j.1 ∈ er_tb ∧ Cond.selects j.1.cls j.1 j.1 ∈ er_tb) (hw : er_MW j) (hm : er_MD j n) (hz : er_z j) (hn : As.length = n) (h8 : st.length ≤ 8) (hb : er_at er_SH b = some (ci + 5, N, rs)) (hcl : (er_cl[ci]?).map (fun q => q.1) = some j.1.cls) (hR : er_fits i j) (hst : stk = As.reverse ++ .inr b :: st) (hd : decode i.2.1 pc = .ok (.invokevirtual idx, 3)) (hS : er_SV K j (.inr b :: As) m Q) (kk : ∀ (m1 : er_M), Q m1 → er_WP K i 0 0 er_SH m1 (pc + 3) ls (st) Z) : er_WP K i 0 0 er_SH m pc ls stk Z := by
  refine er_callV hM hw hm hst hn h8 hb hcl hR (er_z_f hz) hd hS (fun v sh1 m1 hq => er_z_k hz ?_)
  obtain ⟨rfl, rfl, hq⟩ := hq
  exact kk m1 hq
theorem er_cVR {idx n b ci N : Nat} {As : List er_V} {rs : List (Option Nat)} {stk : List er_V} {Q : Nat → er_M → Prop} (hM : Cond.methodLink i.1.cls idx j.1 ∈ er_tb ∧ Cond.instanceMethod j.1 ∈ er_tb ∧ Cond.selects j.1.cls j.1 j.1 ∈ er_tb) (hw : er_MW j) (hm : er_MD j n) (hz : er_z j) (hn : As.length = n) (h8 : st.length ≤ 8) (hb : er_at er_SH b = some (ci + 5, N, rs)) (hcl : (er_cl[ci]?).map (fun q => q.1) = some j.1.cls) (hR : er_fits i j) (hst : stk = As.reverse ++ .inr b :: st) (hd : decode i.2.1 pc = .ok (.invokevirtual idx, 3)) (hS : er_SR K j (.inr b :: As) m Q) (kk : ∀ (x : Nat) (m1 : er_M), Q x m1 → er_WP K i 0 0 er_SH m1 (pc + 3) ls (.inr x :: st) Z) : er_WP K i 0 0 er_SH m pc ls stk Z := by
  refine er_callV hM hw hm hst hn h8 hb hcl hR (er_z_f hz) hd hS (fun v sh1 m1 hq => er_z_k hz ?_)
  obtain ⟨rfl, x, rfl, hq⟩ := hq
  exact kk x m1 hq
theorem er_cS {idx n : Nat} {As : List er_V} {stk : List er_V} {Q : Int → er_M → Prop} (hM : Cond.methodLink i.1.cls idx j.1 ∈ er_tb ∧ Cond.static j.1 ∈ er_tb) (hown : j.1.cls = i.1.cls) (hw : er_MW j) (hm : er_MD j n) (hz : er_z j) (hn : As.length = n) (h8 : st.length ≤ 8) (hR : er_fits i j) (hst : stk = As.reverse ++ st) (hd : decode i.2.1 pc = .ok (.invokestatic idx, 3)) (hS : er_SI K j As m Q) (kk : ∀ (x : Int) (m1 : er_M), Q x m1 → er_WP K i 0 0 er_SH m1 (pc + 3) ls (.inl x :: st) Z) : er_WP K i 0 0 er_SH m pc ls stk Z := by
  refine er_callS hM hown hw hm hst hn h8 hR (er_z_f hz) hd hS (fun v sh1 m1 hq => er_z_k hz ?_)
  obtain ⟨rfl, x, rfl, hq⟩ := hq
  exact kk x m1 hq
theorem er_cN {idx n : Nat} {host : String} {As : List er_V} {stk : List er_V} {Q : Int → er_M → Prop} (hM : (i.1.cls, idx, j.1, host) ∈ er_nw ∧ Cond.static j.1 ∈ er_tb) (hw : er_MW j) (hm : er_MD j n) (hz : er_z j) (hn : As.length = n) (h8 : st.length ≤ 8) (hR : er_fits i j) (hst : stk = As.reverse ++ st) (hd : decode i.2.1 pc = .ok (.invokestatic idx, 3)) (hS : er_SI K j As m Q) (kk : ∀ (x : Int) (m1 : er_M), Q x m1 → er_WP K i 0 0 er_SH m1 (pc + 3) ls (.inl x :: st) Z) : er_WP K i 0 0 er_SH m pc ls stk Z := by
  refine er_callN hM hw hm hst hn h8 hR (er_z_f hz) hd hS (fun v sh1 m1 hq => er_z_k hz ?_)
  obtain ⟨rfl, x, rfl, hq⟩ := hq
  exact kk x m1 hq
theorem er_istE {n : Nat} {x : Int} {ls2 : List (Option er_V)} (k : Fin 4) (hkn : (k : Nat) = n) (hn : n < i.2.2.1) (hl : ls.set n (some (.inl x)) = ls2) (hd : decode i.2.1 pc = .ok (.istore_n k, 1)) (kk : er_WP K i 0 0 er_SH m (pc + 1) ls2 st Z) : er_WP K i 0 0 er_SH m pc ls (.inl x :: st) Z := er_istore_n hkn hn hd (hl ▸ kk)
theorem er_istF {n : Nat} {x : Int} {ls2 : List (Option er_V)} (hn : n < i.2.2.1) (hl : ls.set n (some (.inl x)) = ls2) (hd : decode i.2.1 pc = .ok (.istore n, 2)) (kk : er_WP K i 0 0 er_SH m (pc + 2) ls2 st Z) : er_WP K i 0 0 er_SH m pc ls (.inl x :: st) Z := er_istore hn hd (hl ▸ kk)
theorem er_astE {n : Nat} {x : Nat} {ls2 : List (Option er_V)} (k : Fin 4) (hkn : (k : Nat) = n) (hn : n < i.2.2.1) (hl : ls.set n (some (.inr x)) = ls2) (hd : decode i.2.1 pc = .ok (.astore_n k, 1)) (kk : er_WP K i 0 0 er_SH m (pc + 1) ls2 st Z) : er_WP K i 0 0 er_SH m pc ls (.inr x :: st) Z := er_astore_n hkn hn hd (hl ▸ kk)
theorem er_astF {n : Nat} {x : Nat} {ls2 : List (Option er_V)} (hn : n < i.2.2.1) (hl : ls.set n (some (.inr x)) = ls2) (hd : decode i.2.1 pc = .ok (.astore n, 2)) (kk : er_WP K i 0 0 er_SH m (pc + 2) ls2 st Z) : er_WP K i 0 0 er_SH m pc ls (.inr x :: st) Z := er_astore hn hd (hl ▸ kk)
theorem er_incE {n : Nat} {d x : Int} {ls2 : List (Option er_V)} (hl : ls[n]? = some (some (.inl x))) (hn : n < i.2.2.1) (hs : ls.set n (some (.inl (x + d))) = ls2) (hd : decode i.2.1 pc = .ok (.iinc n d, 3)) (kk : er_WP K i 0 0 er_SH m (pc + 3) ls2 st Z) : er_WP K i 0 0 er_SH m pc ls st Z := er_iinc hl hn hd (hs ▸ kk)
theorem er_iastE {c n : Nat} {rs : List (Option Nat)} {j x : Int} (hc : er_at er_SH c = some (0, n, rs)) (hn : n ≤ 2147483648) (h0 : 0 ≤ j) (h1 : j < n) (hd : decode i.2.1 pc = .ok (.iastore, 1)) (kk : ∀ m1, m1 = er_st m c j x → er_WP K i 0 0 er_SH m1 (pc + 1) ls st Z) : er_WP K i 0 0 er_SH m pc ls (.inl x :: .inl j :: .inr c :: st) Z := er_iast hc hn h0 h1 hd (kk _ rfl)
theorem er_zastE {c n : Nat} {rs : List (Option Nat)} {j x : Int} (hc : er_at er_SH c = some (1, n, rs)) (hn : n ≤ 2147483648) (h0 : 0 ≤ j) (h1 : j < n) (hx : x = 0 ∨ x = 1) (hd : decode i.2.1 pc = .ok (.bastore, 1)) (kk : ∀ m1, m1 = er_st m c j x → er_WP K i 0 0 er_SH m1 (pc + 1) ls st Z) : er_WP K i 0 0 er_SH m pc ls (.inl x :: .inl j :: .inr c :: st) Z := er_zast hc hn h0 h1 hx hd (kk _ rfl)
theorem er_aastE {c k n r N ci : Nat} {rs rs2 : List (Option Nat)} {j : Int} (hc : er_at er_SH c = some (k, n, rs)) (hk : k = 3 ∧ ci = 0 ∨ k = 4 ∧ ci = 4) (hn : n ≤ 2147483648) (h0 : 0 ≤ j) (h1 : j < n) (hr : er_at er_SH r = some (ci + 5, N, rs2)) (hd : decode i.2.1 pc = .ok (.aastore, 1)) (kk : ∀ m1, m1 = er_st m c j r → er_WP K i 0 0 er_SH m1 (pc + 1) ls st Z) : er_WP K i 0 0 er_SH m pc ls (.inr r :: .inl j :: .inr c :: st) Z := er_aast hc hk hn h0 h1 hr hd (kk _ rfl)
theorem er_getIE (kz : Int) {index ci k n c : Nat} {rs : List (Option Nat)} {fin : Bool} {ty : FieldType} (hkz : ((k : Nat) : Int) = kz) (hf : er_FL i.1.cls index ci k fin ty) (hc : er_at er_SH c = some (ci + 5, n, rs)) (hk : k < n) (hr : rs.getD k none = none) (hd : decode i.2.1 pc = .ok (.getfield index, 3)) (kk : er_WP K i 0 0 er_SH m (pc + 3) ls (.inl (m c kz) :: st) Z) : er_WP K i 0 0 er_SH m pc ls (.inr c :: st) Z := er_getI hf hc hk hr hd (by subst hkz; exact kk)
theorem er_putIE (kz : Int) {index ci k n c : Nat} {rs : List (Option Nat)} {x : Int} (hkz : ((k : Nat) : Int) = kz) (hf : er_FL i.1.cls index ci k false .int) (hc : er_at er_SH c = some (ci + 5, n, rs)) (hk : k < n) (hr : rs.getD k none = none) (hd : decode i.2.1 pc = .ok (.putfield index, 3)) (kk : ∀ m1, m1 = er_st m c kz x → er_WP K i 0 0 er_SH m1 (pc + 3) ls st Z) : er_WP K i 0 0 er_SH m pc ls (.inl x :: .inr c :: st) Z := er_putI hf hc hk hr hd (kk _ (by rw [hkz]))
theorem er_putZE (kz : Int) {index ci k n c : Nat} {rs : List (Option Nat)} {x : Int} (hkz : ((k : Nat) : Int) = kz) (hf : er_FL i.1.cls index ci k false .boolean) (hc : er_at er_SH c = some (ci + 5, n, rs)) (hk : k < n) (hr : rs.getD k none = none) (hx : x = 0 ∨ x = 1) (hd : decode i.2.1 pc = .ok (.putfield index, 3)) (kk : ∀ m1, m1 = er_st m c kz x → er_WP K i 0 0 er_SH m1 (pc + 3) ls st Z) : er_WP K i 0 0 er_SH m pc ls (.inl x :: .inr c :: st) Z := er_putZ hf hc hk hr hx hd (kk _ (by rw [hkz]))
theorem er_copyE {idx k na nb a b : Nat} {ra rb : List (Option Nat)} {n : Int} (hM : Cond.methodLink i.1.cls idx arraycopyName ∈ er_tb ∧ Cond.native arraycopyName ∈ er_tb ∧ Cond.static arraycopyName ∈ er_tb ∧ Cond.initialized "java/lang/System" ∈ er_tb) (hk : k < 2) (ha : er_at er_SH a = some (k, na, ra)) (hb : er_at er_SH b = some (k, nb, rb)) (h0 : 0 ≤ n) (h1 : n ≤ na) (h2 : n ≤ nb) (h3 : n < 2147483648) (hfit : k = 1 → ∀ j : Int, 0 ≤ j → j < n → m a j = 0 ∨ m a j = 1) (h8 : st.length ≤ 8) (hR : 1 ≤ i.2.2.2.2.frames ∧ 26 ≤ i.2.2.2.2.locals) (hd : decode i.2.1 pc = .ok (.invokestatic idx, 3)) (kk : ∀ m1, m1 = er_cpy m a b n → er_WP K i 0 0 er_SH m1 (pc + 3) ls st Z) : er_WP K i 0 0 er_SH m pc ls (.inl n :: .inl 0 :: .inr b :: .inl 0 :: .inr a :: st) Z := er_copy hM hk ha hb h0 h1 h2 h3 hfit h8 hR hd (kk _ rfl)
theorem er_iretE {x : Int} {Q : Int → er_M → Prop} (hret : i.2.2.2.1 = some .int) (hz : 0 = i.2.2.2.2.cells) (hd : decode i.2.1 pc = .ok (.ireturn, 1)) (hq : Q x m) : er_WP K i 0 0 er_SH m pc ls [.inl x] (er_Z K i (er_PI Q)) := er_iret hret hz (Nat.zero_le _) hd ⟨rfl, x, rfl, hq⟩
theorem er_zretE {x : Int} {Q : Int → er_M → Prop} (hret : i.2.2.2.1 = some .boolean) (hx : x = 0 ∨ x = 1) (hz : 0 = i.2.2.2.2.cells) (hd : decode i.2.1 pc = .ok (.ireturn, 1)) (hq : Q x m) : er_WP K i 0 0 er_SH m pc ls [.inl x] (er_Z K i (er_PI Q)) := er_zret hret hx hz (Nat.zero_le _) hd ⟨rfl, x, rfl, hq⟩
theorem er_vretE {Q : er_M → Prop} (hret : i.2.2.2.1 = none) (hz : 0 = i.2.2.2.2.cells) (hd : decode i.2.1 pc = .ok (.return_, 1)) (hq : Q m) : er_WP K i 0 0 er_SH m pc ls [] (er_Z K i (er_PV Q)) := er_vret hret hz (Nat.zero_le _) hd ⟨rfl, rfl, hq⟩
theorem er_aretE {r : Nat} {nm : String} {Q : Nat → er_M → Prop} (hret : i.2.2.2.1 = some (.object nm)) (hz : 0 = i.2.2.2.2.cells) (hd : decode i.2.1 pc = .ok (.areturn, 1)) (hq : Q r m) : er_WP K i 0 0 er_SH m pc ls [.inr r] (er_Z K i (er_PR Q)) := er_aret hret hz (Nat.zero_le _) hd ⟨rfl, r, rfl, hq⟩
end ER5
