/-! arrays patched below i -/
def sg_pw (f g : Nat → Int32) (i : Nat) : Nat → Int32 := fun j => if j < i then f j else g j
theorem sg_pw_s {f g : Nat → Int32} {i : Nat} {x : Int32} (h : x = f i) : upd (sg_pw f g i) i x = sg_pw f g (i + 1) := by
  funext j
  unfold sg_pw
  by_cases e : j = i
  · subst e
    rw [pk_us, if_pos (by omega), h]
  · rw [pk_un e]
    by_cases z : j < i
    · rw [if_pos z, if_pos (by omega)]
    · rw [if_neg z, if_neg (by omega)]
theorem sg_pw_n {f g : Nat → Int32} {i : Nat} (h : f i = g i) : sg_pw f g i = sg_pw f g (i + 1) := by
  funext j
  unfold sg_pw
  by_cases z : j < i
  · rw [if_pos z, if_pos (by omega)]
  · rw [if_neg z]
    by_cases e : j = i
    · subst e; rw [if_pos (by omega), h]
    · rw [if_neg (by omega)]
theorem sg_pw_i {f g : Nat → Int32} {i : Nat} : sg_pw f g i i = g i := if_neg (by omega)
theorem sg_pw_0 {f g : Nat → Int32} : g = sg_pw f g 0 := by
  funext j
  exact (if_neg (by omega)).symm
theorem sg_pw_lt {f g : Nat → Int32} {i j : Nat} (h : j < i) : sg_pw f g i j = f j := if_pos h
theorem sg_pw_ge {f g : Nat → Int32} {i j : Nat} (h : i ≤ j) : sg_pw f g i j = g j := if_neg (by omega)
section
variable {n k : Nat} {o l c : Int32} {K A B C H V D T W U S O h v F d p g : Nat → Int32}
theorem sg_f1 {b : Nat} {q x y z : Int32} (hq : q = 1 ∨ q = 2 ∨ q = 8 ∨ q = 11 ∨ q = 12) (hf : sg_fit K b q x y z) : sg_E K b x := by
  rcases hq with e | e | e | e | e <;> subst e <;> simpa (decide := true) [sg_fit] using hf
/-! which nodes are parts -/
theorem sg_P_x {j : Nat} (hj : j < n) (h0 : K j ≠ 0) (h10 : K j ≠ 10) (h11 : K j ≠ 11) {a : Nat} (ha : a < 24) (e : A j = nI a) : sg_P n K A B C j a := by
  refine ⟨hj, ha, 0, by omega, ?_⟩
  unfold sg_pt
  rw [if_neg h0, if_neg h11, if_neg h10, if_pos rfl, e]
theorem sg_P_y {j : Nat} (hj : j < n) (hk : K j = 3 ∨ K j = 6 ∨ K j = 13) {a : Nat} (ha : a < 24) (e : B j = nI a) : sg_P n K A B C j a := by
  refine ⟨hj, ha, 1, by omega, ?_⟩
  unfold sg_pt
  rcases hk with z | z | z <;> rw [z] <;> simp (decide := true) only [if_true, if_false, e]
theorem sg_P_z {j : Nat} (hj : j < n) (hk : K j = 13) {a : Nat} (ha : a < 24) (e : C j = nI a) : sg_P n K A B C j a := by
  refine ⟨hj, ha, 2, by omega, ?_⟩
  unfold sg_pt
  rw [hk]
  simp (decide := true) only [if_true, if_false, e]
theorem sg_P_10 {j : Nat} (hj : j < n) (hk : K j = 10) {a : Nat} (ha : a < 24) (e : B j = nI a ∨ C j = nI a) : sg_P n K A B C j a := by
  rcases e with e | e
  · refine ⟨hj, ha, 0, by omega, ?_⟩
    unfold sg_pt
    rw [hk]
    simp (decide := true) only [if_true, if_false, e]
  · refine ⟨hj, ha, 1, by omega, ?_⟩
    unfold sg_pt
    rw [hk]
    simp (decide := true) only [if_true, if_false, e]
/-- what a node's values rest on -/
theorem sg_hv_cg {j : Nat} {H1 H2 V1 V2 Z1 Z2 wt1 wt2 on1 on2 wv1 wv2 cs1 cs2 : Nat → Int32} (hn : n ≤ 24) (hj : j < n) (hw : sg_wf n K A B C)
    (hH : ∀ m, sg_P n K A B C j m → ¬ sg_ce (K m) → H1 m = H2 m) (hV : ∀ m, sg_P n K A B C j m → V1 m = V2 m) (hZ : ∀ m, m < n → sg_ce (K m) → Z1 m = Z2 m)
    (hwt : K j = 0 ∨ K j = 11 → wt1 j = wt2 j) (hwv : K j = 0 ∨ K j = 11 → wv1 j = wv2 j) (hcs : K j = 8 → cs1 j = cs2 j) (hon : K j = 12 → (on1 j = 0 ↔ on2 j = 0)) :
    sg_h K A B H1 V1 Z1 wt1 on1 C j = sg_h K A B H2 V2 Z2 wt2 on2 C j ∧ sg_v K A B H1 V1 Z1 wt1 on1 wv1 cs1 C j = sg_v K A B H2 V2 Z2 wt2 on2 wv2 cs2 C j := by
  have hf := sg_wf_n hw hj
  have cl : ∀ a, a < n → (nI a).toNatClampNeg = a := fun a ha => nI_clamp (by omega)
  refine sg_fit_cases hf ?_ ?_ ?_ ?_ ?_ ?_ ?_ ?_ ?_ ?_ ?_ ?_ ?_ ?_ ?_ <;> intro e
  · unfold sg_v sg_h sg_w
    simp (decide := true) only [e, if_true, if_false, hwt (Or.inl e), hwv (Or.inl e), and_self]
  · rintro ⟨a, ha, ea, hc⟩
    have hP : sg_P n K A B C j a := sg_P_x hj (by rw [e]; decide) (by rw [e]; decide) (by rw [e]; decide) (by omega) ea
    unfold sg_v sg_h sg_w
    simp (decide := true) only [e, if_true, if_false, ea, cl a ha, hH a hP hc, hV a hP, and_self]
  · rintro ⟨a, ha, ea, hc⟩
    have hP : sg_P n K A B C j a := sg_P_x hj (by rw [e]; decide) (by rw [e]; decide) (by rw [e]; decide) (by omega) ea
    unfold sg_v sg_h sg_w
    simp (decide := true) only [e, if_true, if_false, ea, cl a ha, hH a hP hc, hV a hP, and_self]
  · rintro ⟨a, ha, ea, hc⟩ ⟨b, hb, eb, hc'⟩
    have hP : sg_P n K A B C j a := sg_P_x hj (by rw [e]; decide) (by rw [e]; decide) (by rw [e]; decide) (by omega) ea
    have hQ : sg_P n K A B C j b := sg_P_y hj (by rw [e]; decide) (by omega) eb
    unfold sg_v sg_h sg_w
    simp (decide := true) only [e, if_true, if_false, ea, eb, cl a ha, cl b hb, hH a hP hc, hV a hP, hH b hQ hc', hV b hQ, and_self]
  · rintro (ea | ⟨a, ha, ea, hc⟩)
    · unfold sg_v sg_h sg_w
      simp (decide := true) only [e, if_true, if_false, ea, hZ j hj (Or.inl e), and_self]
    · have hP : sg_P n K A B C j a := sg_P_x hj (by rw [e]; decide) (by rw [e]; decide) (by rw [e]; decide) (by omega) ea
      unfold sg_v sg_h sg_w
      simp (decide := true) only [e, if_true, if_false, ea, cl a ha, hH a hP hc, hV a hP, hZ j hj (Or.inl e), and_self]
  · rintro ⟨a, ha, ea, hc⟩ ⟨b, hb, eb, hc'⟩
    have hP : sg_P n K A B C j a := sg_P_x hj (by rw [e]; decide) (by rw [e]; decide) (by rw [e]; decide) (by omega) ea
    unfold sg_v sg_h sg_w
    simp (decide := true) only [e, if_true, if_false, ea, eb, cl a ha, cl b hb, hH a hP hc, hV a hP, hZ b hb hc', and_self]
  · rintro ⟨a, ha, ea, hc⟩ ⟨b, hb, eb, hc'⟩
    have hP : sg_P n K A B C j a := sg_P_x hj (by rw [e]; decide) (by rw [e]; decide) (by rw [e]; decide) (by omega) ea
    have hQ : sg_P n K A B C j b := sg_P_y hj (by rw [e]; decide) (by omega) eb
    unfold sg_v sg_h sg_w sg_dc
    simp (decide := true) only [e, if_true, if_false, ea, eb, cl a ha, cl b hb, hV a hP, hV b hQ, and_self]
  · rintro ⟨a, ha, ea, hc⟩ ⟨b, hb, eb, hc'⟩
    have hP : sg_P n K A B C j a := sg_P_x hj (by rw [e]; decide) (by rw [e]; decide) (by rw [e]; decide) (by omega) ea
    unfold sg_v sg_h sg_w
    simp (decide := true) only [e, if_true, if_false, ea, eb, cl a ha, cl b hb, hH a hP hc, hV a hP, hZ b hb hc', and_self]
  · rintro ⟨a, ha, ea, hc⟩
    have hP : sg_P n K A B C j a := sg_P_x hj (by rw [e]; decide) (by rw [e]; decide) (by rw [e]; decide) (by omega) ea
    unfold sg_v sg_h sg_w
    simp (decide := true) only [e, if_true, if_false, ea, cl a ha, hH a hP hc, hV a hP, hcs e, and_self]
  · rintro ⟨a, ha, ea, hc⟩
    have hP : sg_P n K A B C j a := sg_P_x hj (by rw [e]; decide) (by rw [e]; decide) (by rw [e]; decide) (by omega) ea
    unfold sg_v sg_h sg_w
    simp (decide := true) only [e, if_true, if_false, ea, cl a ha, hV a hP, hZ a ha hc, and_self]
  · rintro ⟨a, ha, ea, hc⟩ ⟨b, hb, eb, hc'⟩ ⟨m, hm, em, hc''⟩
    have hP : sg_P n K A B C j b := sg_P_10 hj e (by omega) (Or.inl eb)
    have hQ : sg_P n K A B C j m := sg_P_10 hj e (by omega) (Or.inr em)
    unfold sg_v sg_h sg_w
    simp (decide := true) only [e, if_true, if_false, ea, eb, em, cl a ha, cl b hb, cl m hm, hH b hP hc', hV b hP, hH m hQ hc'', hV m hQ, hZ a ha hc, and_self]
  · intro _
    unfold sg_v sg_h sg_w
    simp (decide := true) only [e, if_true, if_false, hwt (Or.inr e), hwv (Or.inr e), and_self]
  · rintro ⟨a, ha, ea, hc⟩
    have hP : sg_P n K A B C j a := sg_P_x hj (by rw [e]; decide) (by rw [e]; decide) (by rw [e]; decide) (by omega) ea
    unfold sg_v sg_h sg_w
    simp (decide := true) only [e, if_true, if_false, ea, cl a ha, hH a hP hc, hV a hP, hon e, and_self]
  · rintro ⟨a, ha, ea, hc⟩ ⟨b, hb, eb, hc'⟩ ⟨m, hm, em, hc''⟩
    have hP : sg_P n K A B C j a := sg_P_x hj (by rw [e]; decide) (by rw [e]; decide) (by rw [e]; decide) (by omega) ea
    have hQ : sg_P n K A B C j b := sg_P_y hj (by rw [e]; decide) (by omega) eb
    have hR : sg_P n K A B C j m := sg_P_z hj e (by omega) em
    unfold sg_v sg_h sg_w sg_dc
    simp (decide := true) only [e, if_true, if_false, ea, eb, em, cl a ha, cl b hb, cl m hm, hV a hP, hV b hQ, hV m hR, and_self]
  · rintro ⟨a, ha, ea, hc⟩
    have hP : sg_P n K A B C j a := sg_P_x hj (by rw [e]; decide) (by rw [e]; decide) (by rw [e]; decide) (by omega) ea
    unfold sg_v sg_h sg_w sg_dc
    simp (decide := true) only [e, if_true, if_false, ea, cl a ha, hV a hP, and_self]
theorem sg_i01 {q : Prop} [Decidable q] {x y : Int32} (hx : x = 0 ∨ x = 1) (hy : y = 0 ∨ y = 1) : (if q then x else y) = 0 ∨ (if q then x else y) = 1 := by
  by_cases hq : q
  · rw [if_pos hq]; exact hx
  · rw [if_neg hq]; exact hy
theorem sg_h_01 {Z wt on : Nat → Int32} {j : Nat} (hH : ∀ j, H j = 0 ∨ H j = 1) (hW : ∀ j, wt j = 0 ∨ wt j = 1) : sg_h K A B H V Z wt on C j = 0 ∨ sg_h K A B H V Z wt on C j = 1 := by
  unfold sg_h
  repeat' (first | exact Or.inl rfl | exact Or.inr rfl | exact hH _ | exact hW _ | refine sg_i01 ?_ ?_)
theorem sg_h_ce {Z wt on : Nat → Int32} {j : Nat} (hc : sg_ce (K j)) : sg_h K A B H V Z wt on C j = 0 := by
  unfold sg_h
  rcases hc with e | e | e | e <;> simp (decide := true) only [e, if_true, if_false]
/-! X: one node worked out -/
theorem sg_xHeld {post : Int32 → Prop} {j : Nat} (hn : n ≤ 24) (hj : j < n) (hx : A j = -1 ∨ sg_E K n (A j)) (hp : post (if A j = -1 then D j else if H (A j).toNatClampNeg = 0 then D j else V (A j).toNatClampNeg)) : wpX_heldValue post (nI n, o, l, c, K, A, B, C, H, V, D, T, W, U, S, O) (nI j) := by
  unfold wpX_heldValue
  dsimp only
  have hin : vp_in (nI j) 24 := vp_in_nI (by omega) (by omega)
  rw [nI_clamp (by omega)]
  refine ⟨hin, nm_e ?_⟩
  by_cases z : A j = -1
  · rw [if_pos z] at hp
    exact br_t z ⟨hin, hp⟩
  · rw [if_neg z] at hp
    have hE := hx.resolve_left z
    refine br_f z ⟨sg_E_in hE hn, ?_⟩
    by_cases y : H (A j).toNatClampNeg = 0
    · rw [if_pos y] at hp
      exact br_t y ⟨hin, hp⟩
    · rw [if_neg y] at hp
      exact br_f y ⟨sg_E_in hE hn, hp⟩
theorem sg_xEH {post : Int32 → Prop} {j : Nat} (hn : n ≤ 24) (hj : j < n) (hf : sg_fit K n (K j) (A j) (B j) (C j)) (hH : ∀ j, H j = 0 ∨ H j = 1) (hW : ∀ j, W j = 0 ∨ W j = 1) (hnc : ¬ sg_ce (K j)) (hp : post (sg_h K A B H V D W T C j)) : wpX_eventHas post (nI n, o, l, c, K, A, B, C, H, V, D, T, W, U, S, O) (nI j) := by
  unfold wpX_eventHas
  dsimp only
  have hin : vp_in (nI j) 24 := vp_in_nI (by omega) (by omega)
  rw [nI_clamp (by omega)]
  refine ⟨hin, nm_e ⟨hin, nm_e ⟨hin, nm_e ⟨hin, nm_e ?_⟩⟩⟩⟩
  have nH := fun j => sg_nb (hH j)
  have nW := fun j => sg_nb (hW j)
  unfold sg_h at hp
  refine sg_fit_cases hf ?_ ?_ ?_ ?_ ?_ ?_ ?_ ?_ ?_ ?_ ?_ ?_ ?_ ?_ ?_ <;> intro e <;> intros <;> simp (decide := true) only [e, if_true, if_false] at hp <;> rw [e]
  · iterate 2 refine br_f (by decide) ?_
    exact br_t rfl ⟨hin, nW j, hp⟩
  · rename_i hx
    iterate 3 refine br_f (by decide) ?_
    exact br_t rfl ⟨sg_E_in hx hn, nH _, hp⟩
  · rename_i hx
    iterate 4 refine br_f (by decide) ?_
    refine br_t rfl ⟨sg_E_in hx hn, br_c (fun z => ?_) (fun z => ⟨sg_E_in hx hn, br_c (fun y => ?_) (fun y => ?_)⟩)⟩
    · rw [if_pos z] at hp; exact hp
    · rw [if_neg z, if_pos y] at hp; exact hp
    · rw [if_neg z, if_neg y] at hp; exact hp
  · rename_i hx hy
    iterate 5 refine br_f (by decide) ?_
    refine br_t rfl ⟨sg_E_in hx hn, br_c (fun z => ⟨sg_E_in hy hn, br_c (fun y => ?_) (fun y => ?_)⟩) (fun z => ?_)⟩
    · rw [if_pos z, if_pos y] at hp; exact hp
    · rw [if_pos z, if_neg y] at hp; exact hp
    · rw [if_neg z] at hp; exact hp
  · exact absurd (Or.inl e) hnc
  · rename_i hx hy
    iterate 7 refine br_f (by decide) ?_
    exact br_t rfl ⟨sg_E_in hx hn, nH _, hp⟩
  · exact absurd (Or.inr (Or.inl e)) hnc
  · rename_i hx hy
    iterate 9 refine br_f (by decide) ?_
    refine br_t rfl ⟨sg_E_in hx hn, br_c (fun z => ?_) (fun z => ⟨sg_L_in hy hn, br_c (fun y => ?_) (fun y => ?_)⟩)⟩
    · rw [if_pos z] at hp; exact hp
    · rw [if_neg z, if_pos y] at hp; exact hp
    · rw [if_neg z, if_neg y] at hp; exact hp
  · rename_i hx
    iterate 10 refine br_f (by decide) ?_
    exact br_t rfl ⟨sg_E_in hx hn, nH _, hp⟩
  · rename_i hx
    iterate 11 refine br_f (by decide) ?_
    refine br_t rfl ⟨sg_L_in hx hn, sg_L_in hx hn, br_c (fun z => ?_) (fun z => ?_)⟩
    · rw [if_pos z] at hp; exact hp
    · rw [if_neg z] at hp; exact hp
  · rename_i hx hy hz
    iterate 12 refine br_f (by decide) ?_
    refine br_t rfl ⟨sg_L_in hx hn, br_c (fun z => ⟨sg_E_in hz hn, nH _, ?_⟩) (fun z => ⟨sg_E_in hy hn, nH _, ?_⟩)⟩
    · rw [if_pos z] at hp; exact hp
    · rw [if_neg z] at hp; exact hp
  · iterate 13 refine br_f (by decide) ?_
    exact br_t rfl ⟨hin, nW j, hp⟩
  · rename_i hx
    iterate 14 refine br_f (by decide) ?_
    refine br_t rfl ⟨sg_E_in hx hn, br_c (fun z => ?_) (fun z => ⟨hin, br_c (fun y => ?_) (fun y => ?_)⟩)⟩
    · rw [if_pos z] at hp; exact hp
    · rw [if_neg z, if_pos y] at hp; exact hp
    · rw [if_neg z, if_neg y] at hp; exact hp
  · exact absurd (Or.inr (Or.inr (Or.inl e))) hnc
  · exact absurd (Or.inr (Or.inr (Or.inr e))) hnc
theorem sg_xEVal {post : Int32 → Prop} {j : Nat} (hn : n ≤ 24) (hj : j < n) (hf : sg_fit K n (K j) (A j) (B j) (C j)) (hnc : ¬ sg_ce (K j)) (hp : post (sg_w K A B V D U S C j)) : wpX_eventValue post (nI n, o, l, c, K, A, B, C, H, V, D, T, W, U, S, O) (nI j) := by
  unfold wpX_eventValue
  dsimp only
  have hin : vp_in (nI j) 24 := vp_in_nI (by omega) (by omega)
  rw [nI_clamp (by omega)]
  refine ⟨hin, nm_e ⟨hin, nm_e ⟨hin, nm_e ⟨hin, nm_e ?_⟩⟩⟩⟩
  unfold sg_w at hp
  refine sg_fit_cases hf ?_ ?_ ?_ ?_ ?_ ?_ ?_ ?_ ?_ ?_ ?_ ?_ ?_ ?_ ?_ <;> intro e <;> intros <;> simp (decide := true) only [e, if_true, if_false] at hp <;> rw [e]
  · iterate 2 refine br_f (by decide) ?_
    exact br_t rfl ⟨hin, hp⟩
  · rename_i hx
    iterate 3 refine br_f (by decide) ?_
    exact br_t rfl ⟨sg_E_in hx hn, hp⟩
  · rename_i hx
    iterate 4 refine br_f (by decide) ?_
    exact br_t rfl ⟨sg_E_in hx hn, hp⟩
  · rename_i hx hy
    iterate 5 refine br_f (by decide) ?_
    exact br_t rfl ⟨sg_E_in hx hn, sg_E_in hy hn, hp⟩
  · exact absurd (Or.inl e) hnc
  · rename_i hx hy
    iterate 7 refine br_f (by decide) ?_
    exact br_t rfl ⟨sg_E_in hx hn, sg_L_in hy hn, hp⟩
  · exact absurd (Or.inr (Or.inl e)) hnc
  · rename_i hx hy
    iterate 9 refine br_f (by decide) ?_
    exact br_t rfl ⟨sg_E_in hx hn, hp⟩
  · rename_i hx
    iterate 10 refine br_f (by decide) ?_
    exact br_t rfl ⟨hin, sg_E_in hx hn, hp⟩
  · rename_i hx
    iterate 11 refine br_f (by decide) ?_
    exact br_t rfl ⟨sg_L_in hx hn, hp⟩
  · rename_i hx hy hz
    iterate 12 refine br_f (by decide) ?_
    refine br_t rfl ⟨sg_L_in hx hn, br_c (fun z => ⟨sg_E_in hz hn, ?_⟩) (fun z => ⟨sg_E_in hy hn, ?_⟩)⟩
    · rw [if_pos z] at hp; exact hp
    · rw [if_neg z] at hp; exact hp
  · iterate 13 refine br_f (by decide) ?_
    exact br_t rfl ⟨hin, hp⟩
  · rename_i hx
    refine br_f (by decide) (br_t (by decide) ⟨sg_E_in hx hn, hp⟩)
  · exact absurd (Or.inr (Or.inr (Or.inl e))) hnc
  · exact absurd (Or.inr (Or.inr (Or.inr e))) hnc
theorem sg_xWork {post : SX → Prop} {j : Nat} (hn : n ≤ 24) (hj : j < n) (hw : sg_wf n K A B C) (hH : ∀ j, H j = 0 ∨ H j = 1) (hW : ∀ j, W j = 0 ∨ W j = 1) (hHc : sg_ce (K j) → H j = 0) (hp : post (nI n, o, l, c, K, A, B, C, upd H j (sg_h K A B H V D W T C j), upd V j (sg_v K A B H V D W T U S C j), D, T, W, U, S, O)) : wpX_workOut post (nI n, o, l, c, K, A, B, C, H, V, D, T, W, U, S, O) (nI j) := by
  have hf := sg_wf_n hw hj
  unfold wpX_workOut
  dsimp only
  have hin : vp_in (nI j) 24 := vp_in_nI (by omega) (by omega)
  rw [nI_clamp (by omega)]
  have hcell : sg_ce (K j) → upd H j (sg_h K A B H V D W T C j) = H := by
    intro hc
    rw [sg_h_ce hc]
    funext i
    by_cases e : i = j
    · subst e; rw [pk_us, hHc hc]
    · rw [pk_un e]
  refine ⟨hin, br_c (fun e4 => ?_) (fun n4 => ⟨hin, sg_xCk (fun hc => br_f (by decide) ?_) (fun hc => br_t rfl ?_)⟩)⟩
  · rw [hcell (Or.inl e4)] at hp
    have hx : A j = -1 ∨ sg_E K n (A j) := by rw [e4] at hf; exact sg_f4 hf
    refine sg_xHeld hn hj hx ⟨hin, nm_e ?_⟩
    unfold sg_v at hp
    rw [if_pos e4] at hp
    exact hp
  · rw [hcell hc] at hp
    have hd : sg_dv (K j) := by
      rcases hc with e | e | e | e
      · exact absurd e n4
      · exact Or.inl e
      · exact Or.inr (Or.inl e)
      · exact Or.inr (Or.inr e)
    refine sg_xDc (b := n) (by omega) hn hf hd ⟨hin, nm_e ?_⟩
    unfold sg_v at hp
    rw [if_neg n4] at hp
    rcases hd with e | e | e <;> simp (decide := true) only [e, if_true, if_false] at hp <;> exact hp
  · refine sg_xEH hn hj hf hH hW hc ⟨hin, nm_e ⟨hin, ?_⟩⟩
    rw [sg_vb (sg_h_01 hH hW), pk_us]
    unfold sg_v at hp
    rw [if_neg (fun e => hc (Or.inl e)), if_neg (fun e => hc (Or.inr (Or.inl e))), if_neg (fun e => hc (Or.inr (Or.inr (Or.inl e)))), if_neg (fun e => hc (Or.inr (Or.inr (Or.inr e))))] at hp
    refine br_c (fun z => ⟨hin, nm_e ?_⟩) (fun z => sg_xEVal hn hj hf hc ⟨hin, nm_e ?_⟩)
    · rw [if_pos z] at hp; exact hp
    · rw [if_neg z] at hp; exact hp
end
