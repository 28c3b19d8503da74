section
variable {n k : Nat} {o l c : Int32} {K A B C H V D T W U S O h v F d p g : Nat → Int32}
theorem sg_E_in {b : Nat} {x : Int32} (hE : sg_E K b x) (hb : b ≤ 24) : vp_in x 24 := by
  obtain ⟨a, ha, e, _⟩ := hE
  exact pk_in a 24 (by omega) e
theorem sg_L_in {b : Nat} {x : Int32} (hL : sg_L K b x) (hb : b ≤ 24) : vp_in x 24 := by
  obtain ⟨a, ha, e, _⟩ := hL
  exact pk_in a 24 (by omega) e
theorem sg_E_cl {b : Nat} {x : Int32} (hE : sg_E K b x) (hb : b ≤ 24) : x.toNatClampNeg < b := by
  obtain ⟨a, ha, e, _⟩ := hE
  rw [e, nI_clamp (by omega)]
  exact ha
theorem sg_L_cl {b : Nat} {x : Int32} (hL : sg_L K b x) (hb : b ≤ 24) : x.toNatClampNeg < b := by
  obtain ⟨a, ha, e, _⟩ := hL
  rw [e, nI_clamp (by omega)]
  exact ha
theorem sg_f6 {b : Nat} {x y z : Int32} (hf : sg_fit K b 6 x y z) : sg_L K b x ∧ sg_L K b y := by simpa (decide := true) [sg_fit] using hf
theorem sg_f13 {b : Nat} {x y z : Int32} (hf : sg_fit K b 13 x y z) : sg_L K b x ∧ sg_L K b y ∧ sg_L K b z := by simpa (decide := true) [sg_fit] using hf
theorem sg_f14 {b : Nat} {x y z : Int32} (hf : sg_fit K b 14 x y z) : sg_L K b x := by simpa (decide := true) [sg_fit] using hf
theorem sg_f4 {b : Nat} {x y z : Int32} (hf : sg_fit K b 4 x y z) : x = -1 ∨ sg_E K b x := by simpa (decide := true) [sg_fit] using hf
theorem sg_f_r {b : Nat} {q x y z : Int32} (hf : sg_fit K b q x y z) : ¬ q < 0 ∧ ¬ 14 < q := by
  refine sg_fit_cases hf ?_ ?_ ?_ ?_ ?_ ?_ ?_ ?_ ?_ ?_ ?_ ?_ ?_ ?_ ?_ <;> intro e <;> subst e <;> intros <;> decide
theorem sg_xDc {post : Int32 → Prop} {j b : Nat} (hj : j < 24) (hb : b ≤ 24) (hf : sg_fit K b (K j) (A j) (B j) (C j)) (hd : sg_dv (K j)) (hp : post (sg_dc K A B C V j)) : wpX_derivedCell post (nI n, o, l, c, K, A, B, C, H, V, D, T, W, U, S, O) (nI j) := by
  unfold wpX_derivedCell
  dsimp only
  have hin : vp_in (nI j) 24 := vp_in_nI (by omega) (by omega)
  rw [nI_clamp (by omega)]
  refine ⟨hin, nm_e ⟨hin, nm_e ⟨hin, nm_e ⟨hin, nm_e ?_⟩⟩⟩⟩
  unfold sg_dc at hp
  rcases hd with e | e | e
  · rw [e] at hf hp ⊢
    obtain ⟨hx, hy⟩ := sg_f6 hf
    exact br_t rfl ⟨sg_L_in hx hb, sg_L_in hy hb, hp⟩
  · rw [e] at hf hp ⊢
    obtain ⟨hx, hy, hz⟩ := sg_f13 hf
    refine br_f (by decide) (br_t rfl ⟨sg_L_in hx hb, ?_⟩)
    rw [if_neg (by decide), if_pos rfl] at hp
    by_cases z : V (A j).toNatClampNeg = 0
    · rw [if_pos z] at hp
      exact br_t z ⟨sg_L_in hz hb, hp⟩
    · rw [if_neg z] at hp
      exact br_f z ⟨sg_L_in hy hb, hp⟩
  · rw [e] at hf hp ⊢
    have hx := sg_f14 hf
    exact br_f (by decide) (br_f (by decide) ⟨sg_L_in hx hb, hp⟩)
theorem sg_xFirst {post : Int32 → Prop} {j b : Nat} (hj : j < 24) (hb : b ≤ 24) (hf : sg_fit K b (K j) (A j) (B j) (C j)) (h4 : K j = 4 → post (B j)) (hd : sg_dv (K j) → post (sg_dc K A B C V j)) (h0 : K j ≠ 4 → ¬ sg_dv (K j) → post 0) : wpX_firstValue post (nI n, o, l, c, K, A, B, C, H, V, D, T, W, U, S, O) (nI j) := by
  unfold wpX_firstValue
  dsimp only
  have hin : vp_in (nI j) 24 := vp_in_nI (by omega) (by omega)
  rw [nI_clamp (by omega)]
  refine ⟨hin, br_c (fun e => ⟨hin, h4 e⟩) (fun n4 => ⟨hin, sg_xCk (fun hc => br_f (by decide) ?_) (fun hc => br_t rfl (h0 n4 ?_))⟩)⟩
  · have hd' : sg_dv (K j) := by
      rcases hc with e | e | e | e
      · exact absurd e n4
      · exact Or.inl e
      · exact Or.inr (Or.inl e)
      · exact Or.inr (Or.inr e)
    exact sg_xDc hj hb hf hd' (hd hd')
  · intro hd
    rcases hd with e | e | e
    · exact hc (Or.inr (Or.inl e))
    · exact hc (Or.inr (Or.inr (Or.inl e)))
    · exact hc (Or.inr (Or.inr (Or.inr e)))
theorem sg_dc_V {j b : Nat} {R : Nat → Int32} (hb : b ≤ 24) (hf : sg_fit K b (K j) (A j) (B j) (C j)) (hd : sg_dv (K j)) (he : ∀ a, a < b → V a = R a) : sg_dc K A B C V j = sg_dc K A B C R j := by
  unfold sg_dc
  rcases hd with e | e | e
  · rw [e] at hf ⊢
    obtain ⟨hx, hy⟩ := sg_f6 hf
    rw [if_pos rfl, if_pos rfl, he _ (sg_L_cl hx hb), he _ (sg_L_cl hy hb)]
  · rw [e] at hf ⊢
    obtain ⟨hx, hy, hz⟩ := sg_f13 hf
    rw [he _ (sg_L_cl hx hb), he _ (sg_L_cl hy hb), he _ (sg_L_cl hz hb)]
  · rw [e] at hf ⊢
    have hx := sg_f14 hf
    rw [if_neg (by decide), if_neg (by decide), if_neg (by decide), if_neg (by decide), he _ (sg_L_cl hx hb)]
theorem sg_yr35 {post : SY → Prop} {J : Int32 → (Nat → Int32) → (Nat → Int32) → (Nat → Int32) → (Nat → Int32) → (Nat → Int32) → (Nat → Int32) → (Nat → Int32) → (Nat → Int32) → (Nat → Int32) → (Nat → Int32) → (Nat → Int32) → Prop} {i b : Nat} (hi : i < 24) (hb : b ≤ 24) (hf : sg_fit K b (K i) (A i) (B i) (C i)) (hd : sg_dv (K i)) (hJ : J (nI (i + 1)) K A B C h (upd v i (sg_dc K A B C v i)) F T d p g) : wY_refresh_35 post J (nI i) (K i) (nI n) c K A B C h v F T d p g := by
  unfold wY_refresh_35 wY_refresh_74 wY_refresh_95 wpY_made
  dsimp only
  have hin : vp_in (nI i) 24 := vp_in_nI (by omega) (by omega)
  rw [nI_clamp (by omega)]
  have hd0 := hd
  rcases hd with e | e | e
  · have hdc : sg_dc K A B C v i = v (A i).toNatClampNeg + v (B i).toNatClampNeg := by unfold sg_dc; rw [if_pos e]
    rw [hdc] at hJ
    rw [e] at hf ⊢
    obtain ⟨hx, hy⟩ := sg_f6 hf
    exact ⟨hin, sg_L_in hx hb, br_f (by decide) ⟨hin, sg_L_in hy hb, br_f (by decide) ⟨hin, br_t rfl ⟨hin, nm_e (nm_r (nI_1 i) hJ)⟩⟩⟩⟩
  · rw [e] at hf ⊢
    obtain ⟨hx, hy, hz⟩ := sg_f13 hf
    refine ⟨hin, sg_L_in hx hb, br_f (by decide) ⟨hin, sg_L_in hy hb, br_t rfl ⟨hin, sg_L_in hz hb, hin, br_f (by decide) ⟨hin, br_t rfl ?_⟩⟩⟩⟩
    have hdc : sg_dc K A B C v i = if v (A i).toNatClampNeg = 0 then v (C i).toNatClampNeg else v (B i).toNatClampNeg := by unfold sg_dc; rw [e, if_neg (by decide), if_pos rfl]
    rw [hdc] at hJ
    by_cases z : v (A i).toNatClampNeg = 0
    · rw [if_pos z] at hJ
      exact br_t z ⟨hin, nm_e (nm_r (nI_1 i) hJ)⟩
    · rw [if_neg z] at hJ
      exact br_f z ⟨hin, nm_e (nm_r (nI_1 i) hJ)⟩
  · have hdc : sg_dc K A B C v i = v (A i).toNatClampNeg * B i + C i := by unfold sg_dc; rw [e, if_neg (by decide), if_neg (by decide)]
    rw [hdc] at hJ
    rw [e] at hf ⊢
    have hx := sg_f14 hf
    exact ⟨hin, sg_L_in hx hb, br_t rfl (br_f (by decide) ⟨hin, br_f (by decide) ⟨hin, br_f (by decide) ⟨hin, hin, hin, nm_e (nm_r (nI_1 i) hJ)⟩⟩⟩)⟩
theorem sg_yRefresh {post : SY → Prop} {R : Nat → Int32} (hn : n ≤ 24) (hw : sg_wf n K A B C) (hR : ∀ j, j < n → sg_dv (K j) → R j = sg_dc K A B C R j) (hv : ∀ j, ¬ (j < n ∧ sg_dv (K j)) → v j = R j) (hp : post (nI n, c, K, A, B, C, h, R, F, T, d, p, g)) : wpY_refresh post (nI n, c, K, A, B, C, h, v, F, T, d, p, g) := by
  unfold wpY_refresh
  dsimp only
  refine loop_0 (fun f i s => wY_refresh_2 post (nI n) c f (nI i) K A B C h s F T d p g) (fun i s => (∀ j, j < i → s j = R j) ∧ (∀ j, i ≤ j → s j = v j)) n v ⟨fun j hj => absurd hj (by omega), fun _ _ => rfl⟩ ?_ ?_
  · rintro f s ⟨a, b⟩
    have e : s = R := by
      funext j
      by_cases hj : j < n
      · exact a j hj
      · rw [b j (by omega)]
        exact hv j fun z => hj z.1
    subst e
    exact br_t (nI_le (Nat.le_refl n) (by omega)) hp
  · rintro f i s hi ⟨a, b⟩ ih
    have hin : vp_in (nI i) 24 := vp_in_nI (by omega) (by omega)
    have hcl : (nI i).toNatClampNeg = i := nI_clamp (by omega)
    have hder : sg_dv (K i) → wY_refresh_35 post (wY_refresh_2 post (nI n) c f) (nI i) (K i) (nI n) c K A B C h s F T d p g := by
      intro hd
      have hf := hw i hi
      have n4 : K i ≠ 4 := by
        intro e
        rw [e] at hd
        rcases hd with z | z | z <;> exact absurd z (by decide)
      rw [if_neg n4] at hf
      refine sg_yr35 (by omega) (b := i) (by omega) hf hd (ih _ ⟨?_, ?_⟩)
      · intro j hj
        by_cases e : j = i
        · subst e
          rw [pk_us, hR j hi hd]
          exact sg_dc_V (by omega) hf hd a
        · rw [pk_un e]
          exact a j (by omega)
      · intro j hj
        rw [pk_un (by omega)]
        exact b j (by omega)
    refine br_f (nI_ge hi (by omega)) ⟨hin, ?_⟩
    rw [hcl]
    refine nm_e (br_c (fun e => hder (Or.inl e)) (fun n6 => br_c (fun e => hder (Or.inr (Or.inl e))) (fun n13 => br_c (fun e => hder (Or.inr (Or.inr e))) (fun n14 => nm_r (nI_1 i) (ih s ⟨?_, fun j hj => b j (by omega)⟩)))))
    intro j hj
    by_cases e : j = i
    · subst e
      rw [b j (by omega)]
      refine hv j fun z => ?_
      rcases z.2 with z | z | z
      · exact n6 z
      · exact n13 z
      · exact n14 z
    · exact a j (by omega)
/-- the state with a new node -/
theorem sg_relNode {q x y z r : Int32} (hn : n < 24) (hw : sg_wf n K A B C) (hac : sg_ac n K A B C) (hS : sg_S n K A B C H V T W U S p g k) (hf : sg_fit K n q x y z) (hr : sg_dv q → r = sg_dc (upd K n q) (upd A n x) (upd B n y) (upd C n z) V n) :
    sg_wf (n + 1) (upd K n q) (upd A n x) (upd B n y) (upd C n z) ∧ (∀ j, j < n + 1 → sg_dv (upd K n q j) → upd V n r j = sg_dc (upd K n q) (upd A n x) (upd B n y) (upd C n z) (upd V n r) j) ∧ i_Rel (k + 5) (nI (n + 1), 1, l, c, upd K n q, upd A n x, upd B n y, upd C n z, upd H n 0, upd V n r, D, upd T n 0, upd W n 0, upd U n 0, upd S n 0, O) (nI (n + 1), c, upd K n q, upd A n x, upd B n y, upd C n z, upd H n 0, upd V n r, F, upd T n 0, d, upd p n 0, upd g n 0) := by
  have hK : ∀ b, b ≤ n → ∀ j, j < b → upd K n q j = K j := fun b hb j hj => pk_un (by omega)
  have hf' : sg_fit (upd K n q) n q x y z := sg_fit_cg (hK n (by omega)) hf
  have hdiff : ∀ {w : Int32}, sg_dv w → w ≠ 4 := by
    intro w hd e
    rw [e] at hd
    rcases hd with z | z | z <;> exact absurd z (by decide)
  have hW : sg_wf (n + 1) (upd K n q) (upd A n x) (upd B n y) (upd C n z) := by
    intro j hj
    by_cases e : j = n
    · subst e
      rw [pk_us, pk_us, pk_us, pk_us]
      refine sg_fit_le hf' ?_
      split <;> omega
    · rw [pk_un e, pk_un e, pk_un e, pk_un e]
      have h1 := hw j (by omega)
      by_cases e4 : K j = 4
      · rw [if_pos e4] at h1 ⊢
        exact sg_fit_le (sg_fit_cg (hK n (by omega)) h1) (by omega)
      · rw [if_neg e4] at h1 ⊢
        exact sg_fit_cg (hK j (by omega)) h1
  have hD : ∀ j, j < n + 1 → sg_dv (upd K n q j) → upd V n r j = sg_dc (upd K n q) (upd A n x) (upd B n y) (upd C n z) (upd V n r) j := by
    intro j hj hd
    have h1 := hW j hj
    rw [if_neg (hdiff hd)] at h1
    rw [← sg_dc_V (V := V) (b := j) (by omega) h1 hd (fun a ha => (pk_un (by omega)).symm)]
    by_cases e : j = n
    · subst e
      rw [pk_us] at hd ⊢
      exact hr hd
    · rw [pk_un e] at hd ⊢
      have h2 : sg_dc (upd K n q) (upd A n x) (upd B n y) (upd C n z) V j = sg_dc K A B C V j := by
        unfold sg_dc
        rw [pk_un e, pk_un e, pk_un e, pk_un e]
      rw [h2]
      exact hS.2.2.2.2.2.2.2.2 j (by omega) hd
  refine ⟨hW, hD, ?_⟩
  obtain ⟨s1, s2, s3, s4, s5, s6, s7, s8, s9⟩ := hS
  refine i_up ⟨n + 1, 1, l, c, _, _, _, _, _, _, D, _, _, _, _, O, F, d, _, _, rfl, rfl, by omega, hW, ?_, ⟨?_, ?_, ?_, ?_, ?_, ?_, ?_, ?_, hD⟩, fun z => absurd z (by decide)⟩
  · obtain ⟨rk, h1, h2⟩ := sg_ac_b (by omega) hw hac
    refine ⟨fun j => if j = n then n else rk j, ?_⟩
    rintro j m ⟨hj, hm, i, hi, e⟩
    dsimp only
    by_cases ej : j = n
    · subst ej
      rw [pk_us, pk_us, pk_us, pk_us] at e
      rw [if_pos rfl]
      rcases sg_pt_r hf' i with z | ⟨a, ha, z⟩
      · exact absurd (e.symm.trans z) (sg_ne1 (by omega))
      · rw [e, nI_eq (by omega) (by omega)] at z
        subst z
        rw [if_neg (by omega)]
        exact h1 m ha
    · rw [pk_un ej, pk_un ej, pk_un ej, pk_un ej] at e
      have hP : sg_P n K A B C j m := ⟨by omega, hm, i, hi, e⟩
      have := sg_P_lt (by omega) hw hP
      rw [if_neg ej, if_neg (by omega)]
      exact h2 j m hP
  · intro j
    by_cases e : j = n
    · subst e; exact Or.inl pk_us
    · rw [pk_un e]; exact s1 j
  · intro j
    by_cases e : j = n
    · subst e; exact Or.inl pk_us
    · rw [pk_un e]; exact s2 j
  · intro j
    by_cases e : j = n
    · subst e; exact Or.inl pk_us
    · rw [pk_un e]; exact s3 j
  · intro j hj
    by_cases e : j = n
    · subst e; exact fun _ => pk_us
    · rw [pk_un e, pk_un e]; exact s4 j (by omega)
  · intro j hj
    by_cases e : j = n
    · subst e; exact fun _ => ⟨by rw [pk_us, pk_us], by rw [pk_us, pk_us]⟩
    · rw [pk_un e, pk_un e, pk_un e, pk_un e, pk_un e]; exact s5 j (by omega)
  · intro j hj
    by_cases e : j = n
    · subst e; exact fun _ => by rw [pk_us, pk_us]
    · rw [pk_un e, pk_un e, pk_un e]; exact s6 j (by omega)
  · intro j hj
    by_cases e : j = n
    · subst e; intro _; rw [pk_us, pk_us]
    · rw [pk_un e, pk_un e, pk_un e]; exact s7 j (by omega)
  · intro j
    by_cases e : j = n
    · subst e; exact ⟨0, by omega, pk_us⟩
    · rw [pk_un e]; exact s8 j
/-- the reference's node, where the operands fit -/
theorem sg_yNode {post : Int32 → SY → Prop} {q x y z r : Int32} (hn : n < 24) (hw : sg_wf (n + 1) (upd K n q) (upd A n x) (upd B n y) (upd C n z)) (hf : sg_fit K n q x y z)
    (hD : ∀ j, j < n + 1 → sg_dv (upd K n q j) → upd v n r j = sg_dc (upd K n q) (upd A n x) (upd B n y) (upd C n z) (upd v n r) j)
    (h4 : q = 4 → r = y) (h0 : q ≠ 4 → ¬ sg_dv q → r = 0)
    (hp : post (nI n) (nI (n + 1), c, upd K n q, upd A n x, upd B n y, upd C n z, upd h n 0, upd v n r, F, upd T n 0, d, upd p n 0, upd g n 0)) : wpY_node post (nI n, c, K, A, B, C, h, v, F, T, d, p, g) q x y z := by
  unfold wpY_node
  dsimp only
  have hin : vp_in (nI n) 24 := vp_in_nI (by omega) (by omega)
  have hcl : (nI n).toNatClampNeg = n := nI_clamp (by omega)
  have hne : ¬ nI n = 24 := fun e => by
    have := (nI_eq (a := n) (b := 24) (by omega) (by omega)).mp e
    omega
  obtain ⟨hq1, hq2⟩ := sg_f_r hf
  refine br_f hne (br_f hq1 (br_f hq2 (sg_yFit (by omega) hq1 hq2 (fun _ => br_f (by decide) ?_) (fun z => absurd hf z))))
  rw [hcl, sg_vb0]
  have h105 : ∀ r0 : Int32, (¬ sg_dv q → r0 = r) → wY_node_105 post r0 (nI n) (nI n) c (upd K n q) (upd A n x) (upd B n y) (upd C n z) (upd h n 0) v F T d p g := by
    intro r0 hr0
    unfold wY_node_105
    rw [hcl, sg_vb0]
    refine ⟨hin, nm_e ⟨hin, nm_e ⟨hin, nm_e ⟨hin, nm_e (nm_r (nI_1 n) ?_)⟩⟩⟩⟩
    refine sg_yRefresh (n := n + 1) (R := upd v n r) (by omega) hw hD ?_ ?_
    · intro j hj
      by_cases e : j = n
      · subst e
        rw [pk_us, pk_us]
        rw [pk_us] at hj
        exact hr0 fun z => hj ⟨by omega, z⟩
      · rw [pk_un e, pk_un e]
    · show post (nI (n + 1) - 1) _
      rw [nI_pred]
      exact hp
  refine ⟨hin, nm_e ⟨hin, nm_e ⟨hin, nm_e ⟨hin, nm_e ⟨hin, nm_e (br_c (fun e => h105 _ ?_) (fun ne => h105 _ ?_))⟩⟩⟩⟩⟩
  · exact fun _ => (h4 e).symm
  · exact fun nd => (h0 ne nd).symm
end
theorem i_vc_node {k : Nat} {u : SX} {v : SY} (I : i_Rel k u v) (hk : k + 5 ≤ 2560) (v1 : Int32) (v2 : Int32) (v3 : Int32) (v4 : Int32) : wpX_node (fun r u' => wpY_node (fun r' v' => r' = r ∧ i_Rel (k + 5) u' v') v v1 v2 v3 v4) u v1 v2 v3 v4 := by
  have I5 := i_up I
  obtain ⟨n, o, l, c, K, A, B, C, H, V, D, T, W, U, S, O, F, d, p, g, rfl, rfl, hn, hw, hac, hS, ht⟩ := I
  unfold wpX_node
  dsimp only
  by_cases hfull : n < 24
  · have hin : vp_in (nI n) 24 := vp_in_nI (by omega) (by omega)
    have hcl : (nI n).toNatClampNeg = n := nI_clamp (by omega)
    refine br_t (nI_lt (b := 24) hfull (by omega)) (sg_xFit hn (fun hf => br_f (by decide) ?_) (fun hf => br_t rfl ?_))
    · rw [hcl]
      refine ⟨hin, nm_e ⟨hin, nm_e ⟨hin, nm_e ⟨hin, nm_e ?_⟩⟩⟩⟩
      unfold wpX_forgetPast
      dsimp only
      rw [hcl, sg_vb0]
      refine ⟨hin, nm_e ⟨hin, nm_e ⟨hin, nm_e ⟨hin, nm_e ⟨hin, nm_e ?_⟩⟩⟩⟩⟩
      have hf' : sg_fit (upd K n v1) n (upd K n v1 n) (upd A n v2 n) (upd B n v3 n) (upd C n v4 n) := by
        rw [pk_us, pk_us, pk_us, pk_us]
        exact sg_fit_cg (fun j hj => pk_un (by omega)) hf
      have fin : ∀ r : Int32, (v1 = 4 → r = v3) → (sg_dv v1 → r = sg_dc (upd K n v1) (upd A n v2) (upd B n v3) (upd C n v4) V n) → (v1 ≠ 4 → ¬ sg_dv v1 → r = 0) → wpY_node (fun r' v' => r' = nI n ∧ i_Rel (k + 5) (nI (n + 1), 1, l, c, upd K n v1, upd A n v2, upd B n v3, upd C n v4, upd H n 0, upd V n r, D, upd T n 0, upd W n 0, upd U n 0, upd S n 0, O) v') (nI n, c, K, A, B, C, H, V, F, T, d, p, g) v1 v2 v3 v4 := by
        intro r r4 rd r0
        obtain ⟨q1, q2, q3⟩ := sg_relNode (l := l) (c := c) (D := D) (O := O) (F := F) (d := d) (r := r) hfull hw hac hS hf rd
        exact sg_yNode hfull q1 hf q2 r4 r0 ⟨rfl, q3⟩
      refine sg_xFirst (b := n) (by omega) hn hf' (fun e => ?_) (fun e => ?_) (fun ne nd => ?_)
      · rw [pk_us] at e
        rw [pk_us]
        refine ⟨hin, nm_e (nm_r (nI_1 n) (fin v3 (fun _ => rfl) (fun hd => ?_) (fun ne => absurd e ne)))⟩
        rw [e] at hd
        rcases hd with z | z | z <;> exact absurd z (by decide)
      · rw [pk_us] at e
        refine ⟨hin, nm_e (nm_r (nI_1 n) (fin _ (fun e4 => ?_) (fun _ => rfl) (fun _ nd => absurd e nd)))⟩
        rw [e4] at e
        rcases e with z | z | z <;> exact absurd z (by decide)
      · rw [pk_us] at ne nd
        exact ⟨hin, nm_e (nm_r (nI_1 n) (fin 0 (fun e => absurd e ne) (fun e => absurd e nd) (fun _ _ => rfl)))⟩
    · unfold wpY_node
      dsimp only
      have hne : ¬ nI n = 24 := fun e => by
        have := (nI_eq (a := n) (b := 24) (by omega) (by omega)).mp e
        omega
      refine br_f hne (br_c (fun _ => ⟨rfl, I5⟩) (fun hq1 => br_c (fun _ => ⟨rfl, I5⟩) (fun hq2 => sg_yFit hn hq1 hq2 (fun z => absurd z hf) (fun _ => br_t rfl ⟨rfl, I5⟩))))
  · have e : n = 24 := by omega
    subst e
    exact br_f (by decide) (br_t rfl ⟨rfl, I5⟩)
