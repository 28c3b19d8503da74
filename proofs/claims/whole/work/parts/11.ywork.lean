def sg_VV (K v F : Nat → Int32) (m : Nat) : Int32 := if K m = 4 then F m else if K m = 6 then F m else if K m = 13 then F m else if K m = 14 then F m else v m
theorem sg_VV_c {K v F : Nat → Int32} {m : Nat} (hc : sg_ce (K m)) : sg_VV K v F m = F m := by
  unfold sg_VV
  rcases hc with e | e | e | e <;> simp (decide := true) only [e, if_true, if_false]
theorem sg_VV_e {K v F : Nat → Int32} {m : Nat} (hc : ¬ sg_ce (K m)) : sg_VV K v F m = v m := by
  unfold sg_VV
  rw [if_neg (fun e => hc (Or.inl e)), if_neg (fun e => hc (Or.inr (Or.inl e))), if_neg (fun e => hc (Or.inr (Or.inr (Or.inl e)))), if_neg (fun e => hc (Or.inr (Or.inr (Or.inr e))))]
section
variable {n k : Nat} {o l c : Int32} {K A B C H V D T W U S O h v F d p g : Nat → Int32}
theorem sg_yGive {post : SY → Prop} {j : Nat} {b x : Int32} (hj : j < 24) (hb : b = 0 ∨ b = 1) (h0 : b = 0 → post (nI n, c, K, A, B, C, upd h j 0, upd v j 0, F, T, d, p, g)) (h1 : b = 1 → post (nI n, c, K, A, B, C, upd h j 1, upd v j x, F, T, d, p, g)) : wpY_give post (nI n, c, K, A, B, C, h, v, F, T, d, p, g) (nI j) b x := by
  unfold wpY_give
  dsimp only
  have hin : vp_in (nI j) 24 := vp_in_nI (by omega) (by omega)
  rw [nI_clamp (by omega)]
  rcases hb with e | e
  · subst e
    rw [sg_vb0]
    exact ⟨hin, nm_e (br_t rfl ⟨hin, nm_e (h0 rfl)⟩)⟩
  · subst e
    rw [sg_vb1]
    exact ⟨hin, nm_e (br_f (by decide) ⟨hin, nm_e (h1 rfl)⟩)⟩
theorem sg_yCopy {post : SY → Prop} {j : Nat} {x b : Int32} (hj : j < 24) (hx : vp_in x 24) (h0 : (b = 0 ∨ h x.toNatClampNeg = 0) → post (nI n, c, K, A, B, C, upd h j 0, upd v j 0, F, T, d, p, g)) (h1 : ¬ b = 0 → ¬ h x.toNatClampNeg = 0 → post (nI n, c, K, A, B, C, upd h j 1, upd v j (v x.toNatClampNeg), F, T, d, p, g)) : wpY_copy post (nI n, c, K, A, B, C, h, v, F, T, d, p, g) (nI j) x b := by
  unfold wpY_copy
  dsimp only
  have c19 : (b = 0 ∨ h x.toNatClampNeg = 0) → wY_copy_19 post x (nI j) (nI n) c K A B C h v F T d p g := fun z => ⟨hx, sg_yGive hj (Or.inl rfl) (fun _ => h0 z) (fun e => absurd e (by decide))⟩
  refine br_c (fun z => c19 (Or.inl z)) (fun z => ⟨hx, br_c (fun y => c19 (Or.inr y)) (fun y => ?_)⟩)
  exact ⟨hx, sg_yGive hj (Or.inr rfl) (fun e => absurd e (by decide)) (fun _ => h1 z y)⟩
theorem sg_yMade {post : Int32 → Prop} {j : Nat} {x y z : Int32} (hj : j < 24) (hd : sg_dv (K j)) (hp : post (if K j = 6 then x + y else if K j = 13 then (if x = 0 then z else y) else x * B j + C j)) : wpY_made post (nI n, c, K, A, B, C, h, v, F, T, d, p, g) (nI j) x y z := by
  unfold wpY_made
  dsimp only
  have hin : vp_in (nI j) 24 := vp_in_nI (by omega) (by omega)
  rw [nI_clamp (by omega)]
  refine ⟨hin, ?_⟩
  by_cases e6 : K j = 6
  · rw [if_pos e6] at hp
    exact br_t e6 hp
  rw [if_neg e6] at hp
  refine br_f e6 ⟨hin, ?_⟩
  by_cases e13 : K j = 13
  · rw [if_pos e13] at hp
    refine br_t e13 ?_
    by_cases q : x = 0
    · rw [if_pos q] at hp; exact br_t q hp
    · rw [if_neg q] at hp; exact br_f q hp
  · rw [if_neg e13] at hp
    exact br_f e13 ⟨hin, hin, hp⟩
theorem sg_yw163 {post : SY → Prop} {j : Nat} (hn : n ≤ 24) (hj : j < n) (hf : sg_fit K n (K j) (A j) (B j) (C j)) (hd : sg_dv (K j)) (hp : post (nI n, c, K, A, B, C, h, v, upd F j (sg_dc K A B C F j), T, d, p, g)) : wY_work_163 post (nI j) (K j) (A j) (B j) (nI n) c K A B C h v F T d p g := by
  unfold wY_work_163 wY_work_193 wY_work_214
  have hin : vp_in (nI j) 24 := vp_in_nI (by omega) (by omega)
  rw [nI_clamp (by omega)]
  unfold sg_dc at hp
  have hd0 := hd
  rcases hd with e | e | e
  · rw [e] at hf
    obtain ⟨hx, hy⟩ := sg_f6 hf
    rw [e]
    refine ⟨sg_L_in hx hn, br_f (by decide) ⟨sg_L_in hy hn, br_f (by decide) (sg_yMade (by omega) hd0 ⟨hin, nm_e ?_⟩)⟩⟩
    rw [if_pos e] at hp ⊢
    exact hp
  · rw [e] at hf
    obtain ⟨hx, hy, hz⟩ := sg_f13 hf
    rw [e]
    refine ⟨sg_L_in hx hn, br_f (by decide) ⟨sg_L_in hy hn, br_t rfl ⟨hin, sg_L_in hz hn, sg_yMade (by omega) hd0 ⟨hin, nm_e ?_⟩⟩⟩⟩
    exact hp
  · rw [e] at hf
    have hx := sg_f14 hf
    rw [e]
    refine ⟨sg_L_in hx hn, br_t rfl (br_f (by decide) (sg_yMade (by omega) hd0 ⟨hin, nm_e ?_⟩))⟩
    rw [e] at hp ⊢
    exact hp
theorem sg_dc_VV {j : Nat} (hn : n ≤ 24) (hf : sg_fit K n (K j) (A j) (B j) (C j)) (hd : sg_dv (K j)) : sg_dc K A B C (sg_VV K v F) j = sg_dc K A B C F j := by
  have cl : ∀ x, sg_L K n x → sg_VV K v F x.toNatClampNeg = F x.toNatClampNeg := by
    rintro x ⟨a, ha, ea, hc⟩
    rw [ea, nI_clamp (by omega), sg_VV_c hc]
  unfold sg_dc
  rcases hd with e | e | e
  · rw [e] at hf ⊢
    obtain ⟨hx, hy⟩ := sg_f6 hf
    rw [if_pos rfl, if_pos rfl, cl _ hx, cl _ hy]
  · rw [e] at hf ⊢
    obtain ⟨hx, hy, hz⟩ := sg_f13 hf
    rw [cl _ hx, cl _ hy, cl _ hz]
  · rw [e] at hf ⊢
    have hx := sg_f14 hf
    rw [if_neg (by decide), if_neg (by decide), if_neg (by decide), if_neg (by decide), cl _ hx]
theorem sg_yWork {post : SY → Prop} {j : Nat} (hn : n ≤ 24) (hj : j < n) (hw : sg_wf n K A B C) (hh : ∀ j, h j = 0 ∨ h j = 1) (hpb : ∀ j, p j = 0 ∨ p j = 1)
    (pc : sg_ce (K j) → post (nI n, c, K, A, B, C, h, v, upd F j (sg_v K A B h (sg_VV K v F) v p p g g C j), T, d, p, g))
    (p0 : ¬ sg_ce (K j) → sg_h K A B h (sg_VV K v F) v p p C j = 0 → post (nI n, c, K, A, B, C, upd h j 0, upd v j 0, F, T, d, p, g))
    (p1 : ¬ sg_ce (K j) → K j ≠ 8 → K j ≠ 12 → sg_h K A B h (sg_VV K v F) v p p C j = 1 → post (nI n, c, K, A, B, C, upd h j 1, upd v j (sg_w K A B (sg_VV K v F) v g g C j), F, T, d, p, g))
    (p8 : K j = 8 → sg_h K A B h (sg_VV K v F) v p p C j = 1 → post (nI n, c, K, A, B, C, upd h j 1, upd v j (sg_w K A B (sg_VV K v F) v g g C j), F, T, d, p, upd g j (sg_w K A B (sg_VV K v F) v g g C j)))
    (p12 : K j = 12 → sg_h K A B h (sg_VV K v F) v p p C j = 1 → post (nI n, c, K, A, B, C, upd h j 1, upd v j (sg_w K A B (sg_VV K v F) v g g C j), F, T, d, upd p j 1, g)) : wpY_work post (nI n, c, K, A, B, C, h, v, F, T, d, p, g) (nI j) := by
  have hf := sg_wf_n hw hj
  unfold wpY_work
  dsimp only
  have hin : vp_in (nI j) 24 := vp_in_nI (by omega) (by omega)
  have hcl : (nI j).toNatClampNeg = j := nI_clamp (by omega)
  have hj24 : j < 24 := by omega
  rw [hcl]
  refine ⟨hin, nm_e ⟨hin, nm_e ⟨hin, nm_e ?_⟩⟩⟩
  have vE : ∀ x, sg_E K n x → sg_VV K v F x.toNatClampNeg = v x.toNatClampNeg := by
    rintro x ⟨a, ha, ea, hc⟩
    rw [ea, nI_clamp (by omega), sg_VV_e hc]
  have vL : ∀ x, sg_L K n x → sg_VV K v F x.toNatClampNeg = F x.toNatClampNeg := by
    rintro x ⟨a, ha, ea, hc⟩
    rw [ea, nI_clamp (by omega), sg_VV_c hc]
  have n1 : ∀ x : Int32, x = 0 ∨ x = 1 → ¬ x = 0 → x = 1 := fun x a b => a.resolve_left b
  have ev : ∀ q : Int32, K j = q → (q = 4 ∨ q = 6 ∨ q = 13 ∨ q = 14 → False) → ¬ sg_ce (K j) := fun q e hq hc => hq (e ▸ hc)
  refine sg_fit_cases hf ?_ ?_ ?_ ?_ ?_ ?_ ?_ ?_ ?_ ?_ ?_ ?_ ?_ ?_ ?_ <;> intro e
  · -- 0
    have nc := ev 0 e (by decide)
    have n8 : K j ≠ 8 := by rw [e]; decide
    have n12 : K j ≠ 12 := by rw [e]; decide
    have hS : sg_h K A B h (sg_VV K v F) v p p C j = p j := by unfold sg_h; simp (decide := true) only [e, if_true, if_false]
    have hV : sg_w K A B (sg_VV K v F) v g g C j = g j := by unfold sg_w; simp (decide := true) only [e, if_true, if_false]
    rw [hS] at p0 p1; rw [hV] at p1
    refine br_t e ?_
    unfold wY_work_32
    rw [hcl]
    exact ⟨hin, hin, sg_yGive hj24 (hpb j) (fun z => p0 nc z) (fun z => p1 nc n8 n12 z)⟩
  · -- 1
    intro hx
    have nc := ev 1 e (by decide)
    have n8 : K j ≠ 8 := by rw [e]; decide
    have n12 : K j ≠ 12 := by rw [e]; decide
    have hS : sg_h K A B h (sg_VV K v F) v p p C j = h (A j).toNatClampNeg := by unfold sg_h; simp (decide := true) only [e, if_true, if_false]
    have hV : sg_w K A B (sg_VV K v F) v g g C j = v (A j).toNatClampNeg * B j + C j := by unfold sg_w; simp (decide := true) only [e, if_true, if_false, vE _ hx]
    rw [hS] at p0 p1; rw [hV] at p1
    rw [e]
    iterate 9 refine br_f (by decide) ?_
    unfold wpY_single
    dsimp only
    rw [hcl]
    refine ⟨hin, nm_e (br_t rfl ⟨sg_E_in hx hn, sg_E_in hx hn, hin, sg_yGive hj24 (hh _) (fun z => ?_) (fun z => ?_)⟩)⟩
    · exact br_f (by decide) (br_f (by decide) (br_f (by decide) (br_f (by decide) (br_f (by decide) (p0 nc z)))))
    · exact br_f (by decide) (br_f (by decide) (br_f (by decide) (br_f (by decide) (br_f (by decide) (p1 nc n8 n12 z)))))
  · -- 2
    intro hx
    have nc := ev 2 e (by decide)
    have n8 : K j ≠ 8 := by rw [e]; decide
    have n12 : K j ≠ 12 := by rw [e]; decide
    have hS : sg_h K A B h (sg_VV K v F) v p p C j = if h (A j).toNatClampNeg = 0 then 0 else if v (A j).toNatClampNeg < B j then 0 else 1 := by unfold sg_h; simp (decide := true) only [e, if_true, if_false, vE _ hx]
    have hV : sg_w K A B (sg_VV K v F) v g g C j = v (A j).toNatClampNeg := by unfold sg_w; simp (decide := true) only [e, if_true, if_false, vE _ hx]
    rw [hS] at p0 p1; rw [hV] at p1
    rw [e]
    iterate 9 refine br_f (by decide) ?_
    unfold wpY_single
    dsimp only
    rw [hcl]
    refine ⟨hin, nm_e (br_f (by decide) (br_t rfl ⟨sg_E_in hx hn, br_c (fun y => ?_) (fun y => ?_)⟩))⟩
    · refine sg_yCopy hj24 (sg_E_in hx hn) (fun _ => ?_) (fun z => absurd rfl z)
      refine br_f (by decide) (br_f (by decide) (br_f (by decide) (br_f (by decide) (p0 nc ?_))))
      rw [if_pos y, ite_self]
    · refine sg_yCopy hj24 (sg_E_in hx hn) (fun z => ?_) (fun _ z => ?_)
      · refine br_f (by decide) (br_f (by decide) (br_f (by decide) (br_f (by decide) (p0 nc ?_))))
        rw [if_pos (z.resolve_left (by decide))]
      · refine br_f (by decide) (br_f (by decide) (br_f (by decide) (br_f (by decide) (p1 nc n8 n12 ?_))))
        rw [if_neg z, if_neg y]
  · -- 3
    intro hx hy
    have nc := ev 3 e (by decide)
    have n8 : K j ≠ 8 := by rw [e]; decide
    have n12 : K j ≠ 12 := by rw [e]; decide
    have hS : sg_h K A B h (sg_VV K v F) v p p C j = if h (A j).toNatClampNeg = 0 then (if h (B j).toNatClampNeg = 0 then 0 else 1) else 1 := by unfold sg_h; simp (decide := true) only [e, if_true, if_false]
    have hV : sg_w K A B (sg_VV K v F) v g g C j = v (A j).toNatClampNeg + v (B j).toNatClampNeg := by unfold sg_w; simp (decide := true) only [e, if_true, if_false, vE _ hx, vE _ hy]
    rw [hS] at p0 p1; rw [hV] at p1
    rw [e]
    iterate 2 refine br_f (by decide) ?_
    refine br_t rfl ⟨sg_E_in hx hn, br_c (fun z => ⟨sg_E_in hy hn, br_c (fun y => ?_) (fun y => ?_)⟩) (fun z => ?_)⟩
    · exact ⟨sg_E_in hx hn, sg_E_in hy hn, sg_yGive hj24 (Or.inl rfl) (fun _ => p0 nc (by rw [if_pos z, if_pos y])) (fun q => absurd q (by decide))⟩
    · exact ⟨sg_E_in hx hn, sg_E_in hy hn, sg_yGive hj24 (Or.inr rfl) (fun q => absurd q (by decide)) (fun _ => p1 nc n8 n12 (by rw [if_pos z, if_neg y]))⟩
    · exact ⟨sg_E_in hx hn, sg_E_in hy hn, sg_yGive hj24 (Or.inr rfl) (fun q => absurd q (by decide)) (fun _ => p1 nc n8 n12 (by rw [if_neg z]))⟩
  · -- 4
    intro hx
    have hc := pc (Or.inl e)
    unfold sg_v at hc
    rw [if_pos e] at hc
    rw [e]
    iterate 3 refine br_f (by decide) ?_
    refine br_t rfl ?_
    rcases hx with hx | hx
    · rw [if_pos hx] at hc
      exact br_t (by rw [hx]; decide) ⟨hin, hin, nm_e hc⟩
    · have hpos : ¬ A j < 0 ∧ ¬ A j = -1 := by
        obtain ⟨a, ha, ea, _⟩ := hx
        rw [ea]
        exact ⟨nI_pos (by omega), sg_ne1 (by omega)⟩
      rw [if_neg hpos.2, vE _ hx] at hc
      refine br_f hpos.1 ⟨sg_E_in hx hn, br_c (fun z => ⟨hin, hin, nm_e ?_⟩) (fun z => ⟨sg_E_in hx hn, hin, nm_e ?_⟩)⟩
      · rw [if_pos z] at hc; exact hc
      · rw [if_neg z] at hc; exact hc
  · -- 5
    intro hx hy
    have nc := ev 5 e (by decide)
    have n8 : K j ≠ 8 := by rw [e]; decide
    have n12 : K j ≠ 12 := by rw [e]; decide
    have hS : sg_h K A B h (sg_VV K v F) v p p C j = h (A j).toNatClampNeg := by unfold sg_h; simp (decide := true) only [e, if_true, if_false]
    have hV : sg_w K A B (sg_VV K v F) v g g C j = v (A j).toNatClampNeg + v (B j).toNatClampNeg := by unfold sg_w; simp (decide := true) only [e, if_true, if_false, vE _ hx]
    rw [hS] at p0 p1; rw [hV] at p1
    rw [e]
    iterate 9 refine br_f (by decide) ?_
    unfold wpY_single
    dsimp only
    rw [hcl]
    refine ⟨hin, nm_e (br_f (by decide) (br_f (by decide) (br_t rfl ⟨sg_E_in hx hn, sg_E_in hx hn, sg_L_in hy hn, sg_yGive hj24 (hh _) (fun z => ?_) (fun z => ?_)⟩)))⟩
    · exact br_f (by decide) (br_f (by decide) (br_f (by decide) (p0 nc z)))
    · exact br_f (by decide) (br_f (by decide) (br_f (by decide) (p1 nc n8 n12 z)))
  · -- 6
    intro hx hy
    have hc := pc (Or.inr (Or.inl e))
    unfold sg_v at hc
    rw [sg_dc_VV hn hf (Or.inl e), if_neg (by rw [e]; decide), if_pos e] at hc
    have hk := sg_yw163 (post := post) hn hj hf (Or.inl e) hc
    rw [e] at hk ⊢
    iterate 4 refine br_f (by decide) ?_
    exact br_t rfl hk
  · -- 7
    intro hx hy
    have nc := ev 7 e (by decide)
    have n8 : K j ≠ 8 := by rw [e]; decide
    have n12 : K j ≠ 12 := by rw [e]; decide
    have hS : sg_h K A B h (sg_VV K v F) v p p C j = if h (A j).toNatClampNeg = 0 then 0 else if v (B j).toNatClampNeg = 0 then 0 else 1 := by unfold sg_h; simp (decide := true) only [e, if_true, if_false]
    have hV : sg_w K A B (sg_VV K v F) v g g C j = v (A j).toNatClampNeg := by unfold sg_w; simp (decide := true) only [e, if_true, if_false, vE _ hx]
    rw [hS] at p0 p1; rw [hV] at p1
    rw [e]
    iterate 9 refine br_f (by decide) ?_
    unfold wpY_single
    dsimp only
    rw [hcl]
    refine ⟨hin, nm_e (br_f (by decide) (br_f (by decide) (br_f (by decide) (br_t rfl ⟨sg_L_in hy hn, br_c (fun y => ?_) (fun y => ?_)⟩))))⟩
    · refine sg_yCopy hj24 (sg_E_in hx hn) (fun _ => ?_) (fun z => absurd rfl z)
      refine br_f (by decide) (br_f (by decide) (p0 nc ?_))
      rw [if_pos y, ite_self]
    · refine sg_yCopy hj24 (sg_E_in hx hn) (fun z => ?_) (fun _ z => ?_)
      · refine br_f (by decide) (br_f (by decide) (p0 nc ?_))
        rw [if_pos (z.resolve_left (by decide))]
      · refine br_f (by decide) (br_f (by decide) (p1 nc n8 n12 ?_))
        rw [if_neg z, if_neg y]
  · -- 8
    intro hx
    have nc := ev 8 e (by decide)
    have hS : sg_h K A B h (sg_VV K v F) v p p C j = h (A j).toNatClampNeg := by unfold sg_h; simp (decide := true) only [e, if_true, if_false]
    have hV : sg_w K A B (sg_VV K v F) v g g C j = g j + v (A j).toNatClampNeg := by unfold sg_w; simp (decide := true) only [e, if_true, if_false, vE _ hx]
    rw [hS] at p0 p8; rw [hV] at p8
    have p8 := p8 e
    rw [e]
    iterate 9 refine br_f (by decide) ?_
    unfold wpY_single
    dsimp only
    rw [hcl]
    refine ⟨hin, nm_e (br_f (by decide) (br_f (by decide) (br_f (by decide) (br_f (by decide) (br_t rfl ⟨sg_E_in hx hn, br_c (fun z => ?_) (fun z => ⟨hin, sg_E_in hx hn, hin, nm_e ?_⟩)⟩)))))⟩
    · exact ⟨sg_E_in hx hn, hin, sg_yGive hj24 (hh _) (fun q => br_f (by decide) (p0 nc q)) (fun q => absurd (z.symm.trans q) (by decide))⟩
    · rw [hcl]
      refine ⟨sg_E_in hx hn, hin, ?_⟩
      rw [hcl, pk_us]
      exact sg_yGive hj24 (hh _) (fun q => absurd q z) (fun q => br_f (by decide) (p8 q))
  · -- 9
    intro hx
    have nc := ev 9 e (by decide)
    have n8 : K j ≠ 8 := by rw [e]; decide
    have n12 : K j ≠ 12 := by rw [e]; decide
    have hS : sg_h K A B h (sg_VV K v F) v p p C j = if F (A j).toNatClampNeg = v (A j).toNatClampNeg then 0 else 1 := by unfold sg_h; simp (decide := true) only [e, if_true, if_false, vL _ hx]
    have hV : sg_w K A B (sg_VV K v F) v g g C j = F (A j).toNatClampNeg := by unfold sg_w; simp (decide := true) only [e, if_true, if_false, vL _ hx]
    rw [hS] at p0 p1; rw [hV] at p1
    rw [e]
    iterate 7 refine br_f (by decide) ?_
    refine br_t rfl ⟨sg_L_in hx hn, sg_L_in hx hn, br_c (fun z => ?_) (fun z => ?_)⟩
    · exact ⟨sg_L_in hx hn, sg_yGive hj24 (Or.inl rfl) (fun _ => p0 nc (by rw [if_pos z])) (fun q => absurd q (by decide))⟩
    · exact ⟨sg_L_in hx hn, sg_yGive hj24 (Or.inr rfl) (fun q => absurd q (by decide)) (fun _ => p1 nc n8 n12 (by rw [if_neg z]))⟩
  · -- 10
    intro hx hy hz
    have nc := ev 10 e (by decide)
    have n8 : K j ≠ 8 := by rw [e]; decide
    have n12 : K j ≠ 12 := by rw [e]; decide
    have hS : sg_h K A B h (sg_VV K v F) v p p C j = if v (A j).toNatClampNeg = 0 then h (C j).toNatClampNeg else h (B j).toNatClampNeg := by unfold sg_h; simp (decide := true) only [e, if_true, if_false]
    have hV : sg_w K A B (sg_VV K v F) v g g C j = if v (A j).toNatClampNeg = 0 then v (C j).toNatClampNeg else v (B j).toNatClampNeg := by unfold sg_w; simp (decide := true) only [e, if_true, if_false, vE _ hy, vE _ hz]
    rw [hS] at p0 p1; rw [hV] at p1
    rw [e]
    iterate 8 refine br_f (by decide) ?_
    refine br_t rfl ⟨sg_L_in hx hn, br_c (fun y => ⟨hin, ?_⟩) (fun y => ?_)⟩
    · rw [if_pos y] at p0 p1
      rw [if_pos y] at p1
      exact sg_yCopy hj24 (sg_E_in hz hn) (fun q => p0 nc (q.resolve_left (by decide))) (fun _ q => p1 nc n8 n12 (n1 _ (hh _) q))
    · rw [if_neg y] at p0 p1
      rw [if_neg y] at p1
      exact sg_yCopy hj24 (sg_E_in hy hn) (fun q => p0 nc (q.resolve_left (by decide))) (fun _ q => p1 nc n8 n12 (n1 _ (hh _) q))
  · -- 11
    intro _
    have nc := ev 11 e (by decide)
    have n8 : K j ≠ 8 := by rw [e]; decide
    have n12 : K j ≠ 12 := by rw [e]; decide
    have hS : sg_h K A B h (sg_VV K v F) v p p C j = p j := by unfold sg_h; simp (decide := true) only [e, if_true, if_false]
    have hV : sg_w K A B (sg_VV K v F) v g g C j = g j := by unfold sg_w; simp (decide := true) only [e, if_true, if_false]
    rw [hS] at p0 p1; rw [hV] at p1
    rw [e]
    refine br_f (by decide) (br_t rfl ?_)
    unfold wY_work_32
    rw [hcl]
    exact ⟨hin, hin, sg_yGive hj24 (hpb j) (fun z => p0 nc z) (fun z => p1 nc n8 n12 z)⟩
  · -- 12
    intro hx
    have nc := ev 12 e (by decide)
    have hS : sg_h K A B h (sg_VV K v F) v p p C j = if h (A j).toNatClampNeg = 0 then 0 else if p j = 0 then 1 else 0 := by unfold sg_h; simp (decide := true) only [e, if_true, if_false]
    have hV : sg_w K A B (sg_VV K v F) v g g C j = v (A j).toNatClampNeg := by unfold sg_w; simp (decide := true) only [e, if_true, if_false, vE _ hx]
    rw [hS] at p0 p12; rw [hV] at p12
    have p12 := p12 e
    rw [e]
    iterate 9 refine br_f (by decide) ?_
    unfold wpY_single
    dsimp only
    rw [hcl]
    have h199 : (if h (A j).toNatClampNeg = 0 then (0 : Int32) else if p j = 0 then 1 else 0) = 0 → wY_single_199 post (nI j) (A j) (nI n) c K A B C h v F T d p g := by
      intro q
      exact sg_yCopy hj24 (sg_E_in hx hn) (fun _ => br_t rfl (p0 nc q)) (fun z => absurd rfl z)
    refine ⟨hin, nm_e (br_f (by decide) (br_f (by decide) (br_f (by decide) (br_f (by decide) (br_f (by decide) (br_t rfl ⟨sg_E_in hx hn, br_c (fun z => h199 (by rw [if_pos z])) (fun z => ⟨hin, ?_⟩)⟩))))))⟩
    rw [hcl]
    refine br_c (fun y => ?_) (fun y => h199 (by rw [if_neg z, if_neg y]))
    refine sg_yCopy hj24 (sg_E_in hx hn) (fun q => absurd (q.resolve_left (by decide)) z) (fun _ _ => br_f (by decide) ⟨hin, ?_⟩)
    rw [hcl, sg_vb1]
    exact nm_e (p12 (by rw [if_neg z, if_pos y]))
  · -- 13
    intro hx hy hz
    have hc := pc (Or.inr (Or.inr (Or.inl e)))
    unfold sg_v at hc
    rw [sg_dc_VV hn hf (Or.inr (Or.inl e)), if_neg (by rw [e]; decide), if_neg (by rw [e]; decide), if_pos e] at hc
    have hk := sg_yw163 (post := post) hn hj hf (Or.inr (Or.inl e)) hc
    rw [e] at hk ⊢
    iterate 5 refine br_f (by decide) ?_
    exact br_t rfl hk
  · -- 14
    intro hx
    have hc := pc (Or.inr (Or.inr (Or.inr e)))
    unfold sg_v at hc
    rw [sg_dc_VV hn hf (Or.inr (Or.inr e)), if_neg (by rw [e]; decide), if_neg (by rw [e]; decide), if_neg (by rw [e]; decide), if_pos e] at hc
    have hk := sg_yw163 (post := post) hn hj hf (Or.inr (Or.inr e)) hc
    rw [e] at hk ⊢
    iterate 6 refine br_f (by decide) ?_
    exact br_t rfl hk
end
