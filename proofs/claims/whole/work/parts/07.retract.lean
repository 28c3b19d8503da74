def sg_un (K A : Nat → Int32) (m i : Nat) : Nat → Int32 := fun j => if j < i ∧ K j = 4 ∧ A j = nI m then -1 else A j
theorem sg_un_s {K A : Nat → Int32} {m i : Nat} (h1 : K i = 4) (h2 : A i = nI m) : upd (sg_un K A m i) i (-1) = sg_un K A m (i + 1) := by
  funext j
  by_cases e : j = i
  · subst e
    rw [pk_us]
    unfold sg_un
    rw [if_pos ⟨by omega, h1, h2⟩]
  · rw [pk_un e]
    unfold sg_un
    by_cases z : j < i ∧ K j = 4 ∧ A j = nI m
    · rw [if_pos z, if_pos ⟨by omega, z.2⟩]
    · rw [if_neg z, if_neg (fun y => z ⟨by omega, y.2⟩)]
theorem sg_un_n {K A : Nat → Int32} {m i : Nat} (h : ¬ (K i = 4 ∧ A i = nI m)) : sg_un K A m i = sg_un K A m (i + 1) := by
  funext j
  unfold sg_un
  by_cases z : j < i ∧ K j = 4 ∧ A j = nI m
  · rw [if_pos z, if_pos ⟨by omega, z.2⟩]
  · rw [if_neg z, if_neg]
    intro y
    by_cases e : j = i
    · subst e; exact h y.2
    · exact z ⟨by omega, y.2⟩
theorem sg_un_i {K A : Nat → Int32} {m i : Nat} : sg_un K A m i i = A i := by
  unfold sg_un
  rw [if_neg (fun y => by omega)]
theorem sg_un_0 {K A : Nat → Int32} {m : Nat} : A = sg_un K A m 0 := by
  funext j
  unfold sg_un
  rw [if_neg (fun y => by omega)]
section
variable {n k : Nat} {o l c : Int32} {K A B C H V D T W U S O h v F d p g : Nat → Int32}
theorem sg_xUn {post : SX → Prop} {m : Nat} (hn : n ≤ 24) (hp : post (nI n, o, l, c, K, sg_un K A m n, B, C, H, V, D, T, W, U, S, O)) : wpX_untieFrom post (nI n, o, l, c, K, A, B, C, H, V, D, T, W, U, S, O) (nI m) := by
  unfold wpX_untieFrom
  dsimp only
  refine loop_0 (fun f i s => wX_untieFrom_2 post (nI m) (nI n) o l c f (nI i) K s B C H V D T W U S O) (fun i s => s = sg_un K A m i) n A sg_un_0 ?_ ?_
  · rintro f s rfl
    exact br_t (nI_le (Nat.le_refl n) (by omega)) hp
  · rintro f i s hi rfl ih
    have hin : vp_in (nI i) 24 := vp_in_nI (by omega) (by omega)
    have hcl : (nI i).toNatClampNeg = i := nI_clamp (by omega)
    refine br_f (nI_ge hi (by omega)) ⟨hin, br_c (fun z => ⟨hin, br_c (fun y => ⟨hin, nm_e (nm_r (nI_1 i) ?_)⟩) (fun y => nm_r (nI_1 i) (ih _ ?_))⟩) (fun z => nm_r (nI_1 i) (ih _ ?_))⟩
    · rw [hcl] at z y ⊢
      rw [sg_un_i] at y
      exact ih _ (sg_un_s z y)
    · rw [hcl, sg_un_i] at y
      exact sg_un_n fun q => y q.2
    · rw [hcl] at z
      exact sg_un_n fun q => z q.1
theorem sg_yUn {post : Int32 → SY → Prop} (hn : n ≤ 24) (hp : post (nI n) (nI n, c, K, sg_un K A n n, B, C, h, v, F, T, d, p, g)) : ∃ f, wY_retract_21 post (nI n) c f 0 K A B C h v F T d p g := by
  refine loop_0 (fun f i s => wY_retract_21 post (nI n) c f (nI i) K s B C h v F T d p g) (fun i s => s = sg_un K A n i) n A sg_un_0 ?_ ?_
  · rintro f s rfl
    exact br_t (nI_le (Nat.le_refl n) (by omega)) hp
  · rintro f i s hi rfl ih
    have hin : vp_in (nI i) 24 := vp_in_nI (by omega) (by omega)
    have hcl : (nI i).toNatClampNeg = i := nI_clamp (by omega)
    refine br_f (nI_ge hi (by omega)) ⟨hin, br_c (fun z => ⟨hin, br_c (fun y => ⟨hin, nm_e (nm_r (nI_1 i) ?_)⟩) (fun y => nm_r (nI_1 i) (ih _ ?_))⟩) (fun z => nm_r (nI_1 i) (ih _ ?_))⟩
    · rw [hcl] at z y ⊢
      rw [sg_un_i] at y
      exact ih _ (sg_un_s z y)
    · rw [hcl, sg_un_i] at y
      exact sg_un_n fun q => y q.2
    · rw [hcl] at z
      exact sg_un_n fun q => z q.1
theorem sg_un_k {m i j : Nat} (h : K j ≠ 4) : sg_un K A m i j = A j := by
  unfold sg_un
  rw [if_neg (fun y => h y.2.1)]
theorem sg_relRet (hn : n + 1 ≤ 24) (hw : sg_wf (n + 1) K A B C) (hac : sg_ac (n + 1) K A B C) (hS : sg_S (n + 1) K A B C H V T W U S p g k) : i_Rel (k + 5) (nI n, 1, l, c, K, sg_un K A n n, B, C, H, V, D, T, W, U, S, O) (nI n, c, K, sg_un K A n n, B, C, H, V, F, T, d, p, g) := by
  obtain ⟨s1, s2, s3, s4, s5, s6, s7, s8, s9⟩ := hS
  refine i_up ⟨n, 1, l, c, K, sg_un K A n n, B, C, H, V, D, T, W, U, S, O, F, d, p, g, rfl, rfl, by omega, ?_, ?_, ⟨s1, s2, s3, fun j hj => s4 j (by omega), fun j hj => s5 j (by omega), fun j hj => s6 j (by omega), fun j hj => s7 j (by omega), s8, ?_⟩, fun z => absurd z (by decide)⟩
  · intro j hj
    have hf := hw j (by omega)
    by_cases e : K j = 4
    · rw [if_pos e] at hf ⊢
      rw [e] at hf ⊢
      refine Or.inr (Or.inr (Or.inr (Or.inl ⟨rfl, ?_⟩)))
      have hx : A j = -1 ∨ sg_E K (n + 1) (A j) := by simpa (decide := true) [sg_fit] using hf
      unfold sg_un
      by_cases z : A j = nI n
      · rw [if_pos ⟨hj, e, z⟩]; exact Or.inl rfl
      · rw [if_neg (fun y => z y.2.2)]
        rcases hx with hx | ⟨a, ha, ea, hc⟩
        · exact Or.inl hx
        · refine Or.inr ⟨a, ?_, ea, hc⟩
          have : a ≠ n := fun y => z (y ▸ ea)
          omega
    · rw [if_neg e] at hf ⊢
      rw [sg_un_k e]
      exact hf
  · refine sg_ac_sub hac ?_
    rintro j m ⟨hj, hm, i, hi, z⟩
    by_cases y : K j = 4 ∧ A j = nI n
    · have : sg_un K A n n j = -1 := by
        unfold sg_un
        rw [if_pos ⟨hj, y⟩]
      rw [this, y.1] at z
      unfold sg_pt at z
      simp (decide := true) only [if_true, if_false, ite_self] at z
      exact absurd z.symm (sg_ne1 (by omega))
    · have : sg_un K A n n j = A j := by
        unfold sg_un
        rw [if_neg (fun q => y q.2)]
      rw [this] at z
      exact ⟨by omega, hm, i, hi, z⟩
  · intro j hj hd
    have e : K j ≠ 4 := by
      intro e
      rw [e] at hd
      rcases hd with z | z | z <;> exact absurd z (by decide)
    rw [sg_dc_A (A := A) (sg_un_k e)]
    exact s9 j (by omega) hd
end
theorem i_vc_retract {k : Nat} {u : SX} {v : SY} (I : i_Rel k u v) (hk : k + 5 ≤ 2560) : wpX_retract (fun r u' => wpY_retract (fun r' v' => r' = r ∧ i_Rel (k + 5) u' v') v) u := by
  have I5 := i_up I
  obtain ⟨n, o, l, c, K, A, B, C, H, V, D, T, W, U, S, O, F, d, p, g, rfl, rfl, hn, hw, hac, hS, ht⟩ := I
  unfold wpX_retract wpY_retract
  dsimp only
  cases n with
  | zero => exact br_t rfl (br_t rfl ⟨rfl, I5⟩)
  | succ m =>
    have h0 : ¬ nI (m + 1) = 0 := nI_ne0 (by omega) (by omega)
    refine br_f h0 (nm_r (nI_pred m) (sg_xUn (by omega) ?_))
    exact br_f h0 (nm_r (nI_pred m) (sg_yUn (by omega) ⟨rfl, sg_relRet hn hw hac hS⟩))
