section
variable {n : Nat} {o l c : Int32} {K A B C H V D T W U S O h v F d p g : Nat → Int32}
theorem sg_xPt {post : Int32 → Prop} {j : Nat} (hn : n ≤ 24) (hj : j < n) (hf : sg_fit K n (K j) (A j) (B j) (C j)) (hp : ∀ s, (∀ m, m < 32 → (bt s m = true ↔ ∃ i, i < 3 ∧ sg_pt (K j) (A j) (B j) (C j) i = nI m)) → post s) : wpX_partsOf post (nI n, o, l, c, K, A, B, C, H, V, D, T, W, U, S, O) (nI j) := by
  unfold wpX_partsOf
  dsimp only
  have hin : vp_in (nI j) 24 := vp_in_nI (by omega) (by omega)
  rw [nI_clamp (by omega)]
  refine ⟨hin, nm_e ⟨hin, nm_e ⟨hin, nm_e ⟨hin, nm_e ?_⟩⟩⟩⟩
  simp only [sg_3] at hp
  have e2 : ∀ m, m < 32 → ¬ (-1 = nI m) := fun m hm z => sg_ne1 (by omega) z.symm
  have e1 : ∀ a, a < n → ∀ m, m < 32 → (nI a = nI m ↔ m = a) := fun a ha m hm => by rw [nI_eq (by omega) (by omega)]; omega
  have eb : ∀ a, a < n → ∀ m, (bt ((1 : Int32) <<< (nI a &&& 31)) m = true ↔ m = a) := fun a ha m => by rw [sg_b1 (by omega)]; simp
  have eo : ∀ x y m, (bt (x ||| y) m = true ↔ bt x m = true ∨ bt y m = true) := fun x y m => by rw [b_or]; simp
  have e0 : ∀ m, ¬ bt 0 m = true := fun m => by rw [b_0]; simp
  have s0 : ∀ q x y z : Int32, (q = 0 ∨ q = 11 ∨ (q = 4 ∧ x = -1)) → ∀ m, m < 32 → (bt 0 m = true ↔ (sg_pt q x y z 0 = nI m ∨ sg_pt q x y z 1 = nI m ∨ sg_pt q x y z 2 = nI m)) := by
    intro q x y z hq m hm
    rcases hq with hq | hq | ⟨hq, hx⟩
    · subst hq; simp (decide := true) [sg_pt, e0, e2 m hm]
    · subst hq; simp (decide := true) [sg_pt, e0, e2 m hm]
    · subst hq hx; simp (decide := true) [sg_pt, e0, e2 m hm]
  have s1 : ∀ q y z : Int32, ∀ a, a < n → (q = 1 ∨ q = 2 ∨ q = 4 ∨ q = 5 ∨ q = 7 ∨ q = 8 ∨ q = 9 ∨ q = 12 ∨ q = 14) → ∀ m, m < 32 → (bt ((1 : Int32) <<< (nI a &&& 31)) m = true ↔ (sg_pt q (nI a) y z 0 = nI m ∨ sg_pt q (nI a) y z 1 = nI m ∨ sg_pt q (nI a) y z 2 = nI m)) := by
    intro q y z a ha hq m hm
    rw [eb a ha]
    rcases hq with hq | hq | hq | hq | hq | hq | hq | hq | hq <;> subst hq <;> simp (decide := true) [sg_pt, e2 m hm, e1 a ha m hm]
  have s2 : ∀ q z : Int32, ∀ a, a < n → ∀ b, b < n → (q = 3 ∨ q = 6) → ∀ m, m < 32 → (bt (((1 : Int32) <<< (nI a &&& 31)) ||| ((1 : Int32) <<< (nI b &&& 31))) m = true ↔ (sg_pt q (nI a) (nI b) z 0 = nI m ∨ sg_pt q (nI a) (nI b) z 1 = nI m ∨ sg_pt q (nI a) (nI b) z 2 = nI m)) := by
    intro q z a ha b hb hq m hm
    rw [eo, eb a ha, eb b hb]
    rcases hq with hq | hq <;> subst hq <;> simp (decide := true) [sg_pt, e2 m hm, e1 a ha m hm, e1 b hb m hm]
  have s10 : ∀ x : Int32, ∀ a, a < n → ∀ b, b < n → ∀ m, m < 32 → (bt (((1 : Int32) <<< (nI a &&& 31)) ||| ((1 : Int32) <<< (nI b &&& 31))) m = true ↔ (sg_pt 10 x (nI a) (nI b) 0 = nI m ∨ sg_pt 10 x (nI a) (nI b) 1 = nI m ∨ sg_pt 10 x (nI a) (nI b) 2 = nI m)) := by
    intro x a ha b hb m hm
    rw [eo, eb a ha, eb b hb]
    simp (decide := true) [sg_pt, e2 m hm, e1 a ha m hm, e1 b hb m hm]
  have s13 : ∀ a, a < n → ∀ b, b < n → ∀ k, k < n → ∀ m, m < 32 → (bt ((((1 : Int32) <<< (nI a &&& 31)) ||| ((1 : Int32) <<< (nI b &&& 31))) ||| ((1 : Int32) <<< (nI k &&& 31))) m = true ↔ (sg_pt 13 (nI a) (nI b) (nI k) 0 = nI m ∨ sg_pt 13 (nI a) (nI b) (nI k) 1 = nI m ∨ sg_pt 13 (nI a) (nI b) (nI k) 2 = nI m)) := by
    intro a ha b hb k hk m hm
    rw [eo, eo, eb a ha, eb b hb, eb k hk]
    simp (decide := true) [sg_pt, e1 a ha m hm, e1 b hb m hm, e1 k hk m hm, or_assoc]
  revert hf hp
  generalize K j = q, A j = x, B j = y, C j = z
  intro hf hp
  refine sg_fit_cases hf ?_ ?_ ?_ ?_ ?_ ?_ ?_ ?_ ?_ ?_ ?_ ?_ ?_ ?_ ?_ <;> intro e <;> subst e
  · exact br_t (by decide) (hp _ (s0 _ _ _ _ (Or.inl rfl)))
  · rintro ⟨a, ha, rfl, _⟩
    iterate 2 refine br_f (by decide) ?_
    refine br_t rfl (hp _ (s1 _ _ _ a ha (by decide)))
  · rintro ⟨a, ha, rfl, _⟩
    iterate 3 refine br_f (by decide) ?_
    refine br_t rfl (hp _ (s1 _ _ _ a ha (by decide)))
  · rintro ⟨a, ha, rfl, _⟩ ⟨b, hb, rfl, _⟩
    iterate 4 refine br_f (by decide) ?_
    refine br_t rfl (hp _ (s2 _ _ a ha b hb (by decide)))
  · intro hx
    iterate 5 refine br_f (by decide) ?_
    refine br_t rfl ?_
    rcases hx with rfl | ⟨a, ha, rfl, _⟩
    · exact br_t rfl (hp _ (s0 _ _ _ _ (Or.inr (Or.inr ⟨rfl, rfl⟩))))
    · exact br_f (sg_ne1 (by omega)) (hp _ (s1 _ _ _ a ha (by decide)))
  · rintro ⟨a, ha, rfl, _⟩ _
    iterate 6 refine br_f (by decide) ?_
    refine br_t rfl (hp _ (s1 _ _ _ a ha (by decide)))
  · rintro ⟨a, ha, rfl, _⟩ ⟨b, hb, rfl, _⟩
    iterate 7 refine br_f (by decide) ?_
    refine br_t rfl (hp _ (s2 _ _ a ha b hb (by decide)))
  · rintro ⟨a, ha, rfl, _⟩ _
    iterate 8 refine br_f (by decide) ?_
    refine br_t rfl (hp _ (s1 _ _ _ a ha (by decide)))
  · rintro ⟨a, ha, rfl, _⟩
    iterate 9 refine br_f (by decide) ?_
    refine br_t rfl (hp _ (s1 _ _ _ a ha (by decide)))
  · rintro ⟨a, ha, rfl, _⟩
    iterate 10 refine br_f (by decide) ?_
    refine br_t rfl (hp _ (s1 _ _ _ a ha (by decide)))
  · rintro _ ⟨a, ha, rfl, _⟩ ⟨b, hb, rfl, _⟩
    iterate 11 refine br_f (by decide) ?_
    refine br_t rfl (hp _ (s10 _ a ha b hb))
  · rintro _
    iterate 12 refine br_f (by decide) ?_
    refine br_t rfl (hp _ (s0 _ _ _ _ (Or.inr (Or.inl rfl))))
  · rintro ⟨a, ha, rfl, _⟩
    iterate 13 refine br_f (by decide) ?_
    refine br_t rfl (hp _ (s1 _ _ _ a ha (by decide)))
  · rintro ⟨a, ha, rfl, _⟩ ⟨b, hb, rfl, _⟩ ⟨k, hk, rfl, _⟩
    iterate 14 refine br_f (by decide) ?_
    refine br_t rfl (hp _ (s13 a ha b hb k hk))
  · rintro ⟨a, ha, rfl, _⟩
    iterate 15 refine br_f (by decide) ?_
    refine br_t rfl (hp _ (s1 _ _ _ a ha (by decide)))
/-- the parts as bits, by the relation of parts -/
theorem sg_xPt' {post : Int32 → Prop} {j : Nat} (hn : n ≤ 24) (hj : j < n) (hw : sg_wf n K A B C) (hp : ∀ s, (∀ m, m < 32 → (bt s m = true ↔ sg_P n K A B C j m)) → post s) : wpX_partsOf post (nI n, o, l, c, K, A, B, C, H, V, D, T, W, U, S, O) (nI j) := by
  refine sg_xPt hn hj (sg_wf_n hw hj) fun s hs => hp s fun m hm => ?_
  rw [hs m hm]
  constructor
  · rintro ⟨i, hi, e⟩
    refine ⟨hj, ?_, i, hi, e⟩
    rcases sg_pt_r (sg_wf_n hw hj) i with z | ⟨a, ha, z⟩
    · exact absurd (e.symm.trans z) (sg_ne1 (by omega))
    · rw [e, nI_eq (by omega) (by omega)] at z
      omega
  · rintro ⟨_, _, i, hi, e⟩
    exact ⟨i, hi, e⟩
theorem sg_xc21 {post : Int32 → Prop} {J : Int32 → Int32 → Prop} {x2 x4 s0 : Int32} {e : Nat} (hn : n ≤ 24) (hw : sg_wf n K A B C) (hs : ∀ m, m < 32 → bt s0 m = true → sg_R n K A B C e m)
    (hJ : ∀ s, (∀ m, m < 32 → bt s m = true → sg_R n K A B C e m) → (∀ m, m < 32 → bt s0 m = true → bt s m = true) → (∀ q m, bt s0 q = true → sg_P n K A B C q m → bt s m = true) → J s (x4 + 1)) : ∃ f, wX_comesTo_21 post J x2 x4 (nI n) o l c K A B C H V D T W U S O f s0 0 := by
  refine loop_0 (fun f i s => wX_comesTo_21 post J x2 x4 (nI n) o l c K A B C H V D T W U S O f s (nI i)) (fun i s => (∀ m, m < 32 → bt s m = true → sg_R n K A B C e m) ∧ (∀ m, m < 32 → bt s0 m = true → bt s m = true) ∧ (∀ q m, q < i → bt s0 q = true → sg_P n K A B C q m → bt s m = true)) n s0 ⟨hs, fun _ _ z => z, fun q m hq => absurd hq (by omega)⟩ ?_ ?_
  · rintro f s ⟨a, b, k⟩
    exact br_t (nI_le (Nat.le_refl n) (by omega)) (nm_e (hJ s a b (fun q m hq hp => k q m hp.1 hq hp)))
  · rintro f i s hi ⟨a, b, k⟩ ih
    refine br_f (nI_ge hi (by omega)) (br_c (fun z => nm_r (nI_1 i) (ih s ⟨a, b, ?_⟩)) (fun z => sg_xPt' hn hi hw (fun r hr => nm_e (nm_r (nI_1 i) (ih (s ||| r) ⟨?_, ?_, ?_⟩)))))
    · intro q m hq hb hp
      by_cases eq : q = i
      · subst eq
        rw [sg_sh0 s (by omega)] at z
        exact absurd (b q (by omega) hb) z
      · exact k q m (by omega) hb hp
    · intro m hm hb
      rw [sg_sh0 s (by omega)] at z
      rw [b_or, Bool.or_eq_true] at hb
      rcases hb with hb | hb
      · exact a m hm hb
      · exact sg_R_s (a i (by omega) (Classical.not_not.mp z)) ((hr m hm).mp hb)
    · intro m hm hb
      rw [b_or, b m hm hb, Bool.true_or]
    · intro q m hq hb hp
      rw [b_or, Bool.or_eq_true]
      by_cases eq : q = i
      · subst eq
        have := hp.2.1
        exact Or.inr ((hr m (by omega)).mpr hp)
      · exact Or.inl (k q m (by omega) hb hp)
theorem sg_xCome {post : Int32 → Prop} {e m : Nat} (hn : n ≤ 24) (hw : sg_wf n K A B C) (hac : sg_ac n K A B C) (he : e < n) (hm : m < n) (h1 : sg_R n K A B C e m → post 1) (h0 : ¬ sg_R n K A B C e m → post 0) : wpX_comesTo post (nI n, o, l, c, K, A, B, C, H, V, D, T, W, U, S, O) (nI e) (nI m) := by
  unfold wpX_comesTo
  dsimp only
  refine sg_xPt' hn he hw fun s0 hs0 => ?_
  refine loop_0 (fun f r s => wX_comesTo_9 post (nI m) (nI n) o l c K A B C H V D T W U S O f s (nI r)) (fun r s => (∀ m, m < 32 → bt s m = true → sg_R n K A B C e m) ∧ (∀ t, t ≤ r → ∀ m, sg_pth n K A B C e t m → bt s m = true)) n s0 ⟨fun m hm hb => sg_R_0 ((hs0 m hm).mp hb), ?_⟩ ?_ ?_
  · intro t ht m hp
    have : t = 0 := by omega
    subst this
    have hp : sg_P n K A B C e m := hp
    have := hp.2.1
    exact (hs0 m (by omega)).mpr hp
  · rintro f s ⟨a, b⟩
    refine br_t (nI_le (Nat.le_refl n) (by omega)) (br_c (fun z => h0 fun hR => ?_) (fun z => h1 ?_))
    · rw [sg_sh0 s (by omega)] at z
      obtain ⟨t, ht, hp⟩ := sg_R_n hn hw hac he hR
      exact z (b t (by omega) m hp)
    · rw [sg_sh0 s (by omega)] at z
      exact a m (by omega) (Classical.not_not.mp z)
  · rintro f r s hr ⟨a, b⟩ ih
    refine br_f (nI_ge hr (by omega)) (sg_xc21 hn hw a fun s' a' b' k' => ?_)
    rw [nI_1]
    refine ih s' ⟨a', ?_⟩
    intro t ht m hp
    cases t with
    | zero =>
      have hp0 : sg_P n K A B C e m := hp
      have := hp0.2.1
      exact b' m (by omega) (b 0 (by omega) m hp)
    | succ t =>
      obtain ⟨q, hq, hp⟩ := hp
      exact k' q m (b t (by omega) q hq) hp
theorem sg_yPt {post : Int32 → Prop} {j i : Nat} (hj : j < 24) (hi : i < 3) (hp : post (sg_pt (K j) (A j) (B j) (C j) i)) : wpY_part post (nI n, c, K, A, B, C, h, v, F, T, d, p, g) (nI j) (nI i) := by
  unfold wpY_part
  dsimp only
  have hin : vp_in (nI j) 24 := vp_in_nI (by omega) (by omega)
  rw [nI_clamp (by omega)]
  refine ⟨hin, nm_e ?_⟩
  unfold sg_pt at hp
  by_cases e0 : K j = 0
  · rw [if_pos e0] at hp; exact br_t e0 hp
  rw [if_neg e0] at hp
  refine br_f e0 ?_
  by_cases e11 : K j = 11
  · rw [if_pos e11] at hp; exact br_t e11 hp
  rw [if_neg e11] at hp
  refine br_f e11 ?_
  have h3 : i = 0 ∨ i = 1 ∨ i = 2 := by omega
  by_cases e10 : K j = 10
  · rw [if_pos e10] at hp
    rcases h3 with e | e | e <;> subst e
    · exact br_t (by decide) (br_t e10 (br_t rfl ⟨hin, hp⟩))
    · exact br_t (by decide) (br_t e10 (br_f (by decide) (br_t rfl ⟨hin, hp⟩)))
    · exact br_t (by decide) (br_t e10 (br_f (by decide) (br_f (by decide) hp)))
  rw [if_neg e10] at hp
  rcases h3 with e | e | e <;> subst e
  · exact br_t (by decide) (br_f e10 (br_t rfl ⟨hin, hp⟩))
  · refine br_t (by decide) (br_f e10 (br_f (by decide) (br_t rfl ?_)))
    rw [if_neg (by decide), if_pos rfl] at hp
    by_cases e3 : K j = 3
    · rw [if_pos e3] at hp; exact br_t e3 ⟨hin, hp⟩
    rw [if_neg e3] at hp
    refine br_f e3 ?_
    by_cases e6 : K j = 6
    · rw [if_pos e6] at hp; exact br_t e6 ⟨hin, hp⟩
    rw [if_neg e6] at hp
    refine br_f e6 ?_
    by_cases e13 : K j = 13
    · rw [if_pos e13] at hp; exact br_t e13 ⟨hin, hp⟩
    rw [if_neg e13] at hp
    exact br_f e13 hp
  · refine br_t (by decide) (br_f e10 (br_f (by decide) (br_f (by decide) ?_)))
    rw [if_neg (by decide), if_neg (by decide)] at hp
    by_cases e13 : K j = 13
    · rw [if_pos e13] at hp; exact br_t e13 ⟨hin, hp⟩
    rw [if_neg e13] at hp
    exact br_f e13 hp
/-- a part that is there is a node -/
theorem sg_pt_P {j i : Nat} (hn : n ≤ 24) (hw : sg_wf n K A B C) (hj : j < n) (hi : i < 3) (hp : ¬ sg_pt (K j) (A j) (B j) (C j) i < 0) : ∃ m, m < n ∧ sg_pt (K j) (A j) (B j) (C j) i = nI m ∧ sg_P n K A B C j m := by
  rcases sg_pt_r (sg_wf_n hw hj) i with z | ⟨a, ha, z⟩
  · rw [z] at hp
    exact absurd (by decide) hp
  · exact ⟨a, ha, z, hj, by omega, i, hi, z⟩
theorem sg_yr46 {post : Int32 → Prop} {J : Int32 → Int32 → Prop} {x3 s0 : Int32} {e : Nat} (hn : n ≤ 24) (hw : sg_wf n K A B C) (hs : ∀ m, m < 32 → bt s0 m = true → sg_R n K A B C e m)
    (hJ : ∀ s, (∀ m, m < 32 → bt s m = true → sg_R n K A B C e m) → (∀ m, m < 32 → bt s0 m = true → bt s m = true) → (∀ q m, bt s0 q = true → sg_P n K A B C q m → bt s m = true) → J s (x3 + 1)) : ∃ f, wY_reached_46 post J x3 (nI n) c K A B C h v F T d p g f s0 0 := by
  refine loop_0 (fun f i s => wY_reached_46 post J x3 (nI n) c K A B C h v F T d p g f s (nI i)) (fun t s => (∀ m, m < 32 → bt s m = true → sg_R n K A B C e m) ∧ (∀ m, m < 32 → bt s0 m = true → bt s m = true) ∧ (∀ q m i, 3 * q + i < t → i < 3 → q < n → bt s0 q = true → m < 24 → sg_pt (K q) (A q) (B q) (C q) i = nI m → bt s m = true)) 72 s0 ⟨hs, fun _ _ z => z, fun q m i hq => absurd hq (by omega)⟩ ?_ ?_
  · rintro f s ⟨a, b, k⟩
    refine br_t (nI_le (a := 72) (b := 72) (by omega) (by omega)) (nm_e (hJ s a b ?_))
    rintro q m hq ⟨h1, h2, i, hi, h3⟩
    exact k q m i (by omega) hi h1 hq h2 h3
  · rintro f t s ht ⟨a, b, k⟩ ih
    have hd : nI t / 3 = nI (t / 3) := pk_div (d := 3) (by omega) (by omega) (by omega)
    have hr : nI t - nI t / 3 * 3 = nI (t % 3) := pk_rem (d := 3) (by omega) (by omega) (by omega)
    have hi3 : t % 3 < 3 := Nat.mod_lt _ (by omega)
    have hdm := Nat.div_add_mod t 3
    have skip : (¬ (t / 3 < n ∧ bt s (t / 3) = true ∧ ¬ sg_pt (K (t / 3)) (A (t / 3)) (B (t / 3)) (C (t / 3)) (t % 3) < 0)) → wY_reached_46 post J x3 (nI n) c K A B C h v F T d p g f s (nI (t + 1)) := by
      intro hno
      refine ih s ⟨a, b, ?_⟩
      intro q m i hq hi hqn hb hm hpt
      by_cases e1 : 3 * q + i < t
      · exact k q m i e1 hi hqn hb hm hpt
      · have eq : q = t / 3 := by omega
        have ei : i = t % 3 := by omega
        subst eq ei
        refine absurd ⟨hqn, b _ (by omega) hb, ?_⟩ hno
        rw [hpt]
        exact nI_pos (by omega)
    refine br_f (nI_ge (b := 72) ht (by omega)) ⟨by decide, nm_r hd ?_⟩
    by_cases hq : t / 3 < n
    · refine br_f (nI_ge hq (by omega)) (br_c (fun z => ⟨by decide, ?_⟩) (fun z => nm_r (nI_1 t) (skip ?_)))
      · rw [sg_sh1 s (by omega)] at z
        rw [hr]
        refine sg_yPt (by omega) hi3 (br_c (fun hneg => nm_r (nI_1 t) (skip fun hh => hh.2.2 hneg)) (fun hpos => ⟨by decide, ?_⟩))
        refine sg_yPt (by omega) hi3 (nm_e (nm_r (nI_1 t) ?_))
        obtain ⟨m, hm, em, hP⟩ := sg_pt_P hn hw hq hi3 hpos
        rw [em]
        refine ih _ ⟨?_, ?_, ?_⟩
        · intro m' hm' hb
          rw [sg_or1 s (by omega)] at hb
          rcases hb with hb | hb
          · exact a m' hm' hb
          · subst hb; exact sg_R_s (a _ (by omega) z) hP
        · intro m' hm' hb
          rw [sg_or1 s (by omega)]
          exact Or.inl (b m' hm' hb)
        · intro q m' i hq' hi hqn hb hm' hpt
          rw [sg_or1 s (by omega)]
          by_cases e1 : 3 * q + i < t
          · exact Or.inl (k q m' i e1 hi hqn hb hm' hpt)
          · have eq : q = t / 3 := by omega
            have ei : i = t % 3 := by omega
            subst eq ei
            rw [em, nI_eq (by omega) (by omega)] at hpt
            exact Or.inr hpt.symm
      · rw [sg_sh1 s (by omega)] at z
        exact fun hh => z hh.2.1
    · exact br_t (nI_le (by omega) (by omega)) (nm_r (nI_1 t) (skip fun hh => hq hh.1))
theorem sg_yReach {post : Int32 → Prop} {e : Nat} (hn : n ≤ 24) (hw : sg_wf n K A B C) (hac : sg_ac n K A B C) (he : e < n) (hp : ∀ s, (∀ m, m < 24 → (bt s m = true ↔ sg_R n K A B C e m)) → post s) : wpY_reached post (nI n, c, K, A, B, C, h, v, F, T, d, p, g) (nI e) := by
  unfold wpY_reached
  dsimp only
  refine loop_0 (fun f i s => wY_reached_4 post (nI e) (nI n) c K A B C h v F T d p g f s (nI i)) (fun t s => (∀ m, m < 32 → bt s m = true → sg_R n K A B C e m) ∧ (∀ m i, i < t → m < 24 → sg_pt (K e) (A e) (B e) (C e) i = nI m → bt s m = true)) 3 0 ⟨fun m hm hb => absurd hb (by rw [b_0]; decide), fun m i hi => absurd hi (by omega)⟩ ?_ ?_
  · rintro f s0 ⟨a, b⟩
    refine br_t (nI_le (a := 3) (b := 3) (by omega) (by omega)) ?_
    refine loop_0 (fun f r s => wY_reached_37 post (nI n) c K A B C h v F T d p g f s (nI r)) (fun r s => (∀ m, m < 32 → bt s m = true → sg_R n K A B C e m) ∧ (∀ t, t ≤ r → ∀ m, sg_pth n K A B C e t m → bt s m = true)) 24 s0 ⟨a, ?_⟩ ?_ ?_
    · intro t ht m hpt
      have : t = 0 := by omega
      subst this
      obtain ⟨h1, h2, i, hi, h3⟩ := hpt
      exact b m i hi h2 h3
    · rintro f s ⟨a, b⟩
      refine br_t (nI_le (a := 24) (b := 24) (by omega) (by omega)) (hp s fun m hm => ⟨a m (by omega), fun hR => ?_⟩)
      obtain ⟨t, ht, hp⟩ := sg_R_n hn hw hac he hR
      exact b t (by omega) m hp
    · rintro f r s hr ⟨a, b⟩ ih
      refine br_f (nI_ge (b := 24) hr (by omega)) (sg_yr46 hn hw a fun s' a' b' k' => ?_)
      rw [nI_1]
      refine ih s' ⟨a', ?_⟩
      intro t ht m hp
      cases t with
      | zero =>
        have hp0 : sg_P n K A B C e m := hp
        have := hp0.2.1
        exact b' m (by omega) (b 0 (by omega) m hp)
      | succ t =>
        obtain ⟨q, hq, hp⟩ := hp
        exact k' q m (b t (by omega) q hq) hp
  · rintro f t s ht ⟨a, b⟩ ih
    refine br_f (nI_ge (b := 3) ht (by omega)) (sg_yPt (by omega) ht (br_c (fun hneg => nm_r (nI_1 t) (ih s ⟨a, ?_⟩)) (fun hpos => sg_yPt (by omega) ht (nm_e (nm_r (nI_1 t) ?_)))))
    · intro m i hi hm hpt
      by_cases ei : i = t
      · subst ei
        rw [hpt] at hneg
        exact absurd hneg (nI_pos (by omega))
      · exact b m i (by omega) hm hpt
    · obtain ⟨m, hm, em, hP⟩ := sg_pt_P hn hw he ht hpos
      rw [em]
      refine ih _ ⟨?_, ?_⟩
      · intro m' hm' hb
        rw [sg_or1 s (by omega)] at hb
        rcases hb with hb | hb
        · exact a m' hm' hb
        · subst hb; exact sg_R_0 hP
      · intro m' i hi hm' hpt
        rw [sg_or1 s (by omega)]
        by_cases ei : i = t
        · subst ei
          rw [em, nI_eq (by omega) (by omega)] at hpt
          exact Or.inr hpt.symm
        · exact Or.inl (b m' i (by omega) hm' hpt)
end
