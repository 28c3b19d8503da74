section
variable {n : Nat} {c : Int32} {K A B C h v F T d p g : Nat → Int32}
theorem sg_yThere {post : Int32 → Prop} {x : Int32} (hn : n ≤ 24) (h1 : ∀ a, a < n → x = nI a → post 1) (h0 : (¬ ∃ a, a < n ∧ x = nI a) → post 0) : wpY_isNode post (nI n, c, K, A, B, C, h, v, F, T, d, p, g) x := by
  rcases pk_ix x (n := n) (by omega) with h | h | ⟨j, hj, e⟩
  · exact br_t h (h0 (by rintro ⟨a, ha, rfl⟩; exact nI_pos (by omega) h))
  · by_cases hx : x < 0
    · exact br_t hx (h0 (by rintro ⟨a, ha, rfl⟩; exact nI_pos (by omega) hx))
    · refine br_f hx (br_t h (h0 ?_))
      rintro ⟨a, ha, rfl⟩
      rw [nI_leI (by omega) (by omega)] at h
      omega
  · subst e
    exact br_f (nI_pos (by omega)) (br_f (nI_ge hj (by omega)) (h1 j hj rfl))
theorem sg_yCk {post : Int32 → Prop} {q : Int32} (h1 : sg_ce q → post 1) (h0 : ¬ sg_ce q → post 0) : wpY_isCellKind post (nI n, c, K, A, B, C, h, v, F, T, d, p, g) q := by
  refine br_c (fun e => h1 (Or.inl e)) fun n4 => br_c (fun e => h1 (Or.inr (Or.inl e))) fun n6 => br_c (fun e => h1 (Or.inr (Or.inr (Or.inl e)))) fun n13 => br_c (fun e => h1 (Or.inr (Or.inr (Or.inr e)))) fun n14 => h0 ?_
  rintro (e | e | e | e)
  · exact n4 e
  · exact n6 e
  · exact n13 e
  · exact n14 e
theorem sg_yEv {post : Int32 → Prop} {x : Int32} (hn : n ≤ 24) (h1 : sg_E K n x → post 1) (h0 : ¬ sg_E K n x → post 0) : wpY_isEvent post (nI n, c, K, A, B, C, h, v, F, T, d, p, g) x := by
  unfold wpY_isEvent
  dsimp only
  refine sg_yThere hn (fun a ha e => br_f (by decide) ⟨pk_in a 24 (by omega) e, ?_⟩) (fun z => br_t rfl (h0 ?_))
  · subst e
    rw [nI_clamp (by omega)]
    refine sg_yCk (fun hc => br_f (by decide) (h0 ?_)) (fun hc => br_t rfl (h1 ⟨a, ha, rfl, hc⟩))
    rintro ⟨b, hb, e, hc'⟩
    rw [nI_eq (by omega) (by omega)] at e
    subst e
    exact hc' hc
  · rintro ⟨a, ha, e, _⟩
    exact z ⟨a, ha, e⟩
theorem sg_yCe {post : Int32 → Prop} {x : Int32} (hn : n ≤ 24) (h1 : sg_L K n x → post 1) (h0 : ¬ sg_L K n x → post 0) : wpY_isCell post (nI n, c, K, A, B, C, h, v, F, T, d, p, g) x := by
  unfold wpY_isCell
  dsimp only
  refine sg_yThere hn (fun a ha e => br_f (by decide) ⟨pk_in a 24 (by omega) e, ?_⟩) (fun z => br_t rfl (h0 ?_))
  · subst e
    rw [nI_clamp (by omega)]
    refine sg_yCk (fun hc => br_f (by decide) (h1 ⟨a, ha, rfl, hc⟩)) (fun hc => br_t rfl (h0 ?_))
    rintro ⟨b, hb, e, hc'⟩
    rw [nI_eq (by omega) (by omega)] at e
    subst e
    exact hc hc'
  · rintro ⟨a, ha, e, _⟩
    exact z ⟨a, ha, e⟩
/-- two tests, then an answer -/
theorem sg_yEE {post : Int32 → Prop} {x y : Int32} (hn : n ≤ 24) (h1 : sg_E K n x → sg_E K n y → post 1) (h0 : ¬ (sg_E K n x ∧ sg_E K n y) → post 0) : wpY_isEvent (fun r => (r = 0 → post 0) ∧ (¬ r = 0 → wpY_isEvent (fun r => (r = 0 → post 0) ∧ (¬ r = 0 → post 1)) (nI n, c, K, A, B, C, h, v, F, T, d, p, g) y)) (nI n, c, K, A, B, C, h, v, F, T, d, p, g) x :=
  sg_yEv hn (fun hx => br_f (by decide) (sg_yEv hn (fun hy => br_f (by decide) (h1 hx hy)) (fun hy => br_t rfl (h0 fun z => hy z.2)))) (fun hx => br_t rfl (h0 fun z => hx z.1))
theorem sg_yEC {post : Int32 → Prop} {x y : Int32} (hn : n ≤ 24) (h1 : sg_E K n x → sg_L K n y → post 1) (h0 : ¬ (sg_E K n x ∧ sg_L K n y) → post 0) : wpY_isEvent (fun r => (r = 0 → post 0) ∧ (¬ r = 0 → wpY_isCell (fun r => (r = 0 → post 0) ∧ (¬ r = 0 → post 1)) (nI n, c, K, A, B, C, h, v, F, T, d, p, g) y)) (nI n, c, K, A, B, C, h, v, F, T, d, p, g) x :=
  sg_yEv hn (fun hx => br_f (by decide) (sg_yCe hn (fun hy => br_f (by decide) (h1 hx hy)) (fun hy => br_t rfl (h0 fun z => hy z.2)))) (fun hx => br_t rfl (h0 fun z => hx z.1))
theorem sg_yCC {post : Int32 → Prop} {x y : Int32} (hn : n ≤ 24) (h1 : sg_L K n x → sg_L K n y → post 1) (h0 : ¬ (sg_L K n x ∧ sg_L K n y) → post 0) : wpY_isCell (fun r => (r = 0 → post 0) ∧ (¬ r = 0 → wpY_isCell (fun r => (r = 0 → post 0) ∧ (¬ r = 0 → post 1)) (nI n, c, K, A, B, C, h, v, F, T, d, p, g) y)) (nI n, c, K, A, B, C, h, v, F, T, d, p, g) x :=
  sg_yCe hn (fun hx => br_f (by decide) (sg_yCe hn (fun hy => br_f (by decide) (h1 hx hy)) (fun hy => br_t rfl (h0 fun z => hy z.2)))) (fun hx => br_t rfl (h0 fun z => hx z.1))
theorem sg_yFit {post : Int32 → Prop} {q x y z : Int32} (hn : n ≤ 24) (hq : ¬ q < 0) (hq2 : ¬ 14 < q) (h1 : sg_fit K n q x y z → post 1) (h0 : ¬ sg_fit K n q x y z → post 0) : wpY_fits post (nI n, c, K, A, B, C, h, v, F, T, d, p, g) q x y z := by
  unfold wpY_fits
  have hC : (sg_L K n x → post 1) → (¬ sg_L K n x → post 0) → wY_fits_130 post x (nI n) c K A B C h v F T d p g := fun a b => sg_yCe hn (fun hx => ⟨rfl, a hx⟩) (fun hx => ⟨rfl, b hx⟩)
  have hE : (sg_E K n x → post 1) → (¬ sg_E K n x → post 0) → wpY_isEvent (fun r_56 => (narrow .boolean (.int r_56) = .int r_56 ∧ (post r_56))) (nI n, c, K, A, B, C, h, v, F, T, d, p, g) x := fun a b => sg_yEv hn (fun hx => ⟨rfl, a hx⟩) (fun hx => ⟨rfl, b hx⟩)
  rcases sg_kinds hq hq2 with e | e | e | e | e | e | e | e | e | e | e | e | e | e | e <;> subst e
  · exact br_t rfl (h1 (Or.inl rfl))
  · iterate 10 refine br_f (by decide) ?_
    refine (hE (fun hx => h1 ?_) (fun hx => h0 fun hf => hx ?_))
    · simp (decide := true) [sg_fit, hx]
    · simpa (decide := true) [sg_fit] using hf
  · iterate 10 refine br_f (by decide) ?_
    refine (hE (fun hx => h1 ?_) (fun hx => h0 fun hf => hx ?_))
    · simp (decide := true) [sg_fit, hx]
    · simpa (decide := true) [sg_fit] using hf
  · iterate 2 refine br_f (by decide) ?_
    refine br_t rfl (sg_yEE hn (fun hx hy => h1 ?_) (fun hx => h0 fun hf => hx ?_))
    · simp (decide := true) [sg_fit, hx, hy]
    · simpa (decide := true) [sg_fit] using hf
  · iterate 1 refine br_f (by decide) ?_
    refine br_t rfl (br_c (fun e => h1 ?_) (fun ne => sg_yEv hn (fun hx => br_f (by decide) (h1 ?_)) (fun hx => br_t rfl (h0 fun hf => ?_))))
    · simp (decide := true) [sg_fit, e]
    · simp (decide := true) [sg_fit, hx]
    · have : x = -1 ∨ sg_E K n x := by simpa (decide := true) [sg_fit] using hf
      rcases this with z | z
      · exact ne z
      · exact hx z
  · iterate 3 refine br_f (by decide) ?_
    refine br_t rfl (sg_yEC hn (fun hx hy => h1 ?_) (fun hx => h0 fun hf => hx ?_))
    · simp (decide := true) [sg_fit, hx, hy]
    · simpa (decide := true) [sg_fit] using hf
  · iterate 5 refine br_f (by decide) ?_
    refine br_t rfl (sg_yCC hn (fun hx hy => h1 ?_) (fun hx => h0 fun hf => hx ?_))
    · simp (decide := true) [sg_fit, hx, hy]
    · simpa (decide := true) [sg_fit] using hf
  · iterate 4 refine br_f (by decide) ?_
    refine br_t rfl (sg_yEC hn (fun hx hy => h1 ?_) (fun hx => h0 fun hf => hx ?_))
    · simp (decide := true) [sg_fit, hx, hy]
    · simpa (decide := true) [sg_fit] using hf
  · iterate 10 refine br_f (by decide) ?_
    refine (hE (fun hx => h1 ?_) (fun hx => h0 fun hf => hx ?_))
    · simp (decide := true) [sg_fit, hx]
    · simpa (decide := true) [sg_fit] using hf
  · iterate 6 refine br_f (by decide) ?_
    refine br_t rfl (hC (fun hx => h1 ?_) (fun hx => h0 fun hf => hx ?_))
    · simp (decide := true) [sg_fit, hx]
    · simpa (decide := true) [sg_fit] using hf
  · iterate 8 refine br_f (by decide) ?_
    refine br_t rfl (sg_yCe hn (fun hx => br_f (by decide) (sg_yEE hn (fun hy hz => h1 ?_) (fun hy => h0 fun hf => hy ?_))) (fun hx => br_t rfl (h0 fun hf => hx ?_)))
    · simp (decide := true) [sg_fit, hx, hy, hz]
    · have : sg_L K n x ∧ sg_E K n y ∧ sg_E K n z := by simpa (decide := true) [sg_fit] using hf
      exact this.2
    · have : sg_L K n x ∧ sg_E K n y ∧ sg_E K n z := by simpa (decide := true) [sg_fit] using hf
      exact this.1
  · iterate 10 refine br_f (by decide) ?_
    refine (hE (fun hx => h1 ?_) (fun hx => h0 fun hf => hx ?_))
    · simp (decide := true) [sg_fit, hx]
    · simpa (decide := true) [sg_fit] using hf
  · iterate 10 refine br_f (by decide) ?_
    refine (hE (fun hx => h1 ?_) (fun hx => h0 fun hf => hx ?_))
    · simp (decide := true) [sg_fit, hx]
    · simpa (decide := true) [sg_fit] using hf
  · iterate 9 refine br_f (by decide) ?_
    refine br_t rfl (sg_yCe hn (fun hx => br_f (by decide) (sg_yCC hn (fun hy hz => h1 ?_) (fun hy => h0 fun hf => hy ?_))) (fun hx => br_t rfl (h0 fun hf => hx ?_)))
    · simp (decide := true) [sg_fit, hx, hy, hz]
    · have : sg_L K n x ∧ sg_L K n y ∧ sg_L K n z := by simpa (decide := true) [sg_fit] using hf
      exact this.2
    · have : sg_L K n x ∧ sg_L K n y ∧ sg_L K n z := by simpa (decide := true) [sg_fit] using hf
      exact this.1
  · iterate 7 refine br_f (by decide) ?_
    refine br_t rfl (hC (fun hx => h1 ?_) (fun hx => h0 fun hf => hx ?_))
    · simp (decide := true) [sg_fit, hx]
    · simpa (decide := true) [sg_fit] using hf
end
