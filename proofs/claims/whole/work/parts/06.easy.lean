theorem i_vc_had {k : Nat} {u : SX} {v : SY} (I : i_Rel k u v) (hk : k + 5 ≤ 2560) (v1 : Int32) : wpX_had (fun r => wpY_had (fun r' => r' = r ∧ i_Rel (k + 5) u v) v v1) u v1 := by
  have I5 := i_up I
  obtain ⟨n, o, l, c, K, A, B, C, H, V, D, T, W, U, S, O, F, d, p, g, rfl, rfl, hn, hw, hac, hS, ht⟩ := I
  unfold wpX_had wpY_had
  dsimp only
  refine sg_xThere hn (fun a ha e => br_f (by decide) ⟨pk_in a 24 (by omega) e, ?_⟩) (fun z => br_t rfl ?_)
  · subst e
    rw [nI_clamp (by omega)]
    by_cases hh : H a = 0
    · exact br_t hh (sg_yEv hn (fun hE => br_f (by decide) ⟨vp_in_nI (by omega) (by omega), br_t hh ⟨rfl, I5⟩⟩) (fun hE => br_t rfl ⟨rfl, I5⟩))
    · refine br_f hh (sg_yEv hn (fun hE => br_f (by decide) ⟨vp_in_nI (by omega) (by omega), br_f hh ⟨rfl, I5⟩⟩) (fun hE => absurd (hS.2.2.2.1 a ha ?_) hh))
      exact Classical.not_not.mp fun hc => hE ⟨a, ha, rfl, hc⟩
  · refine sg_yEv hn (fun hE => absurd ?_ z) (fun hE => br_t rfl ⟨rfl, I5⟩)
    obtain ⟨a, ha, e, _⟩ := hE
    exact ⟨a, ha, e⟩
theorem i_vc_value {k : Nat} {u : SX} {v : SY} (I : i_Rel k u v) (hk : k + 5 ≤ 2560) (v1 : Int32) : wpX_value (fun r => wpY_value (fun r' => r' = r ∧ i_Rel (k + 5) u v) v v1) u v1 := by
  have I5 := i_up I
  obtain ⟨n, o, l, c, K, A, B, C, H, V, D, T, W, U, S, O, F, d, p, g, rfl, rfl, hn, hw, hac, hS, ht⟩ := I
  unfold wpX_value wpY_value
  dsimp only
  refine sg_xThere hn (fun a ha e => br_f (by decide) ⟨pk_in a 24 (by omega) e, ?_⟩) (fun z => br_t rfl ?_)
  · exact sg_yThere hn (fun b hb eb => br_f (by decide) ⟨pk_in b 24 (by omega) eb, rfl, I5⟩) (fun z => absurd ⟨a, ha, e⟩ z)
  · exact sg_yThere hn (fun b hb eb => absurd ⟨b, hb, eb⟩ z) (fun z => br_t rfl ⟨rfl, I5⟩)
theorem i_vc_times {k : Nat} {u : SX} {v : SY} (I : i_Rel k u v) (hk : k + 5 ≤ 2560) (v1 : Int32) : wpX_times (fun r => wpY_times (fun r' => r' = r ∧ i_Rel (k + 5) u v) v v1) u v1 := by
  have I5 := i_up I
  obtain ⟨n, o, l, c, K, A, B, C, H, V, D, T, W, U, S, O, F, d, p, g, rfl, rfl, hn, hw, hac, hS, ht⟩ := I
  unfold wpX_times wpY_times
  dsimp only
  refine sg_xThere hn (fun a ha e => br_f (by decide) ⟨pk_in a 24 (by omega) e, ?_⟩) (fun z => br_t rfl ?_)
  · exact sg_yThere hn (fun b hb eb => br_f (by decide) ⟨pk_in b 24 (by omega) eb, rfl, I5⟩) (fun z => absurd ⟨a, ha, e⟩ z)
  · exact sg_yThere hn (fun b hb eb => absurd ⟨b, hb, eb⟩ z) (fun z => br_t rfl ⟨rfl, I5⟩)
theorem i_vc_sort {k : Nat} {u : SX} {v : SY} (I : i_Rel k u v) (hk : k + 5 ≤ 2560) (v1 : Int32) : wpX_sort (fun r => wpY_sort (fun r' => r' = r ∧ i_Rel (k + 5) u v) v v1) u v1 := by
  have I5 := i_up I
  obtain ⟨n, o, l, c, K, A, B, C, H, V, D, T, W, U, S, O, F, d, p, g, rfl, rfl, hn, hw, hac, hS, ht⟩ := I
  unfold wpX_sort wpY_sort
  dsimp only
  refine sg_xThere hn (fun a ha e => br_f (by decide) ?_) (fun z => br_t rfl ?_)
  · refine sg_xCe hn (fun hL => br_f (by decide) ?_) (fun hL => br_t rfl ?_)
    · exact sg_yThere hn (fun b hb eb => br_f (by decide) (sg_yCe hn (fun hL' => br_f (by decide) ⟨rfl, I5⟩) (fun hL' => absurd hL hL'))) (fun z => absurd ⟨a, ha, e⟩ z)
    · exact sg_yThere hn (fun b hb eb => br_f (by decide) (sg_yCe hn (fun hL' => absurd hL' hL) (fun hL' => br_t rfl ⟨rfl, I5⟩))) (fun z => absurd ⟨a, ha, e⟩ z)
  · exact sg_yThere hn (fun b hb eb => absurd ⟨b, hb, eb⟩ z) (fun z => br_t rfl ⟨rfl, I5⟩)
theorem i_vc_leads {k : Nat} {u : SX} {v : SY} (I : i_Rel k u v) (hk : k + 5 ≤ 2560) (v1 : Int32) (v2 : Int32) : wpX_leads (fun r => wpY_leads (fun r' => r' = r ∧ i_Rel (k + 5) u v) v v1 v2) u v1 v2 := by
  have I5 := i_up I
  obtain ⟨n, o, l, c, K, A, B, C, H, V, D, T, W, U, S, O, F, d, p, g, rfl, rfl, hn, hw, hac, hS, ht⟩ := I
  unfold wpX_leads wpY_leads
  dsimp only
  refine sg_xThere hn (fun a ha e => br_f (by decide) ?_) (fun z => br_t rfl ?_)
  · refine sg_xThere hn (fun b hb eb => br_f (by decide) ?_) (fun z => br_t rfl ?_)
    · subst e eb
      refine sg_xCome hn hw hac ha hb (fun hR => br_f (by decide) ?_) (fun hR => br_t rfl ?_)
      · refine sg_yThere hn (fun _ _ _ => br_f (by decide) (sg_yThere hn (fun _ _ _ => br_f (by decide) (sg_yReach hn hw hac ha fun s hs => br_t ?_ ⟨rfl, I5⟩)) (fun z => absurd ⟨b, hb, rfl⟩ z))) (fun z => absurd ⟨a, ha, rfl⟩ z)
        rw [sg_sh1 s (by omega)]
        exact (hs b (by omega)).mpr hR
      · refine sg_yThere hn (fun _ _ _ => br_f (by decide) (sg_yThere hn (fun _ _ _ => br_f (by decide) (sg_yReach hn hw hac ha fun s hs => br_f ?_ ⟨rfl, I5⟩)) (fun z => absurd ⟨b, hb, rfl⟩ z))) (fun z => absurd ⟨a, ha, rfl⟩ z)
        rw [sg_sh1 s (by omega)]
        exact fun hb' => hR ((hs b (by omega)).mp hb')
    · exact sg_yThere hn (fun _ _ _ => br_f (by decide) (sg_yThere hn (fun b hb eb => absurd ⟨b, hb, eb⟩ z) (fun z => br_t rfl ⟨rfl, I5⟩))) (fun z => br_t rfl ⟨rfl, I5⟩)
  · exact sg_yThere hn (fun b hb eb => absurd ⟨b, hb, eb⟩ z) (fun z => br_t rfl ⟨rfl, I5⟩)
theorem i_vc_transactions {k : Nat} {u : SX} {v : SY} (I : i_Rel k u v) (hk : k + 5 ≤ 2560) : wpX_transactions (fun r => wpY_transactions (fun r' => r' = r ∧ i_Rel (k + 5) u v) v) u := by
  have I5 := i_up I
  obtain ⟨n, o, l, c, K, A, B, C, H, V, D, T, W, U, S, O, F, d, p, g, rfl, rfl, hn, hw, hac, hS, ht⟩ := I
  exact ⟨rfl, I5⟩
theorem i_vc_level {k : Nat} {u : SX} {v : SY} (I : i_Rel k u v) (hk : k + 5 ≤ 2560) (v1 : Int32) : wpX_level (fun r u' => wpY_level (fun r' => r' = r ∧ i_Rel (k + 5) u' v) v v1) u v1 := by
  have I5 := i_up I
  obtain ⟨n, o, l, c, K, A, B, C, H, V, D, T, W, U, S, O, F, d, p, g, rfl, rfl, hn, hw, hac, hS, ht⟩ := I
  have hno : (¬ v1 = 0 ∧ ¬ v1 = 1) → wpY_level (fun r' => r' = 0 ∧ i_Rel (k + 5) (nI n, o, l, c, K, A, B, C, H, V, D, T, W, U, S, O) (nI n, c, K, A, B, C, H, V, F, T, d, p, g)) (nI n, c, K, A, B, C, H, V, F, T, d, p, g) v1 := fun z => br_f z.1 (br_f z.2 ⟨rfl, I5⟩)
  by_cases h0 : v1 < 0
  · exact br_t h0 (hno ⟨fun e => absurd (e ▸ h0) (by decide), fun e => absurd (e ▸ h0) (by decide)⟩)
  · refine br_f h0 ?_
    by_cases h1 : v1 ≤ 1
    · refine br_t h1 ?_
      have I6 : i_Rel (k + 5) (nI n, o, v1, c, K, A, B, C, H, V, D, T, W, U, S, O) (nI n, c, K, A, B, C, H, V, F, T, d, p, g) := by
        obtain ⟨s1, s2, s3, s4, s5, s6, s7, s8, s9⟩ := hS
        exact i_up ⟨n, o, v1, c, K, A, B, C, H, V, D, T, W, U, S, O, F, d, p, g, rfl, rfl, hn, hw, hac, ⟨s1, s2, s3, s4, s5, s6, s7, s8, s9⟩, ht⟩
      obtain ⟨j, hj, rfl⟩ := nI_of2 (M := 1) (n := 1) (by decide) h0 h1
      have : j = 0 ∨ j = 1 := by omega
      rcases this with e | e <;> subst e
      · exact br_t rfl ⟨rfl, I6⟩
      · exact br_f (by decide) (br_t rfl ⟨rfl, I6⟩)
    · exact br_f h1 (hno ⟨fun e => absurd (e ▸ h1) (by decide), fun e => absurd (e ▸ h1) (by decide)⟩)
theorem i_vc_fire {k : Nat} {u : SX} {v : SY} (I : i_Rel k u v) (hk : k + 5 ≤ 2560) (v1 : Int32) (v2 : Int32) : wpX_fire (fun r u' => wpY_fire (fun r' v' => r' = r ∧ i_Rel (k + 5) u' v') v v1 v2) u v1 v2 := by
  have I5 := i_up I
  obtain ⟨n, o, l, c, K, A, B, C, H, V, D, T, W, U, S, O, F, d, p, g, rfl, rfl, hn, hw, hac, hS, ht⟩ := I
  unfold wpX_fire wpY_fire
  dsimp only
  refine sg_xKind hn (fun a ha e ek => br_f (by decide) ?_) (fun z => br_t rfl ?_)
  · subst e
    have hin : vp_in (nI a) 24 := vp_in_nI (by omega) (by omega)
    rw [nI_clamp (by omega), sg_vb1]
    refine ⟨hin, nm_e ⟨hin, nm_e ?_⟩⟩
    refine sg_yThere hn (fun _ _ _ => br_f (by decide) ⟨hin, br_t ek ⟨hin, nm_e ⟨hin, nm_e ⟨rfl, ?_⟩⟩⟩⟩) (fun z => absurd ⟨a, ha, rfl⟩ z)
    obtain ⟨s1, s2, s3, s4, s5, s6, s7, s8, s9⟩ := hS
    refine i_up ⟨n, o, l, c, K, A, B, C, H, V, D, T, upd W a 1, upd U a v2, S, O, F, d, upd p a 1, upd g a v2, rfl, rfl, hn, hw, hac, ⟨s1, ?_, ?_, s4, ?_, ?_, ?_, s8, s9⟩, ht⟩
    · intro j
      by_cases e : j = a
      · subst e; exact Or.inr pk_us
      · rw [pk_un e]; exact s2 j
    · intro j
      by_cases e : j = a
      · subst e; exact Or.inr pk_us
      · rw [pk_un e]; exact s3 j
    · intro j hj hkj
      by_cases e : j = a
      · subst e; exact ⟨by rw [pk_us, pk_us], by rw [pk_us, pk_us]⟩
      · rw [pk_un e, pk_un e, pk_un e, pk_un e]; exact s5 j hj hkj
    · intro j hj hkj
      by_cases e : j = a
      · subst e; rw [ek] at hkj; exact absurd hkj (by decide)
      · rw [pk_un e]; exact s6 j hj hkj
    · intro j hj hkj
      by_cases e : j = a
      · subst e; rw [ek] at hkj; exact absurd hkj (by decide)
      · rw [pk_un e]; exact s7 j hj hkj
  · refine sg_yThere hn (fun a ha e => br_f (by decide) ⟨pk_in a 24 (by omega) e, br_f ?_ ⟨rfl, I5⟩⟩) (fun z => br_t rfl ⟨rfl, I5⟩)
    intro ek
    subst e
    rw [nI_clamp (by omega)] at ek
    exact z ⟨a, ha, rfl, ek⟩
section
variable {n k : Nat} {o l c : Int32} {K A B C H V D T W U S O h v F d p g : Nat → Int32}
theorem sg_dc_A {A' : Nat → Int32} {j : Nat} (e : A' j = A j) : sg_dc K A' B C V j = sg_dc K A B C V j := by
  unfold sg_dc
  rw [e]
theorem sg_relTie {a : Nat} {x : Int32} (hn : n ≤ 24) (hw : sg_wf n K A B C) (hS : sg_S n K A B C H V T W U S p g k) (ha : a < n) (ek : K a = 4) (hx : x = -1 ∨ sg_E K n x) (hac : sg_ac n K (upd A a x) B C) : i_Rel (k + 5) (nI n, 1, l, c, K, upd A a x, B, C, H, V, D, T, W, U, S, O) (nI n, c, K, upd A a x, B, C, H, V, F, T, d, p, g) := by
  obtain ⟨s1, s2, s3, s4, s5, s6, s7, s8, s9⟩ := hS
  refine i_up ⟨n, 1, l, c, K, upd A a x, B, C, H, V, D, T, W, U, S, O, F, d, p, g, rfl, rfl, hn, ?_, hac, ⟨s1, s2, s3, s4, s5, s6, s7, s8, ?_⟩, fun z => absurd z (by decide)⟩
  · intro j hj
    by_cases e : j = a
    · subst e
      rw [pk_us, ek, if_pos rfl]
      exact Or.inr (Or.inr (Or.inr (Or.inl ⟨rfl, hx⟩)))
    · rw [pk_un e]; exact hw j hj
  · intro j hj hd
    have e : j ≠ a := by
      intro e
      subst e
      rw [ek] at hd
      rcases hd with z | z | z <;> exact absurd z (by decide)
    rw [sg_dc_A (A := A) (pk_un e)]
    exact s9 j hj hd
end
theorem i_vc_tie {k : Nat} {u : SX} {v : SY} (I : i_Rel k u v) (hk : k + 5 ≤ 2560) (v1 : Int32) (v2 : Int32) : wpX_tie (fun r u' => wpY_tie (fun r' v' => r' = r ∧ i_Rel (k + 5) u' v') v v1 v2) u v1 v2 := by
  have I5 := i_up I
  obtain ⟨n, o, l, c, K, A, B, C, H, V, D, T, W, U, S, O, F, d, p, g, rfl, rfl, hn, hw, hac, hS, ht⟩ := I
  unfold wpX_tie wpY_tie
  dsimp only
  refine sg_xKind hn (fun a ha e ek => br_f (by decide) ?_) (fun z => br_t rfl ?_)
  · subst e
    have hin : vp_in (nI a) 24 := vp_in_nI (by omega) (by omega)
    have hcl : (nI a).toNatClampNeg = a := nI_clamp (by omega)
    have ek' : K (nI a).toNatClampNeg = 4 := by rw [hcl]; exact ek
    refine br_c (fun e1 => ⟨hin, nm_e ?_⟩) (fun n1 => ?_)
    · subst e1
      refine sg_yThere hn (fun _ _ _ => br_f (by decide) ⟨hin, br_t ek' (br_t rfl (br_t (by decide) ⟨hin, nm_e ⟨rfl, ?_⟩⟩))⟩) (fun z => absurd ⟨a, ha, rfl⟩ z)
      rw [hcl]
      exact sg_relTie hn hw hS ha ek (Or.inl rfl) (sg_ac_un ek hac)
    · refine sg_xEv hn (fun hE => br_f (by decide) ?_) (fun hE => br_t rfl ?_)
      · have hE' := hE
        obtain ⟨b, hb, eb, hc⟩ := hE
        subst eb
        refine sg_xCome hn hw hac hb ha (fun hR => br_f (by decide) ?_) (fun hR => br_t rfl ⟨hin, nm_e ?_⟩)
        · refine sg_yThere hn (fun _ _ _ => br_f (by decide) ⟨hin, br_t ek' (br_f n1 (sg_yEv hn (fun _ => br_f (by decide) (br_f (nI_pos (by omega)) (sg_yReach hn hw hac hb fun s hs => br_t ?_ ⟨rfl, I5⟩))) (fun z => absurd hE' z)))⟩) (fun z => absurd ⟨a, ha, rfl⟩ z)
          rw [sg_sh1 s (by omega)]
          exact (hs a (by omega)).mpr hR
        · refine sg_yThere hn (fun _ _ _ => br_f (by decide) ⟨hin, br_t ek' (br_f n1 (sg_yEv hn (fun _ => br_f (by decide) (br_f (nI_pos (by omega)) (sg_yReach hn hw hac hb fun s hs => br_f ?_ ⟨hin, nm_e ⟨rfl, ?_⟩⟩))) (fun z => absurd hE' z)))⟩) (fun z => absurd ⟨a, ha, rfl⟩ z)
          · rw [sg_sh1 s (by omega)]
            exact fun hb' => hR ((hs a (by omega)).mp hb')
          · rw [hcl]
            refine sg_relTie hn hw hS ha ek (Or.inr hE') (sg_ac_tie ek hac rfl (by omega) ?_ hR)
            intro e
            subst e
            exact hc (Or.inl ek)
      · exact sg_yThere hn (fun _ _ _ => br_f (by decide) ⟨hin, br_t ek' (br_f n1 (sg_yEv hn (fun z => absurd z hE) (fun _ => br_t rfl ⟨rfl, I5⟩)))⟩) (fun z => absurd ⟨a, ha, rfl⟩ z)
  · refine sg_yThere hn (fun a ha e => br_f (by decide) ⟨pk_in a 24 (by omega) e, br_f ?_ ⟨rfl, I5⟩⟩) (fun z => br_t rfl ⟨rfl, I5⟩)
    intro ek
    subst e
    rw [nI_clamp (by omega)] at ek
    exact z ⟨a, ha, rfl, ek⟩
