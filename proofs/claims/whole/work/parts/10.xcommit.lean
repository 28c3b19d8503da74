theorem sg_ct_all {P : Nat → Bool} : ∀ n, (∀ j, j < n → P j = true) → sg_ct P n = n
  | 0, _ => rfl
  | n + 1, h => by
    show sg_ct P n + (if P n = true then 1 else 0) = n + 1
    rw [sg_ct_all n (fun j hj => h j (by omega)), if_pos (h n (by omega))]
section
variable {n k : Nat} {o l c : Int32} {K A B C H V D T W U S O h v F d p g : Nat → Int32}
theorem sg_xKeep {post : SX → Prop} (hn : n ≤ 24) (hp : post (nI n, o, l, c, K, A, B, C, H, V, sg_pw V D n, T, W, U, S, O)) : wpX_keepBefore post (nI n, o, l, c, K, A, B, C, H, V, D, T, W, U, S, O) := by
  unfold wpX_keepBefore
  dsimp only
  refine loop_0 (fun f i s => wX_keepBefore_2 post (nI n) o l c f (nI i) K A B C H V s T W U S O) (fun i s => s = sg_pw V D i) n D sg_pw_0 ?_ ?_
  · rintro f s rfl
    exact br_t (nI_le (Nat.le_refl n) (by omega)) hp
  · rintro f i s hi rfl ih
    have hin : vp_in (nI i) 24 := vp_in_nI (by omega) (by omega)
    have hcl : (nI i).toNatClampNeg = i := nI_clamp (by omega)
    refine br_f (nI_ge hi (by omega)) ⟨hin, hin, nm_e (nm_r (nI_1 i) (ih _ ?_))⟩
    rw [hcl]
    exact sg_pw_s rfl
/-- the order so far -/
def sg_IO (n : Nat) (K A B C : Nat → Int32) (dn : Int32) (t : Nat) (s : Nat → Int32) : Prop :=
  t = sg_ct (fun j => bt dn j) n ∧ (∀ j, bt dn j = true → j < n ∧ ∃ a, a < t ∧ s a = nI j)
  ∧ (∀ a, a < t → ∃ j, j < n ∧ s a = nI j ∧ bt dn j = true ∧ ∀ m, sg_P n K A B C j m → ∃ b, b < a ∧ s b = nI m)
  ∧ (∀ a b, a < t → b < t → s a = s b → a = b)
theorem sg_IO_s {dn : Int32} {t i : Nat} {s : Nat → Int32} (hn : n ≤ 24) (hi : i < n) (h : sg_IO n K A B C dn t s) (hni : ¬ bt dn i = true) (hp : ∀ m, sg_P n K A B C i m → bt dn m = true) : t < n ∧ sg_IO n K A B C (dn ||| ((1 : Int32) <<< (nI i &&& 31))) (t + 1) (upd s t (nI i)) := by
  obtain ⟨h1, h2, h3, h4⟩ := h
  have hlt : t < n := by
    rw [h1]
    exact sg_ct_miss _ n i hi (by cases e : bt dn i; rfl; exact absurd e hni)
  have hor := fun j => sg_or1 dn (m := i) (by omega) j
  refine ⟨hlt, ?_, ?_, ?_, ?_⟩
  · rw [h1]
    refine (sg_ct_add (k := i) ?_ ?_ n hi ?_).symm
    · cases e : bt dn i
      · rfl
      · exact absurd e hni
    · exact (hor i).mpr (Or.inr rfl)
    · intro j hj
      have := hor j
      cases e : bt dn j
      · cases e2 : bt (dn ||| ((1 : Int32) <<< (nI i &&& 31))) j
        · rfl
        · rcases this.mp e2 with z | z
          · rw [e] at z; exact absurd z (by decide)
          · exact absurd z hj
      · exact this.mpr (Or.inl e)
  · intro j hj
    rcases (hor j).mp hj with z | z
    · obtain ⟨q1, a, q2, q3⟩ := h2 j z
      exact ⟨q1, a, by omega, by rw [pk_un (by omega)]; exact q3⟩
    · subst z
      exact ⟨hi, t, by omega, pk_us⟩
  · intro a ha
    by_cases e : a = t
    · subst e
      refine ⟨i, hi, pk_us, (hor i).mpr (Or.inr rfl), fun m hm => ?_⟩
      obtain ⟨_, b, q2, q3⟩ := h2 m (hp m hm)
      exact ⟨b, q2, by rw [pk_un (by omega)]; exact q3⟩
    · obtain ⟨j, q1, q2, q3, q4⟩ := h3 a (by omega)
      refine ⟨j, q1, by rw [pk_un e]; exact q2, (hor j).mpr (Or.inl q3), fun m hm => ?_⟩
      obtain ⟨b, q5, q6⟩ := q4 m hm
      exact ⟨b, q5, by rw [pk_un (by omega)]; exact q6⟩
  · have key : ∀ b, b < t → s b ≠ nI i := by
      intro b hb e
      obtain ⟨j, q1, q2, q3, _⟩ := h3 b hb
      rw [q2, nI_eq (by omega) (by omega)] at e
      subst e
      exact hni q3
    intro a b ha hb e
    by_cases ea : a = t
    · by_cases eb : b = t
      · omega
      · rw [ea, pk_us, pk_un eb] at e
        exact absurd e.symm (key b (by omega))
    · by_cases eb : b = t
      · rw [eb, pk_us, pk_un ea] at e
        exact absurd e (key a (by omega))
      · rw [pk_un ea, pk_un eb] at e
        exact h4 a b (by omega) (by omega) e
theorem sg_IO_top {dn : Int32} {t : Nat} {s : Nat → Int32} (h : sg_IO n K A B C dn t s) (hall : ∀ j, j < n → bt dn j = true) : sg_top n K A B C s := by
  obtain ⟨h1, h2, h3, h4⟩ := h
  have e : t = n := by rw [h1]; exact sg_ct_all n hall
  subst e
  refine ⟨fun j hj => (h2 j (hall j hj)).2, fun a ha => ?_, h4⟩
  obtain ⟨j, q1, q2, _, q4⟩ := h3 a ha
  exact ⟨j, q1, q2, q4⟩
theorem sg_xo25 {post : SX → Prop} {J : Int32 → Int32 → Int32 → (Nat → Int32) → (Nat → Int32) → (Nat → Int32) → (Nat → Int32) → (Nat → Int32) → (Nat → Int32) → (Nat → Int32) → (Nat → Int32) → (Nat → Int32) → (Nat → Int32) → (Nat → Int32) → (Nat → Int32) → Prop} {dn0 : Int32} {r t0 : Nat} {rk : Nat → Nat} (hn : n ≤ 24) (hw : sg_wf n K A B C) (hrk : ∀ j m, sg_P n K A B C j m → rk m < rk j)
    (h0 : sg_IO n K A B C dn0 t0 O) (hr : ∀ j, j < n → rk j < r → bt dn0 j = true)
    (hJ : ∀ dn t s, sg_IO n K A B C dn t s → (∀ j, j < n → rk j < r + 1 → bt dn j = true) → J dn (nI t) (nI (r + 1)) K A B C H V D T W U S s) : ∃ f, wX_putInOrder_25 post J (nI r) (nI n) o l c f dn0 (nI t0) 0 K A B C H V D T W U S O := by
  refine loop_0 (σ := Int32 × Nat × (Nat → Int32)) (fun f i s => wX_putInOrder_25 post J (nI r) (nI n) o l c f s.1 (nI s.2.1) (nI i) K A B C H V D T W U S (s.2.2)) (fun i s => sg_IO n K A B C s.1 s.2.1 s.2.2 ∧ (∀ j, bt dn0 j = true → bt s.1 j = true) ∧ (∀ j, j < i → rk j < r + 1 → bt s.1 j = true)) n (dn0, t0, O) ⟨h0, fun _ z => z, fun j hj => absurd hj (by omega)⟩ ?_ ?_
  · rintro f ⟨dn, t, s⟩ ⟨a, b, q⟩
    exact br_t (nI_le (Nat.le_refl n) (by omega)) (nm_r (nI_1 r) (hJ dn t s a q))
  · rintro f i ⟨dn, t, s⟩ hi ⟨a, b, q⟩ ih
    dsimp only at a b q ⊢
    have hcon : (bt dn i = true ∨ ¬ (∀ m, sg_P n K A B C i m → bt dn m = true)) → wX_putInOrder_25 post J (nI r) (nI n) o l c f dn (nI t) (nI (i + 1)) K A B C H V D T W U S s := by
      intro hh
      refine ih (dn, t, s) ⟨a, b, ?_⟩
      intro j hj hrj
      by_cases e : j = i
      · subst e
        rcases hh with hh | hh
        · exact hh
        · refine absurd ?_ hh
          intro m hm
          have := hrk j m hm
          exact b m (hr m (sg_P_lt hn hw hm) (by omega))
      · exact q j (by omega) hrj
    refine br_f (nI_ge hi (by omega)) (nm_e (br_c (fun z => sg_xPt' hn hi hw fun r8 hr8 => ?_) (fun z => nm_r (nI_1 i) (hcon (Or.inl ?_)))))
    · rw [sg_an0 dn (by omega)] at z
      refine br_c (fun y => ?_) (fun y => nm_r (nI_1 i) (hcon (Or.inr ?_)))
      · rw [sg_dn0] at y
        have hpd : ∀ m, sg_P n K A B C i m → bt dn m = true := by
          intro m hm
          have := hm.2.1
          exact y m (by omega) ((hr8 m (by omega)).mpr hm)
        obtain ⟨hlt, hIO⟩ := sg_IO_s hn hi a z hpd
        refine ⟨vp_in_nI (by omega) (by omega), ?_⟩
        rw [nI_clamp (by omega)]
        refine nm_e (nm_r (nI_1 t) (nm_e (nm_r (nI_1 i) ?_)))
        refine ih (dn ||| ((1 : Int32) <<< (nI i &&& 31)), t + 1, upd s t (nI i)) ⟨hIO, ?_, ?_⟩
        · intro j hj
          exact (sg_or1 dn (by omega) j).mpr (Or.inl (b j hj))
        · intro j hj hrj
          by_cases e : j = i
          · exact (sg_or1 dn (by omega) j).mpr (Or.inr e)
          · exact (sg_or1 dn (by omega) j).mpr (Or.inl (q j (by omega) hrj))
      · intro hall
        refine y ((sg_dn0 _ _).mpr ?_)
        intro m hm hb
        exact hall m ((hr8 m hm).mp hb)
    · rw [sg_an0 dn (by omega)] at z
      exact Classical.not_not.mp z
theorem sg_xOrder {post : SX → Prop} (hn : n ≤ 24) (hw : sg_wf n K A B C) (hac : sg_ac n K A B C) (hp : ∀ s, sg_top n K A B C s → post (nI n, 0, l, c, K, A, B, C, H, V, D, T, W, U, S, s)) : wpX_putInOrder post (nI n, o, l, c, K, A, B, C, H, V, D, T, W, U, S, O) := by
  obtain ⟨rk, hb, hrk⟩ := sg_ac_b hn hw hac
  unfold wpX_putInOrder
  dsimp only
  refine loop_0 (σ := Int32 × Nat × (Nat → Int32)) (fun f r s => wX_putInOrder_6 post (nI n) o l c f s.1 (nI s.2.1) (nI r) K A B C H V D T W U S (s.2.2)) (fun r s => sg_IO n K A B C s.1 s.2.1 s.2.2 ∧ (∀ j, j < n → rk j < r → bt s.1 j = true)) n ((0 : Int32), 0, O) ⟨?_, fun j _ hj => absurd hj (by omega)⟩ ?_ ?_
  · have e0 : ∀ m, sg_ct (fun j => bt 0 j) m = 0 := by
      intro m
      induction m with
      | zero => rfl
      | succ m ih =>
        show sg_ct (fun j => bt 0 j) m + (if bt 0 m = true then 1 else 0) = 0
        rw [ih, b_0]
        rfl
    refine ⟨(e0 n).symm, fun j hj => ?_, fun a ha => absurd ha (Nat.not_lt_zero a), fun a b ha => absurd ha (Nat.not_lt_zero a)⟩
    dsimp only at hj
    rw [b_0] at hj
    exact absurd hj (by decide)
  · rintro f ⟨dn, t, s⟩ ⟨a, q⟩
    exact br_t (nI_le (Nat.le_refl n) (by omega)) (hp s (sg_IO_top a (fun j hj => q j hj (hb j hj))))
  · rintro f r ⟨dn, t, s⟩ hr ⟨a, q⟩ ih
    dsimp only at a q ⊢
    have htn : t ≤ n := by
      rw [a.1]
      exact sg_ct_le _ _
    refine br_f (nI_ge hr (by omega)) (pk_le n t (fun hle => hp s (sg_IO_top a ?_)) (fun _ => ?_))
    · intro j hj
      exact sg_ct_full (P := fun j => bt dn j) (by rw [← a.1]; exact hle) hj
    · exact sg_xo25 hn hw hrk a q fun dn' t' s' a' q' => ih (dn', t', s') ⟨a', q'⟩
/-- the has and value arrays after all nodes are worked out, in terms of what held before -/
def sg_Loc (n : Nat) (K A B C H V D W T U S : Nat → Int32) (j : Nat) : Prop := H j = sg_h K A B H V D W T C j ∧ V j = sg_v K A B H V D W T U S C j
theorem sg_xMain {post : Int32 → SX → Prop} (hn : n ≤ 24) (hw : sg_wf n K A B C) (ht : sg_top n K A B C O) (hH : ∀ j, H j = 0 ∨ H j = 1) (hW : ∀ j, W j = 0 ∨ W j = 1) (hHc : ∀ j, j < n → sg_ce (K j) → H j = 0)
    (hp : ∀ H1 V1, (∀ j, H1 j = 0 ∨ H1 j = 1) → (∀ j, j < n → sg_ce (K j) → H1 j = 0) → (∀ j, n ≤ j → H1 j = H j ∧ V1 j = V j) → (∀ j, j < n → sg_Loc n K A B C H1 V1 D W T U S j) →
      wpX_prepareNext (fun u => match u with | (n, o', l', c', K', A', B', C', H', V', D', T', W', U', S', O') => (wpX_tallyEvents post (n, o', l', c', K', A', B', C', H', V', D', T', W', U', S', O'))) (nI n, o, l, c, K, A, B, C, H1, V1, D, T, W, U, S, O)) : ∃ f, wX_commit_34 post f 0 (nI n) o l c K A B C H V D T W U S O := by
  obtain ⟨t1, t2, t3⟩ := ht
  refine loop_0 (σ := (Nat → Int32) × (Nat → Int32)) (fun f i s => wX_commit_34 post f (nI i) (nI n) o l c K A B C (s.1) (s.2) D T W U S O) (fun i s => (∀ j, s.1 j = 0 ∨ s.1 j = 1) ∧ (∀ j, j < n → sg_ce (K j) → s.1 j = 0) ∧ (∀ j, n ≤ j → s.1 j = H j ∧ s.2 j = V j) ∧ (∀ a j, a < i → j < n → O a = nI j → sg_Loc n K A B C s.1 s.2 D W T U S j)) n (H, V) ⟨hH, hHc, fun _ _ => ⟨rfl, rfl⟩, fun a j ha => absurd ha (by omega)⟩ ?_ ?_
  · rintro f ⟨H1, V1⟩ ⟨a, b, q, r⟩
    refine br_t (nI_le (Nat.le_refl n) (by omega)) (hp H1 V1 a b q ?_)
    intro j hj
    obtain ⟨i, hi, e⟩ := t1 j hj
    exact r i j hi hj e
  · rintro f i ⟨H1, V1⟩ hi ⟨a, b, q, r⟩ ih
    dsimp only at a b q r ⊢
    obtain ⟨j, hj, ej, hpj⟩ := t2 i hi
    have hin : vp_in (nI i) 24 := vp_in_nI (by omega) (by omega)
    have hcl : (nI i).toNatClampNeg = i := nI_clamp (by omega)
    refine br_f (nI_ge hi (by omega)) ⟨hin, ?_⟩
    rw [hcl, ej]
    refine sg_xWork hn hj hw a hW (b j hj) (nm_r (nI_1 i) (ih (upd H1 j (sg_h K A B H1 V1 D W T C j), upd V1 j (sg_v K A B H1 V1 D W T U S C j)) ⟨?_, ?_, ?_, ?_⟩))
    · intro m
      dsimp only
      by_cases e : m = j
      · subst e; rw [pk_us]; exact sg_h_01 a hW
      · rw [pk_un e]; exact a m
    · intro m hm hc
      dsimp only
      by_cases e : m = j
      · subst e; rw [pk_us]; exact sg_h_ce hc
      · rw [pk_un e]; exact b m hm hc
    · intro m hm
      dsimp only
      rw [pk_un (by omega), pk_un (by omega)]
      exact q m hm
    · intro x m hx hm ex
      dsimp only
      -- the parts of m stand before x
      have hpm : ∀ y, sg_P n K A B C m y → ∃ z, z < x ∧ O z = nI y := by
        obtain ⟨m', hm', em', hq'⟩ := t2 x (by omega)
        rw [ex, nI_eq (by omega) (by omega)] at em'
        subst em'
        exact hq'
      have hne : ∀ y, sg_P n K A B C m y → y ≠ j := by
        intro y hy e
        subst e
        obtain ⟨z, hz, ez⟩ := hpm y hy
        have := t3 z i (by omega) hi (by rw [ez, ej])
        omega
      obtain ⟨g1, g2⟩ := sg_hv_cg (H1 := upd H1 j (sg_h K A B H1 V1 D W T C j)) (H2 := H1) (V1 := upd V1 j (sg_v K A B H1 V1 D W T U S C j)) (V2 := V1) (Z1 := D) (Z2 := D) (wt1 := W) (wt2 := W) (on1 := T) (on2 := T) (wv1 := U) (wv2 := U) (cs1 := S) (cs2 := S) hn hm hw (fun y hy _ => pk_un (hne y hy)) (fun y hy => pk_un (hne y hy)) (fun _ _ _ => rfl) (fun _ => rfl) (fun _ => rfl) (fun _ => rfl) (fun _ => Iff.rfl)
      unfold sg_Loc
      rw [g1, g2]
      by_cases e : m = j
      · subst e
        rw [pk_us, pk_us]
        exact ⟨rfl, rfl⟩
      · rw [pk_un e, pk_un e]
        have hxi : x ≠ i := by
          intro z
          subst z
          rw [ex, nI_eq (by omega) (by omega)] at ej
          exact e ej
        exact r x m (by omega) hm ex
theorem sg_fD {j : Nat} (hw : sg_wf n K A B C) (hj : j < n) (e : K j = 11) : sg_E K n (A j) := by
  have hf := sg_wf_n hw hj
  rw [e] at hf
  exact sg_f1 (by decide) hf
def sg_pW (K A H W : Nat → Int32) : Nat → Int32 := fun j => if K j = 0 then 0 else if K j = 11 then H (A j).toNatClampNeg else W j
def sg_pU (K A V U : Nat → Int32) : Nat → Int32 := fun j => if K j = 11 then V (A j).toNatClampNeg else U j
def sg_pS (K H V S : Nat → Int32) : Nat → Int32 := fun j => if K j = 8 then (if H j = 0 then S j else V j) else S j
theorem sg_xPrep {post : SX → Prop} (hn : n ≤ 24) (hw : sg_wf n K A B C) (hH : ∀ j, H j = 0 ∨ H j = 1) (hp : post (nI n, o, l, c, K, A, B, C, H, V, D, T, sg_pw (sg_pW K A H W) W n, sg_pw (sg_pU K A V U) U n, sg_pw (sg_pS K H V S) S n, O)) : wpX_prepareNext post (nI n, o, l, c, K, A, B, C, H, V, D, T, W, U, S, O) := by
  unfold wpX_prepareNext
  dsimp only
  refine loop_0 (σ := (Nat → Int32) × (Nat → Int32) × (Nat → Int32)) (fun f i s => wX_prepareNext_2 post (nI n) o l c f (nI i) K A B C H V D T (s.1) (s.2.1) (s.2.2) O) (fun i s => s.1 = sg_pw (sg_pW K A H W) W i ∧ s.2.1 = sg_pw (sg_pU K A V U) U i ∧ s.2.2 = sg_pw (sg_pS K H V S) S i) n (W, U, S) ⟨sg_pw_0, sg_pw_0, sg_pw_0⟩ ?_ ?_
  · rintro f ⟨W1, U1, S1⟩ ⟨e1, e2, e3⟩
    dsimp only at e1 e2 e3 ⊢
    subst e1 e2 e3
    exact br_t (nI_le (Nat.le_refl n) (by omega)) hp
  · rintro f i ⟨W1, U1, S1⟩ hi ⟨e1, e2, e3⟩ ih
    dsimp only at e1 e2 e3 ⊢
    have hin : vp_in (nI i) 24 := vp_in_nI (by omega) (by omega)
    have hcl : (nI i).toNatClampNeg = i := nI_clamp (by omega)
    have kW : K i ≠ 0 → K i ≠ 11 → W1 = sg_pw (sg_pW K A H W) W (i + 1) := by
      intro z y
      rw [e1]
      refine sg_pw_n ?_
      unfold sg_pW
      rw [if_neg z, if_neg y]
    have kU : K i ≠ 11 → U1 = sg_pw (sg_pU K A V U) U (i + 1) := by
      intro y
      rw [e2]
      refine sg_pw_n ?_
      unfold sg_pU
      rw [if_neg y]
    have kS : ¬ (K i = 8 ∧ ¬ H i = 0) → S1 = sg_pw (sg_pS K H V S) S (i + 1) := by
      intro y
      rw [e3]
      refine sg_pw_n ?_
      unfold sg_pS
      by_cases z : K i = 8
      · rw [if_pos z, if_pos (Classical.not_not.mp fun q => y ⟨z, q⟩)]
      · rw [if_neg z]
    refine br_f (nI_ge hi (by omega)) ⟨hin, ?_⟩
    rw [hcl]
    refine br_c (fun z0 => ⟨hin, nm_e (nm_r (nI_1 i) (ih (upd W1 i (vp_nar .boolean 0), U1, S1) ⟨?_, kU (by rw [z0]; decide), kS (fun q => absurd (z0.symm.trans q.1) (by decide))⟩))⟩) (fun n0 => ⟨hin, br_c (fun z11 => ?_) (fun n11 => ⟨hin, br_c (fun z8 => ⟨hin, br_c (fun y => nm_r (nI_1 i) (ih (W1, U1, S1) ⟨kW n0 n11, kU n11, kS fun q => q.2 y⟩)) (fun y => ⟨hin, hin, nm_e (nm_r (nI_1 i) (ih (W1, U1, upd S1 i (V i)) ⟨kW n0 n11, kU n11, ?_⟩))⟩)⟩) (fun n8 => nm_r (nI_1 i) (ih (W1, U1, S1) ⟨kW n0 n11, kU n11, kS fun q => n8 q.1⟩))⟩)⟩)
    · dsimp only
      rw [e1, sg_vb0]
      refine sg_pw_s ?_
      unfold sg_pW
      rw [if_pos z0]
    · have hE := sg_E_in (sg_fD hw hi z11) hn
      refine ⟨hin, hE, hin, nm_e ⟨hin, hE, hin, nm_e (nm_r (nI_1 i) (ih (upd W1 i (vp_nar .boolean (H (A i).toNatClampNeg)), upd U1 i (V (A i).toNatClampNeg), S1) ⟨?_, ?_, kS (fun q => absurd (z11.symm.trans q.1) (by decide))⟩))⟩⟩
      · dsimp only
        rw [e1, sg_vb (hH _)]
        refine sg_pw_s ?_
        unfold sg_pW
        rw [if_neg n0, if_pos z11]
      · dsimp only
        rw [e2]
        refine sg_pw_s ?_
        unfold sg_pU
        rw [if_pos z11]
    · dsimp only
      rw [e3]
      refine sg_pw_s ?_
      unfold sg_pS
      rw [if_pos z8, if_neg y]
def sg_pT (H T : Nat → Int32) : Nat → Int32 := fun j => if H j = 0 then T j else T j + 1
def sg_nz (H : Nat → Int32) : Nat → Bool := fun j => decide (¬ H j = 0)
theorem sg_nz_0 {i : Nat} (e : H i = 0) : sg_ct (sg_nz H) i = sg_ct (sg_nz H) (i + 1) := by
  show _ = sg_ct (sg_nz H) i + (if sg_nz H i = true then 1 else 0)
  unfold sg_nz
  simp [e]
theorem sg_nz_1 {i : Nat} (e : ¬ H i = 0) : sg_ct (sg_nz H) i + 1 = sg_ct (sg_nz H) (i + 1) := by
  show _ = sg_ct (sg_nz H) i + (if sg_nz H i = true then 1 else 0)
  unfold sg_nz
  simp [e]
theorem sg_xTally {post : Int32 → SX → Prop} (hn : n ≤ 24) (hp : post (nI (sg_ct (sg_nz H) n)) (nI n, o, l, c, K, A, B, C, H, V, D, sg_pw (sg_pT H T) T n, W, U, S, O)) : wpX_tallyEvents post (nI n, o, l, c, K, A, B, C, H, V, D, T, W, U, S, O) := by
  unfold wpX_tallyEvents
  dsimp only
  refine loop_0 (fun f i s => wX_tallyEvents_4 post (nI n) o l c f (nI (sg_ct (sg_nz H) i)) (nI i) K A B C H V D s W U S O) (fun i s => s = sg_pw (sg_pT H T) T i) n T sg_pw_0 ?_ ?_
  · rintro f s rfl
    exact br_t (nI_le (Nat.le_refl n) (by omega)) hp
  · rintro f i s hi e ih
    have hin : vp_in (nI i) 24 := vp_in_nI (by omega) (by omega)
    have hcl : (nI i).toNatClampNeg = i := nI_clamp (by omega)
    refine br_f (nI_ge hi (by omega)) ⟨hin, ?_⟩
    rw [hcl]
    refine br_c (fun z => ?_) (fun z => ?_)
    · rw [sg_nz_0 z]
      refine nm_r (nI_1 i) (ih _ ?_)
      rw [e]
      refine sg_pw_n ?_
      unfold sg_pT
      rw [if_pos z]
    · refine ⟨hin, hin, nm_e (nm_r (nI_1 _) ?_)⟩
      rw [sg_nz_1 z]
      refine nm_r (nI_1 i) (ih _ ?_)
      rw [e, sg_pw_i]
      refine sg_pw_s ?_
      unfold sg_pT
      rw [if_neg z]
/-- X's transaction -/
theorem sg_xCommit {post : Int32 → SX → Prop} (hn : n ≤ 24) (hw : sg_wf n K A B C) (hac : sg_ac n K A B C) (ht : o = 0 → sg_top n K A B C O) (hH : ∀ j, H j = 0 ∨ H j = 1) (hW : ∀ j, W j = 0 ∨ W j = 1) (hHc : ∀ j, j < n → sg_ce (K j) → H j = 0)
    (hp : ∀ H1 V1 O1, sg_top n K A B C O1 → (∀ j, H1 j = 0 ∨ H1 j = 1) → (∀ j, j < n → sg_ce (K j) → H1 j = 0) → (∀ j, n ≤ j → H1 j = H j ∧ V1 j = V j) → (∀ j, j < n → sg_Loc n K A B C H1 V1 (sg_pw V D n) W T U S j) →
      post (nI (sg_ct (sg_nz H1) n)) (nI n, 0, l, c + 1, K, A, B, C, H1, V1, sg_pw V D n, sg_pw (sg_pT H1 T) T n, sg_pw (sg_pW K A H1 W) W n, sg_pw (sg_pU K A V1 U) U n, sg_pw (sg_pS K H1 V1 S) S n, O1)) : wpX_commit post (nI n, o, l, c, K, A, B, C, H, V, D, T, W, U, S, O) := by
  unfold wpX_commit
  dsimp only
  refine nm_e (sg_xKeep hn ?_)
  have hmain : ∀ O1, sg_top n K A B C O1 → ∃ f, wX_commit_34 post f 0 (nI n) 0 l (c + 1) K A B C H V (sg_pw V D n) T W U S O1 := by
    intro O1 hO1
    refine sg_xMain hn hw hO1 hH hW hHc ?_
    intro H1 V1 a b q r
    exact sg_xPrep hn hw a (sg_xTally hn (hp H1 V1 O1 hO1 a b q r))
  have h28 : wX_commit_28 post (nI n) o l (c + 1) K A B C H V (sg_pw V D n) T W U S O := sg_xOrder hn hw hac hmain
  refine br_c (fun _ => h28) (fun _ => br_c (fun z => ?_) (fun _ => h28))
  have z : o = 0 := z
  subst z
  exact hmain O (ht rfl)
end
