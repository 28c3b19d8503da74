section
variable {n k : Nat} {o l c : Int32} {K A B C H V D T W U S O h v F d p g : Nat → Int32}
theorem sg_yReady {post : Int32 → Prop} {j : Nat} (hn : n ≤ 24) (hw : sg_wf n K A B C) (hj : j < n) (h1 : (∀ m, sg_P n K A B C j m → ¬ d m = 0) → d j = 0 → post 1) (h0 : ¬ ((∀ m, sg_P n K A B C j m → ¬ d m = 0) ∧ d j = 0) → post 0) : wpY_isReady post (nI n, c, K, A, B, C, h, v, F, T, d, p, g) (nI j) := by
  unfold wpY_isReady
  dsimp only
  have hin : vp_in (nI j) 24 := vp_in_nI (by omega) (by omega)
  have hcl : (nI j).toNatClampNeg = j := nI_clamp (by omega)
  refine loop_0 (σ := Unit) (fun f i _ => wY_isReady_2 post (nI j) (nI n) c K A B C h v F T d p g f (nI i)) (fun i _ => ∀ q m, q < i → m < 24 → sg_pt (K j) (A j) (B j) (C j) q = nI m → ¬ d m = 0) 3 () (fun q m hq => absurd hq (by omega)) ?_ ?_
  · rintro f _ a
    refine br_t (nI_le (a := 3) (b := 3) (by omega) (by omega)) ⟨hin, ?_⟩
    rw [hcl]
    refine br_c (fun z => h1 ?_ z) (fun z => h0 fun q => z q.2)
    rintro m ⟨_, hm, i, hi, e⟩
    exact a i m hi hm e
  · rintro f i _ hi a ih
    refine br_f (nI_ge (b := 3) hi (by omega)) (sg_yPt (by omega) hi (br_c (fun hneg => nm_r (nI_1 i) (ih () ?_)) (fun hpos => sg_yPt (by omega) hi ?_)))
    · intro q m hq hm e
      by_cases eq : q = i
      · subst eq
        rw [e] at hneg
        exact absurd hneg (nI_pos (by omega))
      · exact a q m (by omega) hm e
    · obtain ⟨m, hm, em, hP⟩ := sg_pt_P hn hw hj hi hpos
      rw [em]
      refine ⟨vp_in_nI (by omega) (by omega), ?_⟩
      rw [nI_clamp (by omega)]
      refine br_c (fun z => h0 fun q => q.1 m hP z) (fun z => nm_r (nI_1 i) (ih () ?_))
      intro q m' hq hm' e
      by_cases eq : q = i
      · subst eq
        rw [em, nI_eq (by omega) (by omega)] at e
        subst e
        exact z
      · exact a q m' (by omega) hm' e
/-- the reference in the midst of its rounds, against the end values H1, V1 -/
def sg_IY (n : Nat) (K H V H1 V1 p0 g0 h v F d p g : Nat → Int32) : Prop :=
  (∀ j, h j = 0 ∨ h j = 1) ∧ (∀ j, p j = 0 ∨ p j = 1) ∧ (∀ j, j < n → sg_ce (K j) → v j = V j ∧ h j = 0)
  ∧ (∀ j, j < n → ¬ d j = 0 → ¬ sg_ce (K j) → h j = H1 j ∧ v j = V1 j) ∧ (∀ j, j < n → ¬ d j = 0 → sg_ce (K j) → F j = V1 j)
  ∧ (∀ j, n ≤ j → h j = H j ∧ v j = V j)
  ∧ (∀ j, p j = if j < n ∧ K j = 12 ∧ ¬ d j = 0 ∧ ¬ H1 j = 0 then 1 else p0 j)
  ∧ (∀ j, g j = if j < n ∧ K j = 8 ∧ ¬ d j = 0 ∧ ¬ H1 j = 0 then V1 j else g0 j)
/-- one node more -/
theorem sg_yStep {post : SY → Prop} {j : Nat} {H1 V1 p0 g0 : Nat → Int32} (hn : n ≤ 24) (hw : sg_wf n K A B C) (hj : j < n)
    (hI : sg_IY n K H V H1 V1 p0 g0 h v F d p g) (hloc : sg_Loc n K A B C H1 V1 D W T U S j) (hD : ∀ m, m < n → D m = V m)
    (hWU : K j = 0 ∨ K j = 11 → p0 j = W j ∧ g0 j = U j) (hS8 : K j = 8 → g0 j = S j) (hT12 : K j = 12 → (p0 j = 0 ↔ T j = 0))
    (hH1c : sg_ce (K j) → H1 j = 0) (hready : ∀ m, sg_P n K A B C j m → ¬ d m = 0) (hdj : d j = 0)
    (hp : ∀ h' v' F' p' g', sg_IY n K H V H1 V1 p0 g0 h' v' F' (upd d j 1) p' g' → post (nI n, c, K, A, B, C, h', v', F', T, d, p', g')) : wpY_work post (nI n, c, K, A, B, C, h, v, F, T, d, p, g) (nI j) := by
  obtain ⟨a1, a2, a3, a4, a5, a6, a7, a8⟩ := hI
  have hpj : p j = p0 j := by rw [a7 j, if_neg (fun z => z.2.2.1 hdj)]
  have hgj : g j = g0 j := by rw [a8 j, if_neg (fun z => z.2.2.1 hdj)]
  obtain ⟨e1, e2⟩ := sg_hv_cg (H1 := h) (H2 := H1) (V1 := sg_VV K v F) (V2 := V1) (Z1 := v) (Z2 := D) (wt1 := p) (wt2 := W) (on1 := p) (on2 := T) (wv1 := g) (wv2 := U) (cs1 := g) (cs2 := S) hn hj hw
    (fun m hm hc => (a4 m (sg_P_lt hn hw hm) (hready m hm) hc).1)
    (fun m hm => by
      by_cases hc : sg_ce (K m)
      · rw [sg_VV_c hc]; exact a5 m (sg_P_lt hn hw hm) (hready m hm) hc
      · rw [sg_VV_e hc]; exact (a4 m (sg_P_lt hn hw hm) (hready m hm) hc).2)
    (fun m hm hc => by rw [(a3 m hm hc).1, hD m hm])
    (fun e => by rw [hpj]; exact (hWU e).1) (fun e => by rw [hgj]; exact (hWU e).2) (fun e => by rw [hgj]; exact hS8 e) (fun e => by rw [hpj]; exact hT12 e)
  obtain ⟨l1, l2⟩ := hloc
  rw [← l1] at e1
  rw [← l2] at e2
  have hev : ¬ sg_ce (K j) → V1 j = if H1 j = 0 then 0 else sg_w K A B (sg_VV K v F) v g g C j := by
    intro hc
    rw [← e2]
    unfold sg_v
    rw [if_neg (fun e => hc (Or.inl e)), if_neg (fun e => hc (Or.inr (Or.inl e))), if_neg (fun e => hc (Or.inr (Or.inr (Or.inl e)))), if_neg (fun e => hc (Or.inr (Or.inr (Or.inr e)))), e1]
  have u1 : ∀ m, m ≠ j → (upd d j 1 m = 0 ↔ d m = 0) := fun m hm => by rw [pk_un hm]
  have uj : ¬ upd d j 1 j = 0 := by rw [pk_us]; decide
  -- what holds for other nodes
  have o4 : ∀ {h' v' : Nat → Int32}, (∀ m, m ≠ j → h' m = h m ∧ v' m = v m) → (¬ sg_ce (K j) → h' j = H1 j ∧ v' j = V1 j) → ∀ m, m < n → ¬ upd d j 1 m = 0 → ¬ sg_ce (K m) → h' m = H1 m ∧ v' m = V1 m := by
    intro h' v' ho hjj m hm hd hc
    by_cases e : m = j
    · subst e; exact hjj hc
    · rw [(ho m e).1, (ho m e).2]
      exact a4 m hm (fun z => hd ((u1 m e).mpr z)) hc
  have o5 : ∀ {F' : Nat → Int32}, (∀ m, m ≠ j → F' m = F m) → (sg_ce (K j) → F' j = V1 j) → ∀ m, m < n → ¬ upd d j 1 m = 0 → sg_ce (K m) → F' m = V1 m := by
    intro F' ho hjj m hm hd hc
    by_cases e : m = j
    · subst e; exact hjj hc
    · rw [ho m e]
      exact a5 m hm (fun z => hd ((u1 m e).mpr z)) hc
  have o7 : ∀ {p' : Nat → Int32}, (∀ m, m ≠ j → p' m = p m) → (p' j = if K j = 12 ∧ ¬ H1 j = 0 then 1 else p0 j) → ∀ m, p' m = if m < n ∧ K m = 12 ∧ ¬ upd d j 1 m = 0 ∧ ¬ H1 m = 0 then 1 else p0 m := by
    intro p' ho hjj m
    by_cases e : m = j
    · subst e
      rw [hjj]
      by_cases z : K m = 12 ∧ ¬ H1 m = 0
      · rw [if_pos z, if_pos ⟨hj, z.1, uj, z.2⟩]
      · rw [if_neg z, if_neg (fun y => z ⟨y.2.1, y.2.2.2⟩)]
    · rw [ho m e, a7 m]
      simp only [u1 m e]
  have o8 : ∀ {g' : Nat → Int32}, (∀ m, m ≠ j → g' m = g m) → (g' j = if K j = 8 ∧ ¬ H1 j = 0 then V1 j else g0 j) → ∀ m, g' m = if m < n ∧ K m = 8 ∧ ¬ upd d j 1 m = 0 ∧ ¬ H1 m = 0 then V1 m else g0 m := by
    intro g' ho hjj m
    by_cases e : m = j
    · subst e
      rw [hjj]
      by_cases z : K m = 8 ∧ ¬ H1 m = 0
      · rw [if_pos z, if_pos ⟨hj, z.1, uj, z.2⟩]
      · rw [if_neg z, if_neg (fun y => z ⟨y.2.1, y.2.2.2⟩)]
    · rw [ho m e, a8 m]
      simp only [u1 m e]
  have b1 : ∀ x : Int32, x = 0 ∨ x = 1 → ∀ m, upd h j x m = 0 ∨ upd h j x m = 1 := by
    intro x hx m
    by_cases e : m = j
    · subst e; rw [pk_us]; exact hx
    · rw [pk_un e]; exact a1 m
  have b3 : ∀ x y : Int32, ¬ sg_ce (K j) → ∀ m, m < n → sg_ce (K m) → upd v j y m = V m ∧ upd h j x m = 0 := by
    intro x y hc m hm hcm
    have e : m ≠ j := by intro e; subst e; exact hc hcm
    rw [pk_un e, pk_un e]
    exact a3 m hm hcm
  have b6 : ∀ x y : Int32, ∀ m, n ≤ m → upd h j x m = H m ∧ upd v j y m = V m := by
    intro x y m hm
    rw [pk_un (by omega), pk_un (by omega)]
    exact a6 m hm
  have up : ∀ {f : Nat → Int32} {x : Int32}, ∀ m, m ≠ j → upd f j x m = f m := fun m hm => pk_un hm
  have keep7 : ¬ (K j = 12 ∧ ¬ H1 j = 0) → ∀ m, p m = if m < n ∧ K m = 12 ∧ ¬ upd d j 1 m = 0 ∧ ¬ H1 m = 0 then 1 else p0 m := fun z => o7 (fun _ _ => rfl) (by rw [if_neg z]; exact hpj)
  have keep8 : ¬ (K j = 8 ∧ ¬ H1 j = 0) → ∀ m, g m = if m < n ∧ K m = 8 ∧ ¬ upd d j 1 m = 0 ∧ ¬ H1 m = 0 then V1 m else g0 m := fun z => o8 (fun _ _ => rfl) (by rw [if_neg z]; exact hgj)
  refine sg_yWork hn hj hw a1 a2 ?_ ?_ ?_ ?_ ?_
  · intro hc
    refine hp _ _ _ _ _ ⟨a1, a2, a3, o4 (fun _ _ => ⟨rfl, rfl⟩) (fun z => absurd hc z), o5 up (fun _ => ?_), a6, keep7 (fun z => z.2 (hH1c hc)), keep8 (fun z => z.2 (hH1c hc))⟩
    rw [pk_us, e2]
  · intro hc hS
    rw [e1] at hS
    refine hp _ _ _ _ _ ⟨b1 0 (Or.inl rfl), a2, b3 0 0 hc, o4 (fun m hm => ⟨up m hm, up m hm⟩) (fun _ => ⟨?_, ?_⟩), o5 (fun _ _ => rfl) (fun z => absurd z hc), b6 0 0, keep7 (fun z => z.2 hS), keep8 (fun z => z.2 hS)⟩
    · rw [pk_us, hS]
    · rw [pk_us, hev hc, if_pos hS]
  · intro hc n8 n12 hS
    rw [e1] at hS
    have hne : ¬ H1 j = 0 := by rw [hS]; decide
    refine hp _ _ _ _ _ ⟨b1 1 (Or.inr rfl), a2, b3 1 _ hc, o4 (fun m hm => ⟨up m hm, up m hm⟩) (fun _ => ⟨?_, ?_⟩), o5 (fun _ _ => rfl) (fun z => absurd z hc), b6 1 _, keep7 (fun z => n12 z.1), keep8 (fun z => n8 z.1)⟩
    · rw [pk_us, hS]
    · rw [pk_us, hev hc, if_neg hne]
  · intro e8 hS
    rw [e1] at hS
    have hne : ¬ H1 j = 0 := by rw [hS]; decide
    have hc : ¬ sg_ce (K j) := by
      intro hc
      rw [e8] at hc
      rcases hc with z | z | z | z <;> exact absurd z (by decide)
    refine hp _ _ _ _ _ ⟨b1 1 (Or.inr rfl), a2, b3 1 _ hc, o4 (fun m hm => ⟨up m hm, up m hm⟩) (fun _ => ⟨?_, ?_⟩), o5 (fun _ _ => rfl) (fun z => absurd z hc), b6 1 _, keep7 (fun z => absurd (e8.symm.trans z.1) (by decide)), o8 up ?_⟩
    · rw [pk_us, hS]
    · rw [pk_us, hev hc, if_neg hne]
    · rw [pk_us, if_pos ⟨e8, hne⟩, hev hc, if_neg hne]
  · intro e12 hS
    rw [e1] at hS
    have hne : ¬ H1 j = 0 := by rw [hS]; decide
    have hc : ¬ sg_ce (K j) := by
      intro hc
      rw [e12] at hc
      rcases hc with z | z | z | z <;> exact absurd z (by decide)
    refine hp _ _ _ _ _ ⟨b1 1 (Or.inr rfl), ?_, b3 1 _ hc, o4 (fun m hm => ⟨up m hm, up m hm⟩) (fun _ => ⟨?_, ?_⟩), o5 (fun _ _ => rfl) (fun z => absurd z hc), b6 1 _, o7 up ?_, keep8 (fun z => absurd (e12.symm.trans z.1) (by decide))⟩
    · intro m
      by_cases e : m = j
      · subst e; exact Or.inr pk_us
      · rw [pk_un e]; exact a2 m
    · rw [pk_us, hS]
    · rw [pk_us, hev hc, if_neg hne]
    · rw [pk_us, if_pos ⟨e12, hne⟩]
theorem sg_y33 {post : Int32 → SY → Prop} {J : Int32 → Int32 → Int32 → (Nat → Int32) → (Nat → Int32) → (Nat → Int32) → (Nat → Int32) → (Nat → Int32) → (Nat → Int32) → (Nat → Int32) → (Nat → Int32) → (Nat → Int32) → (Nat → Int32) → (Nat → Int32) → Prop} {r : Nat} {rk : Nat → Nat} {H1 V1 p0 g0 : Nat → Int32} (hn : n ≤ 24) (hw : sg_wf n K A B C) (hrk : ∀ j m, sg_P n K A B C j m → rk m < rk j)
    (hloc : ∀ j, j < n → sg_Loc n K A B C H1 V1 D W T U S j) (hD : ∀ m, m < n → D m = V m)
    (hWU : ∀ j, j < n → (K j = 0 ∨ K j = 11) → p0 j = W j ∧ g0 j = U j) (hS8 : ∀ j, j < n → K j = 8 → g0 j = S j) (hT12 : ∀ j, j < n → K j = 12 → (p0 j = 0 ↔ T j = 0))
    (hH1c : ∀ j, j < n → sg_ce (K j) → H1 j = 0)
    (hI : sg_IY n K H V H1 V1 p0 g0 h v F d p g) (hr : ∀ j, j < n → rk j < r → ¬ d j = 0)
    (hJ : ∀ h' v' F' d' p' g', sg_IY n K H V H1 V1 p0 g0 h' v' F' d' p' g' → (∀ j, j < n → rk j < r + 1 → ¬ d' j = 0) → J (nI (r + 1)) (nI n) c K A B C h' v' F' T d' p' g') : ∃ f, wY_commit_33 post J (nI r) f 0 (nI n) c K A B C h v F T d p g := by
  refine loop_0 (σ := (Nat → Int32) × (Nat → Int32) × (Nat → Int32) × (Nat → Int32) × (Nat → Int32) × (Nat → Int32)) (fun f i s => wY_commit_33 post J (nI r) f (nI i) (nI n) c K A B C (s.1) (s.2.1) (s.2.2.1) T (s.2.2.2.1) (s.2.2.2.2.1) (s.2.2.2.2.2)) (fun i s => sg_IY n K H V H1 V1 p0 g0 s.1 s.2.1 s.2.2.1 s.2.2.2.1 s.2.2.2.2.1 s.2.2.2.2.2 ∧ (∀ j, ¬ d j = 0 → ¬ s.2.2.2.1 j = 0) ∧ (∀ j, j < i → rk j < r + 1 → ¬ s.2.2.2.1 j = 0)) n (h, v, F, d, p, g) ⟨hI, fun _ z => z, fun j hj => absurd hj (by omega)⟩ ?_ ?_
  · rintro f ⟨h1, v1, F1, d1, p1, g1⟩ ⟨a, b, q⟩
    exact br_t (nI_le (Nat.le_refl n) (by omega)) (nm_r (nI_1 r) (hJ h1 v1 F1 d1 p1 g1 a q))
  · rintro f i ⟨h1, v1, F1, d1, p1, g1⟩ hi ⟨a, b, q⟩ ih
    dsimp only at a b q ⊢
    have hin : vp_in (nI i) 24 := vp_in_nI (by omega) (by omega)
    have hcl : (nI i).toNatClampNeg = i := nI_clamp (by omega)
    refine br_f (nI_ge hi (by omega)) (sg_yReady hn hw hi (fun hready hdi => br_f (by decide) ?_) (fun hno => br_t rfl (nm_r (nI_1 i) (ih (h1, v1, F1, d1, p1, g1) ⟨a, b, ?_⟩))))
    · refine sg_yStep hn hw hi a (hloc i hi) hD (hWU i hi) (hS8 i hi) (hT12 i hi) (hH1c i hi) hready hdi ?_
      intro h' v' F' p' g' hI'
      refine ⟨hin, ?_⟩
      rw [hcl, sg_vb1]
      refine nm_e (nm_r (nI_1 i) (ih (h', v', F', upd d1 i 1, p', g') ⟨hI', ?_, ?_⟩))
      · intro j hj
        dsimp only
        by_cases e : j = i
        · subst e; rw [pk_us]; decide
        · rw [pk_un e]; exact b j hj
      · intro j hj hrj
        dsimp only
        by_cases e : j = i
        · subst e; rw [pk_us]; decide
        · rw [pk_un e]; exact q j (by omega) hrj
    · intro j hj hrj hz
      dsimp only at hz
      by_cases e : j = i
      · subst e
        refine hno ⟨fun m hm => ?_, hz⟩
        have := hrk j m hm
        exact b m (hr m (sg_P_lt hn hw hm) (by omega))
      · exact q j (by omega) hrj hz
theorem sg_y143 {post : Int32 → SY → Prop} {x1 : Int32} (hn : n ≤ 24) (hw : sg_wf n K A B C) (hh : ∀ j, h j = 0 ∨ h j = 1) (hp : post x1 (nI n, c + 1, K, A, B, C, h, v, F, T, d, sg_pw (sg_pW K A h p) p n, sg_pw (sg_pU K A v g) g n)) : ∃ f, wY_commit_143 post x1 (nI n) c f 0 K A B C h v F T d p g := by
  refine loop_0 (σ := (Nat → Int32) × (Nat → Int32)) (fun f i s => wY_commit_143 post x1 (nI n) c f (nI i) K A B C h v F T d (s.1) (s.2)) (fun i s => s.1 = sg_pw (sg_pW K A h p) p i ∧ s.2 = sg_pw (sg_pU K A v g) g i) n (p, g) ⟨sg_pw_0, sg_pw_0⟩ ?_ ?_
  · rintro f ⟨p1, g1⟩ ⟨e1, e2⟩
    dsimp only at e1 e2 ⊢
    subst e1 e2
    exact br_t (nI_le (Nat.le_refl n) (by omega)) (nm_e hp)
  · rintro f i ⟨p1, g1⟩ hi ⟨e1, e2⟩ ih
    dsimp only at e1 e2 ⊢
    have hin : vp_in (nI i) 24 := vp_in_nI (by omega) (by omega)
    have hcl : (nI i).toNatClampNeg = i := nI_clamp (by omega)
    refine br_f (nI_ge hi (by omega)) ⟨hin, ?_⟩
    rw [hcl]
    have kU : K i ≠ 11 → g1 = sg_pw (sg_pU K A v g) g (i + 1) := by
      intro y
      rw [e2]
      refine sg_pw_n ?_
      unfold sg_pU
      rw [if_neg y]
    refine br_c (fun z0 => ⟨hin, nm_e ?_⟩) (fun n0 => ?_)
    · unfold wY_commit_167
      rw [hcl]
      refine ⟨hin, br_f (by rw [z0]; decide) (nm_r (nI_1 i) (ih (upd p1 i (vp_nar .boolean 0), g1) ⟨?_, kU (by rw [z0]; decide)⟩))⟩
      dsimp only
      rw [e1, sg_vb0]
      refine sg_pw_s ?_
      unfold sg_pW
      rw [if_pos z0]
    · unfold wY_commit_167
      rw [hcl]
      refine ⟨hin, br_c (fun z11 => ?_) (fun n11 => nm_r (nI_1 i) (ih (p1, g1) ⟨?_, kU n11⟩))⟩
      · have hE := sg_E_in (sg_fD hw hi z11) hn
        refine ⟨hin, hE, hin, nm_e ⟨hin, hE, hin, nm_e (nm_r (nI_1 i) (ih (upd p1 i (vp_nar .boolean (h (A i).toNatClampNeg)), upd g1 i (v (A i).toNatClampNeg)) ⟨?_, ?_⟩))⟩⟩
        · dsimp only
          rw [e1, sg_vb (hh _)]
          refine sg_pw_s ?_
          unfold sg_pW
          rw [if_neg n0, if_pos z11]
        · dsimp only
          rw [e2]
          refine sg_pw_s ?_
          unfold sg_pU
          rw [if_pos z11]
      · dsimp only
        rw [e1]
        refine sg_pw_n ?_
        unfold sg_pW
        rw [if_neg n0, if_neg n11]
theorem sg_y77 {post : Int32 → SY → Prop} (hn : n ≤ 24) (hw : sg_wf n K A B C) (hh : ∀ j, h j = 0 ∨ h j = 1) (hc0 : ∀ j, j < n → sg_ce (K j) → h j = 0)
    (hp : ∀ v', v' = sg_pw (sg_VV K v F) v n → post (nI (sg_ct (sg_nz h) n)) (nI n, c + 1, K, A, B, C, h, v', F, sg_pw (sg_pT h T) T n, d, sg_pw (sg_pW K A h p) p n, sg_pw (sg_pU K A v' g) g n)) : ∃ f, wY_commit_77 post (nI n) c f 0 0 K A B C h v F T d p g := by
  refine loop_0 (σ := (Nat → Int32) × (Nat → Int32)) (fun f i s => wY_commit_77 post (nI n) c f (nI (sg_ct (sg_nz h) i)) (nI i) K A B C h (s.1) F (s.2) d p g) (fun i s => s.1 = sg_pw (sg_VV K v F) v i ∧ s.2 = sg_pw (sg_pT h T) T i) n (v, T) ⟨sg_pw_0, sg_pw_0⟩ ?_ ?_
  · rintro f ⟨v1, T1⟩ ⟨e1, e2⟩
    dsimp only at e1 e2 ⊢
    subst e2
    exact br_t (nI_le (Nat.le_refl n) (by omega)) (sg_y143 hn hw hh (hp v1 e1))
  · rintro f i ⟨v1, T1⟩ hi ⟨e1, e2⟩ ih
    dsimp only at e1 e2 ⊢
    have hin : vp_in (nI i) 24 := vp_in_nI (by omega) (by omega)
    have hcl : (nI i).toNatClampNeg = i := nI_clamp (by omega)
    refine br_f (nI_ge hi (by omega)) ⟨hin, ?_⟩
    rw [hcl]
    refine sg_yCk (fun hc => br_f (by decide) ⟨hin, hin, nm_e ?_⟩) (fun hc => br_t rfl ⟨hin, br_c (fun z => ?_) (fun z => ?_)⟩)
    · have z := hc0 i hi hc
      rw [sg_nz_0 z]
      refine nm_r (nI_1 i) (ih (upd v1 i (F i), T1) ⟨?_, ?_⟩)
      · dsimp only
        rw [e1]
        exact sg_pw_s (sg_VV_c hc).symm
      · dsimp only
        rw [e2]
        refine sg_pw_n ?_
        unfold sg_pT
        rw [if_pos z]
    · rw [sg_nz_0 z]
      refine nm_r (nI_1 i) (ih (v1, T1) ⟨?_, ?_⟩)
      · dsimp only
        rw [e1]
        exact sg_pw_n (sg_VV_e hc)
      · dsimp only
        rw [e2]
        refine sg_pw_n ?_
        unfold sg_pT
        rw [if_pos z]
    · refine nm_r (nI_1 _) ⟨hin, hin, nm_e ?_⟩
      rw [sg_nz_1 z]
      refine nm_r (nI_1 i) (ih (v1, upd T1 i (T1 i + 1)) ⟨?_, ?_⟩)
      · dsimp only
        rw [e1]
        exact sg_pw_n (sg_VV_e hc)
      · dsimp only
        rw [e2, sg_pw_i]
        refine sg_pw_s ?_
        unfold sg_pT
        rw [if_neg z]
/-- the reference's transaction -/
theorem sg_yCommit {post : Int32 → SY → Prop} {H1 V1 : Nat → Int32} (hn : n ≤ 24) (hw : sg_wf n K A B C) (hac : sg_ac n K A B C)
    (hloc : ∀ j, j < n → sg_Loc n K A B C H1 V1 D W T U S j) (hD : ∀ m, m < n → D m = V m)
    (hWU : ∀ j, j < n → (K j = 0 ∨ K j = 11) → p j = W j ∧ g j = U j) (hS8 : ∀ j, j < n → K j = 8 → g j = S j) (hT12 : ∀ j, j < n → K j = 12 → (p j = 0 ↔ T j = 0))
    (hH : ∀ j, H j = 0 ∨ H j = 1) (hpb : ∀ j, p j = 0 ∨ p j = 1) (hHc : ∀ j, j < n → sg_ce (K j) → H j = 0)
    (hH1c : ∀ j, j < n → sg_ce (K j) → H1 j = 0) (hout : ∀ j, n ≤ j → H1 j = H j ∧ V1 j = V j)
    (hp : ∀ F' d' p' g', (∀ j, p' j = 0 ∨ p' j = 1) → (∀ j, p' j = if j < n ∧ K j = 12 ∧ ¬ H1 j = 0 then 1 else p j) → (∀ j, g' j = if j < n ∧ K j = 8 ∧ ¬ H1 j = 0 then V1 j else g j) →
      post (nI (sg_ct (sg_nz H1) n)) (nI n, c + 1, K, A, B, C, H1, V1, F', sg_pw (sg_pT H1 T) T n, d', sg_pw (sg_pW K A H1 p') p' n, sg_pw (sg_pU K A V1 g') g' n)) : wpY_commit post (nI n, c, K, A, B, C, H, V, F, T, d, p, g) := by
  obtain ⟨rk, hb, hrk⟩ := sg_ac_b hn hw hac
  unfold wpY_commit
  dsimp only
  refine loop_0 (fun f i s => wY_commit_2 post (nI n) c f (nI i) K A B C H V F T s p g) (fun i s => s = sg_pw (fun _ => 0) d i) n d sg_pw_0 ?_ ?_
  · rintro f d0 ed0
    refine br_t (nI_le (Nat.le_refl n) (by omega)) ?_
    have hz : ∀ j, j < n → d0 j = 0 := by
      intro j hj
      rw [ed0, sg_pw_lt hj]
    refine loop_0 (σ := (Nat → Int32) × (Nat → Int32) × (Nat → Int32) × (Nat → Int32) × (Nat → Int32) × (Nat → Int32)) (fun f r s => wY_commit_25 post f (nI r) (nI n) c K A B C (s.1) (s.2.1) (s.2.2.1) T (s.2.2.2.1) (s.2.2.2.2.1) (s.2.2.2.2.2)) (fun r s => sg_IY n K H V H1 V1 p g s.1 s.2.1 s.2.2.1 s.2.2.2.1 s.2.2.2.2.1 s.2.2.2.2.2 ∧ (∀ j, j < n → rk j < r → ¬ s.2.2.2.1 j = 0)) 24 (H, V, F, d0, p, g) ⟨?_, fun j _ hj => absurd hj (by omega)⟩ ?_ ?_
    · refine ⟨hH, hpb, fun j hj hc => ⟨rfl, hHc j hj hc⟩, fun j hj z => absurd (hz j hj) z, fun j hj z => absurd (hz j hj) z, fun _ _ => ⟨rfl, rfl⟩, fun j => ?_, fun j => ?_⟩
      · dsimp only
        rw [if_neg (fun z => z.2.2.1 (hz j z.1))]
      · dsimp only
        rw [if_neg (fun z => z.2.2.1 (hz j z.1))]
    · rintro f ⟨h1, v1, F1, d1, p1, g1⟩ ⟨⟨a1, a2, a3, a4, a5, a6, a7, a8⟩, q⟩
      dsimp only at a1 a2 a3 a4 a5 a6 a7 a8 q ⊢
      have hdone : ∀ j, j < n → ¬ d1 j = 0 := fun j hj => q j hj (by have := hb j hj; omega)
      have eh : h1 = H1 := by
        funext j
        by_cases hj : j < n
        · by_cases hc : sg_ce (K j)
          · rw [(a3 j hj hc).2, hH1c j hj hc]
          · exact (a4 j hj (hdone j hj) hc).1
        · rw [(a6 j (by omega)).1, (hout j (by omega)).1]
      have evv : sg_pw (sg_VV K v1 F1) v1 n = V1 := by
        funext j
        by_cases hj : j < n
        · rw [sg_pw_lt hj]
          by_cases hc : sg_ce (K j)
          · rw [sg_VV_c hc]; exact a5 j hj (hdone j hj) hc
          · rw [sg_VV_e hc]; exact (a4 j hj (hdone j hj) hc).2
        · rw [sg_pw_ge (by omega), (a6 j (by omega)).2, (hout j (by omega)).2]
      subst eh
      refine br_t (nI_le (a := 24) (b := 24) (by omega) (by omega)) (sg_y77 hn hw a1 (fun j hj hc => (a3 j hj hc).2) ?_)
      intro v' ev'
      rw [evv] at ev'
      subst ev'
      refine hp F1 d1 p1 g1 a2 (fun j => ?_) (fun j => ?_)
      · rw [a7 j]
        by_cases z : j < n ∧ K j = 12 ∧ ¬ h1 j = 0
        · rw [if_pos z, if_pos ⟨z.1, z.2.1, hdone j z.1, z.2.2⟩]
        · rw [if_neg z, if_neg (fun y => z ⟨y.1, y.2.1, y.2.2.2⟩)]
      · rw [a8 j]
        by_cases z : j < n ∧ K j = 8 ∧ ¬ h1 j = 0
        · rw [if_pos z, if_pos ⟨z.1, z.2.1, hdone j z.1, z.2.2⟩]
        · rw [if_neg z, if_neg (fun y => z ⟨y.1, y.2.1, y.2.2.2⟩)]
    · rintro f r ⟨h1, v1, F1, d1, p1, g1⟩ hr ⟨a, q⟩ ih
      dsimp only at a q ⊢
      refine br_f (nI_ge (b := 24) hr (by omega)) (sg_y33 hn hw hrk hloc hD hWU hS8 hT12 hH1c a q ?_)
      intro h' v' F' d' p' g' hI' hq'
      exact ih (h', v', F', d', p', g') ⟨hI', hq'⟩
  · rintro f i s hi e ih
    have hin : vp_in (nI i) 24 := vp_in_nI (by omega) (by omega)
    have hcl : (nI i).toNatClampNeg = i := nI_clamp (by omega)
    refine br_f (nI_ge hi (by omega)) ⟨hin, ?_⟩
    rw [hcl, sg_vb0]
    refine nm_e (nm_r (nI_1 i) (ih _ ?_))
    rw [e]
    exact sg_pw_s rfl
end
theorem i_vc_commit {k : Nat} {u : SX} {v : SY} (I : i_Rel k u v) (hk : k + 5 ≤ 2560) : wpX_commit (fun r u' => wpY_commit (fun r' v' => r' = r ∧ i_Rel (k + 5) u' v') v) u := by
  obtain ⟨n, o, l, c, K, A, B, C, H, V, D, T, W, U, S, O, F, d, p, g, rfl, rfl, hn, hw, hac, ⟨s1, s2, s3, s4, s5, s6, s7, s8, s9⟩, ht⟩ := I
  refine sg_xCommit hn hw hac ht s1 s2 s4 ?_
  intro H1 V1 O1 hO1 b1 b2 b3 hloc
  refine sg_yCommit (D := sg_pw V D n) (W := W) (U := U) (S := S) hn hw hac hloc (fun m hm => sg_pw_lt hm) s5 s6 s7 s1 s3 s4 b2 b3 ?_
  intro F' d' p' g' q1 q2 q3
  refine ⟨rfl, n, 0, l, c + 1, K, A, B, C, H1, V1, sg_pw V D n, _, _, _, _, O1, F', d', _, _, rfl, rfl, hn, hw, hac, ⟨b1, ?_, ?_, b2, ?_, ?_, ?_, ?_, ?_⟩, fun _ => hO1⟩
  · intro j
    by_cases hj : j < n
    · rw [sg_pw_lt hj]
      unfold sg_pW
      exact sg_i01 (Or.inl rfl) (sg_i01 (b1 _) (s2 j))
    · rw [sg_pw_ge (by omega)]; exact s2 j
  · intro j
    by_cases hj : j < n
    · rw [sg_pw_lt hj]
      unfold sg_pW
      exact sg_i01 (Or.inl rfl) (sg_i01 (b1 _) (q1 j))
    · rw [sg_pw_ge (by omega)]; exact q1 j
  · intro j hj hkj
    have hp' : p' j = p j := by
      rw [q2 j, if_neg]
      rintro ⟨_, e, _⟩
      rcases hkj with z | z <;> exact absurd (e.symm.trans z) (by decide)
    have hg' : g' j = g j := by
      rw [q3 j, if_neg]
      rintro ⟨_, e, _⟩
      rcases hkj with z | z <;> exact absurd (e.symm.trans z) (by decide)
    rw [sg_pw_lt hj, sg_pw_lt hj, sg_pw_lt hj, sg_pw_lt hj]
    unfold sg_pW sg_pU
    rw [hp', hg', (s5 j hj hkj).1, (s5 j hj hkj).2]
    exact ⟨rfl, rfl⟩
  · intro j hj hkj
    rw [sg_pw_lt hj, sg_pw_lt hj]
    unfold sg_pU sg_pS
    rw [if_neg (by rw [hkj]; decide), if_pos hkj, q3 j]
    by_cases z : H1 j = 0
    · rw [if_pos z, if_neg (fun y => y.2.2 z)]
      exact s6 j hj hkj
    · rw [if_neg z, if_pos ⟨hj, hkj, z⟩]
  · intro j hj hkj
    rw [sg_pw_lt hj, sg_pw_lt hj]
    unfold sg_pW sg_pT
    rw [if_neg (by rw [hkj]; decide), if_neg (by rw [hkj]; decide), q2 j]
    by_cases z : H1 j = 0
    · rw [if_pos z, if_neg (fun y => y.2.2 z)]
      exact s7 j hj hkj
    · rw [if_neg z, if_pos ⟨hj, hkj, z⟩]
      obtain ⟨t, ht1, ht2⟩ := s8 j
      rw [ht2, nI_1]
      constructor
      · intro e
        exact absurd e (by decide)
      · intro e
        exact absurd e (nI_ne0 (by omega) (by omega))
  · intro j
    obtain ⟨t, ht1, ht2⟩ := s8 j
    by_cases hj : j < n
    · rw [sg_pw_lt hj]
      unfold sg_pT
      by_cases z : H1 j = 0
      · rw [if_pos z]; exact ⟨t, by omega, ht2⟩
      · rw [if_neg z, ht2, nI_1]; exact ⟨t + 1, by omega, rfl⟩
    · rw [sg_pw_ge (by omega)]; exact ⟨t, by omega, ht2⟩
  · intro j hj hd
    have h2 := (hloc j hj).2
    unfold sg_v at h2
    have n4 : K j ≠ 4 := by
      intro e
      rw [e] at hd
      rcases hd with z | z | z <;> exact absurd z (by decide)
    rw [if_neg n4] at h2
    rcases hd with e | e | e <;> simp (decide := true) only [e, if_true, if_false] at h2 <;> exact h2
