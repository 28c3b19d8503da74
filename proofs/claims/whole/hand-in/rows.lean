section
/-! pasted rows of kit/rows -/
theorem pk_us {f : Nat → Int32} {k : Nat} {x : Int32} : upd f k x k = x := if_pos rfl
theorem pk_un {f : Nat → Int32} {k j : Nat} {x : Int32} (h : j ≠ k) : upd f k x j = f j := if_neg h
theorem pk_sub {a b : Nat} (h : b ≤ a) : nI a - nI b = nI (a - b) := by
  obtain ⟨c, rfl⟩ : ∃ c, a = c + b := ⟨a - b, by omega⟩
  rw [← nI_add, Int32.add_sub_cancel, Nat.add_sub_cancel]
theorem pk_mul (a b : Nat) : nI a * nI b = nI (a * b) := (Int32.ofNat_mul a b).symm
theorem pk_div {a d : Nat} (ha : a < 2 ^ 31) (h0 : 0 < d) (hd : d < 2 ^ 31) : nI a / nI d = nI (a / d) := by
  apply Int32.toInt_inj.mp
  rw [lg_idiv_nonneg (by rw [nI_toInt ha]; omega) (by rw [nI_toInt hd]; omega), nI_toInt ha, nI_toInt hd, nI_toInt (Nat.lt_of_le_of_lt (Nat.div_le_self a d) ha)]
  first | rfl | exact (Int.natCast_ediv _ _).symm
theorem pk_rem {a d : Nat} (ha : a < 2 ^ 31) (h0 : 0 < d) (hd : d < 2 ^ 31) : nI a - nI a / nI d * nI d = nI (a % d) := by
  rw [pk_div ha h0 hd, pk_mul, pk_sub (Nat.div_mul_le_self a d)]
  exact congrArg nI (by have := Nat.div_add_mod' a d; omega)
theorem pk_ix (x : Int32) {n : Nat} (hn : n < 2 ^ 31) : x < 0 ∨ nI n ≤ x ∨ ∃ j : Nat, j < n ∧ x = nI j := by
  by_cases h : x < 0
  · exact Or.inl h
  · obtain ⟨j, hj, rfl⟩ := nI_of h
    by_cases h2 : j < n
    · exact Or.inr (Or.inr ⟨j, h2, rfl⟩)
    · exact Or.inr (Or.inl (nI_le (by omega) hj))
theorem pk_le {x y : Int32} {A B : Prop} (a b : Nat) (f : a ≤ b → A) (g : b < a → B) (hx : x = nI a := by rfl) (hy : y = nI b := by rfl) (ha : a < 2 ^ 31 := by omega) (hb : b < 2 ^ 31 := by omega) : (x ≤ y → A) ∧ (¬ x ≤ y → B) := by
  subst hx hy
  rw [nI_leI ha hb]
  exact ⟨f, fun z => g (by omega)⟩
theorem pk_lt {x y : Int32} {A B : Prop} (a b : Nat) (f : a < b → A) (g : b ≤ a → B) (hx : x = nI a := by rfl) (hy : y = nI b := by rfl) (ha : a < 2 ^ 31 := by omega) (hb : b < 2 ^ 31 := by omega) : (x < y → A) ∧ (¬ x < y → B) := by
  subst hx hy
  rw [nI_ltI ha hb]
  exact ⟨f, fun z => g (by omega)⟩
theorem pk_eq {x y : Int32} {A B : Prop} (a b : Nat) (f : a = b → A) (g : a ≠ b → B) (hx : x = nI a := by rfl) (hy : y = nI b := by rfl) (ha : a < 2 ^ 31 := by omega) (hb : b < 2 ^ 31 := by omega) : (x = y → A) ∧ (¬ x = y → B) := by
  subst hx hy
  rw [nI_eq ha hb]
  exact ⟨f, g⟩
theorem pk_in {x : Int32} (n N : Nat) (h : n < N) (hx : x = nI n := by rfl) (hN : N < 2 ^ 31 := by omega) : vp_in x N := by
  subst hx
  exact vp_in_nI h hN
theorem pk_cl {x : Int32} (n : Nat) (hx : x = nI n := by rfl) (h : n < 2 ^ 31 := by omega) : x.toNatClampNeg = n := by
  subst hx
  exact nI_clamp h
def bt (x : Int32) (i : Nat) : Bool := x.toBitVec.getLsbD i
theorem b_ext {x y : Int32} (h : ∀ i, i < 32 → bt x i = bt y i) : x = y := Int32.toBitVec_inj.mp (BitVec.eq_of_getLsbD_eq (fun i hi => h i hi))
theorem b_or (x y : Int32) (i : Nat) : bt (x ||| y) i = (bt x i || bt y i) := by unfold bt; rw [Int32.toBitVec_or, BitVec.getLsbD_or]
theorem b_and (x y : Int32) (i : Nat) : bt (x &&& y) i = (bt x i && bt y i) := by unfold bt; rw [Int32.toBitVec_and, BitVec.getLsbD_and]
theorem b_xor (x y : Int32) (i : Nat) : bt (x ^^^ y) i = (bt x i ^^ bt y i) := by unfold bt; rw [Int32.toBitVec_xor, BitVec.getLsbD_xor]
theorem b_big {x : Int32} {i : Nat} (h : 32 ≤ i) : bt x i = false := BitVec.getLsbD_of_ge _ _ h
theorem b_m1 : ∀ i, i < 32 → bt (-1) i = true := by decide +kernel
theorem b_0 (i : Nat) : bt 0 i = false := BitVec.getLsbD_zero
theorem s_l : ∀ n, n < 32 → ((nI n &&& 31).toBitVec.smod 32).toNat = n := by decide +kernel
theorem b_shl (n : Nat) (hn : n < 32) (x : Int32) {i : Nat} (hi : i < 32) : bt (x <<< (nI n &&& 31)) i = (decide (n ≤ i) && bt x (i - n)) := by
  unfold bt
  rw [Int32.toBitVec_shiftLeft]
  show (x.toBitVec <<< ((nI n &&& 31).toBitVec.smod 32).toNat).getLsbD i = _
  rw [s_l n hn, BitVec.getLsbD_shiftLeft]
  rcases Nat.lt_or_ge i n with h | h
  · simp [h, Nat.not_le.mpr h]
  · simp [hi, h, Nat.not_lt.mpr h]
theorem b_sshr (n : Nat) (hn : n < 32) (x : Int32) {i : Nat} (hi : i < 32) : bt (x >>> (nI n &&& 31)) i = if n + i < 32 then bt x (n + i) else bt x 31 := by
  unfold bt
  rw [Int32.toBitVec_shiftRight]
  show (x.toBitVec.sshiftRight ((nI n &&& 31).toBitVec.smod 32).toNat).getLsbD i = _
  rw [s_l n hn, BitVec.getLsbD_sshiftRight, BitVec.msb_eq_getLsbD_last]
  simp [hi]
/-! bits of this claim -/
theorem sg_b1a : ∀ m, m < 32 → ∀ i, i < 32 → bt ((1 : Int32) <<< (nI m &&& 31)) i = decide (i = m) := by decide +kernel
theorem sg_b1 {m : Nat} (hm : m < 32) (i : Nat) : bt ((1 : Int32) <<< (nI m &&& 31)) i = decide (i = m) := by
  rcases Nat.lt_or_ge i 32 with h | h
  · exact sg_b1a m hm i h
  · rw [b_big h, decide_eq_false (by omega)]
theorem sg_one : ∀ i, i < 32 → bt 1 i = decide (i = 0) := by decide +kernel
theorem sg_shb (x : Int32) {m : Nat} (hm : m < 32) {i : Nat} (hi : i < 32) : bt ((x >>> (nI m &&& 31)) &&& 1) i = (decide (i = 0) && bt x m) := by
  rw [b_and, b_sshr m hm x hi, sg_one i hi]
  by_cases h : i = 0
  · subst h
    simp [hm]
  · simp [h]
theorem sg_sh0 (x : Int32) {m : Nat} (hm : m < 32) : ((x >>> (nI m &&& 31)) &&& 1) = 0 ↔ ¬ bt x m = true := by
  constructor
  · intro h e
    have h2 := sg_shb x hm (i := 0) (by omega)
    rw [h, b_0, e] at h2
    exact absurd h2 (by decide)
  · intro h
    apply b_ext
    intro i hi
    rw [sg_shb x hm hi, b_0]
    simp [h]
theorem sg_sh1 (x : Int32) {m : Nat} (hm : m < 32) : ((x >>> (nI m &&& 31)) &&& 1) = 1 ↔ bt x m = true := by
  constructor
  · intro h
    have h2 := sg_shb x hm (i := 0) (by omega)
    rw [h, sg_one 0 (by omega)] at h2
    simpa using h2.symm
  · intro h
    apply b_ext
    intro i hi
    rw [sg_shb x hm hi, sg_one i hi, h, Bool.and_true]
theorem sg_an0 (x : Int32) {m : Nat} (hm : m < 32) : (x &&& ((1 : Int32) <<< (nI m &&& 31))) = 0 ↔ ¬ bt x m = true := by
  constructor
  · intro h e
    have h2 := b_and x ((1 : Int32) <<< (nI m &&& 31)) m
    rw [h, b_0, e, sg_b1 hm] at h2
    simp at h2
  · intro h
    apply b_ext
    intro i hi
    rw [b_and, b_0, sg_b1 hm]
    by_cases e : i = m
    · subst e; simp [h]
    · simp [e]
theorem sg_dn0 (r x : Int32) : (r &&& (x ^^^ (-1))) = 0 ↔ ∀ i, i < 32 → bt r i = true → bt x i = true := by
  constructor
  · intro h i hi e
    have h2 := b_and r (x ^^^ (-1)) i
    rw [h, b_0, e, b_xor, b_m1 i hi] at h2
    simpa using h2.symm
  · intro h
    apply b_ext
    intro i hi
    rw [b_and, b_0, b_xor, b_m1 i hi]
    cases e : bt r i
    · rfl
    · rw [h i hi e]; rfl
theorem sg_or1 (x : Int32) {m : Nat} (hm : m < 32) (i : Nat) : bt (x ||| ((1 : Int32) <<< (nI m &&& 31))) i = true ↔ bt x i = true ∨ i = m := by
  rw [b_or, sg_b1 hm]
  simp
/-! counting -/
def sg_ct (P : Nat → Bool) : Nat → Nat
  | 0 => 0
  | n + 1 => sg_ct P n + (if P n = true then 1 else 0)
theorem sg_ct_le (P : Nat → Bool) : ∀ n, sg_ct P n ≤ n
  | 0 => Nat.le_refl 0
  | n + 1 => by
    have := sg_ct_le P n
    show sg_ct P n + (if P n = true then 1 else 0) ≤ n + 1
    split <;> omega
theorem sg_ct_miss (P : Nat → Bool) : ∀ n k, k < n → P k = false → sg_ct P n < n
  | 0, _, h, _ => absurd h (by omega)
  | n + 1, k, h, e => by
    show sg_ct P n + (if P n = true then 1 else 0) < n + 1
    by_cases hk : k = n
    · subst hk
      have := sg_ct_le P k
      rw [e]
      simp
      omega
    · have := sg_ct_miss P n k (by omega) e
      split <;> omega
theorem sg_ct_full {P : Nat → Bool} {n : Nat} (h : n ≤ sg_ct P n) {j : Nat} (hj : j < n) : P j = true := by
  cases e : P j
  · have := sg_ct_miss P n j hj e
    omega
  · rfl
theorem sg_ct_mono {P Q : Nat → Bool} : ∀ n, (∀ j, j < n → P j = true → Q j = true) → sg_ct P n ≤ sg_ct Q n
  | 0, _ => Nat.le_refl 0
  | n + 1, h => by
    have := sg_ct_mono n (fun j hj => h j (by omega))
    show sg_ct P n + (if P n = true then 1 else 0) ≤ sg_ct Q n + (if Q n = true then 1 else 0)
    by_cases e : P n = true
    · rw [if_pos e, if_pos (h n (by omega) e)]; omega
    · rw [if_neg e]; omega
theorem sg_ct_lt {P Q : Nat → Bool} {k : Nat} (hP : P k = false) (hQ : Q k = true) : ∀ n, k < n → (∀ j, j < n → P j = true → Q j = true) → sg_ct P n < sg_ct Q n
  | 0, hk, _ => absurd hk (by omega)
  | n + 1, hk, h => by
    show sg_ct P n + (if P n = true then 1 else 0) < sg_ct Q n + (if Q n = true then 1 else 0)
    by_cases e : k = n
    · subst e
      have := sg_ct_mono k (fun j hj => h j (by omega))
      rw [hP, hQ]
      simp
      omega
    · have := sg_ct_lt hP hQ n (by omega) (fun j hj => h j (by omega))
      by_cases e : P n = true
      · rw [if_pos e, if_pos (h n (by omega) e)]; omega
      · rw [if_neg e]; omega
theorem sg_ct_same {P Q : Nat → Bool} : ∀ n, (∀ j, j < n → Q j = P j) → sg_ct Q n = sg_ct P n
  | 0, _ => rfl
  | n + 1, h => by
    show sg_ct Q n + (if Q n = true then 1 else 0) = sg_ct P n + (if P n = true then 1 else 0)
    rw [sg_ct_same n (fun j hj => h j (by omega)), h n (by omega)]
theorem sg_ct_add {P Q : Nat → Bool} {k : Nat} (hP : P k = false) (hQ : Q k = true) : ∀ n, k < n → (∀ j, j ≠ k → Q j = P j) → sg_ct Q n = sg_ct P n + 1
  | 0, hk, _ => absurd hk (by omega)
  | n + 1, hk, h => by
    show sg_ct Q n + (if Q n = true then 1 else 0) = sg_ct P n + (if P n = true then 1 else 0) + 1
    by_cases e : k = n
    · subst e
      rw [sg_ct_same k (fun j hj => h j (by omega)), hP, hQ]
      simp
    · rw [sg_ct_add hP hQ n (by omega) h, h n (fun z => e z.symm)]
      omega
theorem sg_rank (rk : Nat → Nat) (n : Nat) : ∃ r : Nat → Nat, (∀ j, j < n → r j < n) ∧ ∀ i j, i < n → j < n → rk i < rk j → r i < r j := by
  refine ⟨fun j => sg_ct (fun i => decide (rk i < rk j)) n, fun j hj => sg_ct_miss _ n j hj (by simp), fun i j hi hj h => ?_⟩
  refine sg_ct_lt (k := i) (by simp) (by simpa using h) n hi ?_
  intro m _ hm
  simp at hm ⊢
  omega
/-! numbers -/
theorem sg_ne1 {a : Nat} (h : a < 2 ^ 31) : ¬ nI a = -1 := by
  intro e
  have := nI_pos (n := a) h
  rw [e] at this
  exact this (by decide)
theorem sg_vb0 : vp_nar .boolean 0 = 0 := by decide
theorem sg_vb1 : vp_nar .boolean 1 = 1 := by decide
theorem sg_vb {x : Int32} (h : x = 0 ∨ x = 1) : vp_nar .boolean x = x := by
  rcases h with h | h <;> rw [h] <;> decide
theorem sg_nb {x : Int32} (h : x = 0 ∨ x = 1) : narrow .boolean (.int x) = .int x := by
  rcases h with h | h <;> rw [h] <;> rfl
theorem sg_kinds {q : Int32} (h0 : ¬ q < 0) (h14 : ¬ 14 < q) : q = 0 ∨ q = 1 ∨ q = 2 ∨ q = 3 ∨ q = 4 ∨ q = 5 ∨ q = 6 ∨ q = 7 ∨ q = 8 ∨ q = 9 ∨ q = 10 ∨ q = 11 ∨ q = 12 ∨ q = 13 ∨ q = 14 := by
  obtain ⟨k, hk, rfl⟩ := nI_of2 (M := 14) (n := 14) (by decide) h0 (Int32.not_lt.mp h14)
  have h : k = 0 ∨ k = 1 ∨ k = 2 ∨ k = 3 ∨ k = 4 ∨ k = 5 ∨ k = 6 ∨ k = 7 ∨ k = 8 ∨ k = 9 ∨ k = 10 ∨ k = 11 ∨ k = 12 ∨ k = 13 ∨ k = 14 := by omega
  rcases h with h | h | h | h | h | h | h | h | h | h | h | h | h | h | h <;> subst h <;> decide
theorem sg_3 {f : Nat → Prop} : (∃ i, i < 3 ∧ f i) ↔ f 0 ∨ f 1 ∨ f 2 := by
  constructor
  · rintro ⟨i, hi, h⟩
    have : i = 0 ∨ i = 1 ∨ i = 2 := by omega
    rcases this with e | e | e <;> subst e
    · exact Or.inl h
    · exact Or.inr (Or.inl h)
    · exact Or.inr (Or.inr h)
  · rintro (h | h | h)
    · exact ⟨0, by omega, h⟩
    · exact ⟨1, by omega, h⟩
    · exact ⟨2, by omega, h⟩
end
section
/-! the graph -/
def sg_ce (k : Int32) : Prop := k = 4 ∨ k = 6 ∨ k = 13 ∨ k = 14
def sg_E (K : Nat → Int32) (b : Nat) (x : Int32) : Prop := ∃ a, a < b ∧ x = nI a ∧ ¬ sg_ce (K a)
def sg_L (K : Nat → Int32) (b : Nat) (x : Int32) : Prop := ∃ a, a < b ∧ x = nI a ∧ sg_ce (K a)
def sg_fit (K : Nat → Int32) (b : Nat) (q x y z : Int32) : Prop :=
  q = 0 ∨ ((q = 1 ∨ q = 2 ∨ q = 8 ∨ q = 11 ∨ q = 12) ∧ sg_E K b x) ∨ (q = 3 ∧ sg_E K b x ∧ sg_E K b y) ∨ (q = 4 ∧ (x = -1 ∨ sg_E K b x)) ∨ ((q = 5 ∨ q = 7) ∧ sg_E K b x ∧ sg_L K b y) ∨ (q = 6 ∧ sg_L K b x ∧ sg_L K b y) ∨ ((q = 9 ∨ q = 14) ∧ sg_L K b x) ∨ (q = 10 ∧ sg_L K b x ∧ sg_E K b y ∧ sg_E K b z) ∨ (q = 13 ∧ sg_L K b x ∧ sg_L K b y ∧ sg_L K b z)
theorem sg_E_le {K : Nat → Int32} {b c : Nat} {x : Int32} (h : sg_E K b x) (hb : b ≤ c) : sg_E K c x := by
  obtain ⟨a, ha, e, z⟩ := h
  exact ⟨a, by omega, e, z⟩
theorem sg_L_le {K : Nat → Int32} {b c : Nat} {x : Int32} (h : sg_L K b x) (hb : b ≤ c) : sg_L K c x := by
  obtain ⟨a, ha, e, z⟩ := h
  exact ⟨a, by omega, e, z⟩
theorem sg_E_cg {K K' : Nat → Int32} {b : Nat} {x : Int32} (hK : ∀ j, j < b → K' j = K j) (h : sg_E K b x) : sg_E K' b x := by
  obtain ⟨a, ha, e, z⟩ := h
  exact ⟨a, ha, e, by rw [hK a ha]; exact z⟩
theorem sg_L_cg {K K' : Nat → Int32} {b : Nat} {x : Int32} (hK : ∀ j, j < b → K' j = K j) (h : sg_L K b x) : sg_L K' b x := by
  obtain ⟨a, ha, e, z⟩ := h
  exact ⟨a, ha, e, by rw [hK a ha]; exact z⟩
theorem sg_fit_map {K K' : Nat → Int32} {b c : Nat} {q x y z : Int32} (hE : ∀ x, sg_E K b x → sg_E K' c x) (hL : ∀ x, sg_L K b x → sg_L K' c x) (h : sg_fit K b q x y z) : sg_fit K' c q x y z := by
  rcases h with h | ⟨h, hx⟩ | ⟨h, hx, hy⟩ | ⟨h, hx⟩ | ⟨h, hx, hy⟩ | ⟨h, hx, hy⟩ | ⟨h, hx⟩ | ⟨h, hx, hy, hz⟩ | ⟨h, hx, hy, hz⟩
  · exact Or.inl h
  · exact Or.inr (Or.inl ⟨h, hE _ hx⟩)
  · exact Or.inr (Or.inr (Or.inl ⟨h, hE _ hx, hE _ hy⟩))
  · exact Or.inr (Or.inr (Or.inr (Or.inl ⟨h, hx.imp id (hE _)⟩)))
  · exact Or.inr (Or.inr (Or.inr (Or.inr (Or.inl ⟨h, hE _ hx, hL _ hy⟩))))
  · exact Or.inr (Or.inr (Or.inr (Or.inr (Or.inr (Or.inl ⟨h, hL _ hx, hL _ hy⟩)))))
  · exact Or.inr (Or.inr (Or.inr (Or.inr (Or.inr (Or.inr (Or.inl ⟨h, hL _ hx⟩))))))
  · exact Or.inr (Or.inr (Or.inr (Or.inr (Or.inr (Or.inr (Or.inr (Or.inl ⟨h, hL _ hx, hE _ hy, hE _ hz⟩)))))))
  · exact Or.inr (Or.inr (Or.inr (Or.inr (Or.inr (Or.inr (Or.inr (Or.inr ⟨h, hL _ hx, hL _ hy, hL _ hz⟩)))))))
theorem sg_fit_le {K : Nat → Int32} {b c : Nat} {q x y z : Int32} (h : sg_fit K b q x y z) (hb : b ≤ c) : sg_fit K c q x y z := sg_fit_map (fun _ h => sg_E_le h hb) (fun _ h => sg_L_le h hb) h
theorem sg_fit_cg {K K' : Nat → Int32} {b : Nat} {q x y z : Int32} (hK : ∀ j, j < b → K' j = K j) (h : sg_fit K b q x y z) : sg_fit K' b q x y z := sg_fit_map (fun _ h => sg_E_cg hK h) (fun _ h => sg_L_cg hK h) h
/-- the fifteen kinds, one by one -/
theorem sg_fit_cases {K : Nat → Int32} {b : Nat} {q x y z : Int32} {G : Prop} (h : sg_fit K b q x y z)
    (c0 : q = 0 → G) (c1 : q = 1 → sg_E K b x → G) (c2 : q = 2 → sg_E K b x → G) (c3 : q = 3 → sg_E K b x → sg_E K b y → G)
    (c4 : q = 4 → x = -1 ∨ sg_E K b x → G) (c5 : q = 5 → sg_E K b x → sg_L K b y → G) (c6 : q = 6 → sg_L K b x → sg_L K b y → G)
    (c7 : q = 7 → sg_E K b x → sg_L K b y → G) (c8 : q = 8 → sg_E K b x → G) (c9 : q = 9 → sg_L K b x → G)
    (c10 : q = 10 → sg_L K b x → sg_E K b y → sg_E K b z → G) (c11 : q = 11 → sg_E K b x → G) (c12 : q = 12 → sg_E K b x → G)
    (c13 : q = 13 → sg_L K b x → sg_L K b y → sg_L K b z → G) (c14 : q = 14 → sg_L K b x → G) : G := by
  rcases h with h | ⟨h | h | h | h | h, hx⟩ | ⟨h, hx, hy⟩ | ⟨h, hx⟩ | ⟨h | h, hx, hy⟩ | ⟨h, hx, hy⟩ | ⟨h | h, hx⟩ | ⟨h, hx, hy, hz⟩ | ⟨h, hx, hy, hz⟩
  · exact c0 h
  · exact c1 h hx
  · exact c2 h hx
  · exact c8 h hx
  · exact c11 h hx
  · exact c12 h hx
  · exact c3 h hx hy
  · exact c4 h hx
  · exact c5 h hx hy
  · exact c7 h hx hy
  · exact c6 h hx hy
  · exact c9 h hx
  · exact c14 h hx
  · exact c10 h hx hy hz
  · exact c13 h hx hy hz
/-- part number i of a node -/
def sg_pt (q x y z : Int32) (i : Nat) : Int32 :=
  if q = 0 then -1 else if q = 11 then -1 else if q = 10 then (if i = 0 then y else if i = 1 then z else -1)
  else if i = 0 then x else if i = 1 then (if q = 3 then y else if q = 6 then y else if q = 13 then y else -1) else if q = 13 then z else -1
theorem sg_pt_r {K : Nat → Int32} {b : Nat} {q x y z : Int32} (h : sg_fit K b q x y z) (i : Nat) : sg_pt q x y z i = -1 ∨ ∃ a, a < b ∧ sg_pt q x y z i = nI a := by
  have hE : ∀ w, sg_E K b w → w = -1 ∨ ∃ a, a < b ∧ w = nI a := fun w ⟨a, ha, e, _⟩ => Or.inr ⟨a, ha, e⟩
  have hL : ∀ w, sg_L K b w → w = -1 ∨ ∃ a, a < b ∧ w = nI a := fun w ⟨a, ha, e, _⟩ => Or.inr ⟨a, ha, e⟩
  have hm : (-1 : Int32) = -1 ∨ ∃ a, a < b ∧ (-1 : Int32) = nI a := Or.inl rfl
  refine sg_fit_cases h ?_ ?_ ?_ ?_ ?_ ?_ ?_ ?_ ?_ ?_ ?_ ?_ ?_ ?_ ?_
  all_goals intro e; subst e; intros; unfold sg_pt; simp (decide := true) only [if_true, if_false]
  all_goals (repeat' split)
  all_goals first | exact hm | exact Or.inl trivial | (first | exact hE _ ‹_› | exact hL _ ‹_›) | skip
  all_goals first | (rename_i hh _; rcases hh with hh | hh; exact Or.inl hh; exact hE _ hh) | skip
def sg_P (n : Nat) (K A B C : Nat → Int32) (j m : Nat) : Prop := j < n ∧ m < 24 ∧ ∃ i, i < 3 ∧ sg_pt (K j) (A j) (B j) (C j) i = nI m
def sg_wf (n : Nat) (K A B C : Nat → Int32) : Prop := ∀ j, j < n → sg_fit K (if K j = 4 then n else j) (K j) (A j) (B j) (C j)
theorem sg_wf_n {n : Nat} {K A B C : Nat → Int32} (h : sg_wf n K A B C) {j : Nat} (hj : j < n) : sg_fit K n (K j) (A j) (B j) (C j) := by
  refine sg_fit_le (h j hj) ?_
  split <;> omega
theorem sg_P_lt {n : Nat} {K A B C : Nat → Int32} (hn : n ≤ 24) (h : sg_wf n K A B C) {j m : Nat} (hp : sg_P n K A B C j m) : m < n := by
  obtain ⟨hj, hm, i, hi, e⟩ := hp
  rcases sg_pt_r (sg_wf_n h hj) i with z | ⟨a, ha, z⟩
  · exact absurd (e.symm.trans z) (sg_ne1 (by omega))
  · rw [e, nI_eq (by omega) (by omega)] at z
    omega
def sg_ac (n : Nat) (K A B C : Nat → Int32) : Prop := ∃ rk : Nat → Nat, ∀ j m, sg_P n K A B C j m → rk m < rk j
theorem sg_ac_b {n : Nat} {K A B C : Nat → Int32} (hn : n ≤ 24) (hw : sg_wf n K A B C) (h : sg_ac n K A B C) : ∃ rk : Nat → Nat, (∀ j, j < n → rk j < n) ∧ ∀ j m, sg_P n K A B C j m → rk m < rk j := by
  obtain ⟨rk, h⟩ := h
  obtain ⟨r, h1, h2⟩ := sg_rank rk n
  exact ⟨r, h1, fun j m hp => h2 m j (sg_P_lt hn hw hp) hp.1 (h j m hp)⟩
/-- m is reached from e in t + 1 steps -/
def sg_pth (n : Nat) (K A B C : Nat → Int32) (e : Nat) : Nat → Nat → Prop
  | 0, m => sg_P n K A B C e m
  | t + 1, m => ∃ q, sg_pth n K A B C e t q ∧ sg_P n K A B C q m
def sg_R (n : Nat) (K A B C : Nat → Int32) (e m : Nat) : Prop := ∃ t, sg_pth n K A B C e t m
theorem sg_R_s {n : Nat} {K A B C : Nat → Int32} {e q m : Nat} (h : sg_R n K A B C e q) (hp : sg_P n K A B C q m) : sg_R n K A B C e m := by
  obtain ⟨t, h⟩ := h
  exact ⟨t + 1, q, h, hp⟩
theorem sg_R_0 {n : Nat} {K A B C : Nat → Int32} {e m : Nat} (hp : sg_P n K A B C e m) : sg_R n K A B C e m := ⟨0, hp⟩
theorem sg_pth_c {n : Nat} {K A B C : Nat → Int32} {j p : Nat} (hp : sg_P n K A B C j p) : ∀ t m, sg_pth n K A B C p t m → sg_pth n K A B C j (t + 1) m
  | 0, m, h => ⟨p, hp, h⟩
  | t + 1, m, ⟨q, hq, h⟩ => ⟨q, sg_pth_c hp t q hq, h⟩
theorem sg_R_c {n : Nat} {K A B C : Nat → Int32} {j p m : Nat} (hp : sg_P n K A B C j p) (h : sg_R n K A B C p m) : sg_R n K A B C j m := by
  obtain ⟨t, h⟩ := h
  exact ⟨t + 1, sg_pth_c hp t m h⟩
theorem sg_pth_rk {n : Nat} {K A B C : Nat → Int32} {rk : Nat → Nat} (hr : ∀ j m, sg_P n K A B C j m → rk m < rk j) {e : Nat} : ∀ t m, sg_pth n K A B C e t m → rk m + t + 1 ≤ rk e
  | 0, m, h => by have := hr e m h; omega
  | t + 1, m, ⟨q, hq, h⟩ => by
    have := sg_pth_rk hr t q hq
    have := hr q m h
    omega
/-- no path is longer than there are nodes -/
theorem sg_R_n {n : Nat} {K A B C : Nat → Int32} (hn : n ≤ 24) (hw : sg_wf n K A B C) (h : sg_ac n K A B C) {e m : Nat} (he : e < n) (hR : sg_R n K A B C e m) : ∃ t, t < n ∧ sg_pth n K A B C e t m := by
  obtain ⟨rk, h1, h2⟩ := sg_ac_b hn hw h
  obtain ⟨t, ht⟩ := hR
  have := sg_pth_rk h2 t m ht
  have := h1 e he
  exact ⟨t, by omega, ht⟩
/-- a new tie of h to e, where e doesn't come to h, keeps it so -/
theorem sg_ac_tie {n : Nat} {K A B C : Nat → Int32} {h e : Nat} {x : Int32} (hk : K h = 4) (hac : sg_ac n K A B C) (hx : x = nI e) (he : e < 24) (hne : e ≠ h) (hR : ¬ sg_R n K A B C e h) : sg_ac n K (upd A h x) B C := by
  obtain ⟨rk, hr⟩ := hac
  have hd : ∀ j, Decidable (j = h ∨ sg_R n K A B C j h) := fun j => Classical.propDecidable _
  refine ⟨fun j => @ite _ (j = h ∨ sg_R n K A B C j h) (hd j) (rk j + rk e + 1) (rk j), ?_⟩
  intro j m hp
  dsimp only
  by_cases ej : j = h
  · subst ej
    obtain ⟨hj, hm, i, hi, z⟩ := hp
    rw [hk] at z
    rw [pk_us] at z
    have hm2 : m = e := by
      unfold sg_pt at z
      simp (decide := true) only [if_true, if_false] at z
      by_cases i0 : i = 0
      · rw [if_pos i0, hx, nI_eq (by omega) (by omega)] at z
        exact z.symm
      · rw [if_neg i0] at z
        by_cases i1 : i = 1
        · rw [if_pos i1] at z
          exact absurd z.symm (sg_ne1 (by omega))
        · rw [if_neg i1] at z
          exact absurd z.symm (sg_ne1 (by omega))
    subst hm2
    rw [if_neg (by intro z; rcases z with z | z; exact hne z; exact hR z), if_pos (Or.inl rfl)]
    omega
  · have hp' : sg_P n K A B C j m := by
      obtain ⟨hj, hm, i, hi, z⟩ := hp
      rw [pk_un ej] at z
      exact ⟨hj, hm, i, hi, z⟩
    have := hr j m hp'
    by_cases z : m = h ∨ sg_R n K A B C m h
    · have z2 : j = h ∨ sg_R n K A B C j h := by
        rcases z with z | z
        · subst z; exact Or.inr (sg_R_0 hp')
        · exact Or.inr (sg_R_c hp' z)
      rw [if_pos z, if_pos z2]
      omega
    · rw [if_neg z]
      split <;> omega
theorem sg_ac_sub {n n' : Nat} {K A B C K' A' B' C' : Nat → Int32} (hac : sg_ac n K A B C) (h : ∀ j m, sg_P n' K' A' B' C' j m → sg_P n K A B C j m) : sg_ac n' K' A' B' C' := by
  obtain ⟨rk, hr⟩ := hac
  exact ⟨rk, fun j m hp => hr j m (h j m hp)⟩
theorem sg_ac_un {n : Nat} {K A B C : Nat → Int32} {h : Nat} (hk : K h = 4) (hac : sg_ac n K A B C) : sg_ac n K (upd A h (-1)) B C := by
  refine sg_ac_sub hac ?_
  rintro j m ⟨hj, hm, i, hi, z⟩
  by_cases ej : j = h
  · subst ej
    rw [hk, pk_us] at z
    unfold sg_pt at z
    simp (decide := true) only [if_true, if_false, ite_self] at z
    exact absurd z.symm (sg_ne1 (by omega))
  · rw [pk_un ej] at z
    exact ⟨hj, hm, i, hi, z⟩
/-! the order -/
def sg_top (n : Nat) (K A B C O : Nat → Int32) : Prop := (∀ j, j < n → ∃ a, a < n ∧ O a = nI j) ∧ (∀ a, a < n → ∃ j, j < n ∧ O a = nI j ∧ ∀ m, sg_P n K A B C j m → ∃ b, b < a ∧ O b = nI m) ∧ (∀ a b, a < n → b < n → O a = O b → a = b)
/-! a transaction's values -/
def sg_dc (K A B C V : Nat → Int32) (j : Nat) : Int32 :=
  if K j = 6 then V (A j).toNatClampNeg + V (B j).toNatClampNeg else if K j = 13 then (if V (A j).toNatClampNeg = 0 then V (C j).toNatClampNeg else V (B j).toNatClampNeg) else V (A j).toNatClampNeg * B j + C j
def sg_dv (k : Int32) : Prop := k = 6 ∨ k = 13 ∨ k = 14
def sg_h (K A B H V Z wt on C : Nat → Int32) (j : Nat) : Int32 :=
  if K j = 0 then wt j else if K j = 11 then wt j
  else if K j = 2 then (if H (A j).toNatClampNeg = 0 then 0 else if V (A j).toNatClampNeg < B j then 0 else 1)
  else if K j = 3 then (if H (A j).toNatClampNeg = 0 then (if H (B j).toNatClampNeg = 0 then 0 else 1) else 1)
  else if K j = 7 then (if H (A j).toNatClampNeg = 0 then 0 else if Z (B j).toNatClampNeg = 0 then 0 else 1)
  else if K j = 9 then (if V (A j).toNatClampNeg = Z (A j).toNatClampNeg then 0 else 1)
  else if K j = 10 then (if Z (A j).toNatClampNeg = 0 then H (C j).toNatClampNeg else H (B j).toNatClampNeg)
  else if K j = 12 then (if H (A j).toNatClampNeg = 0 then 0 else if on j = 0 then 1 else 0)
  else if K j = 4 then 0 else if K j = 6 then 0 else if K j = 13 then 0 else if K j = 14 then 0
  else H (A j).toNatClampNeg
def sg_w (K A B V Z wv cs C : Nat → Int32) (j : Nat) : Int32 :=
  if K j = 0 then wv j else if K j = 11 then wv j
  else if K j = 1 then V (A j).toNatClampNeg * B j + C j
  else if K j = 3 then V (A j).toNatClampNeg + V (B j).toNatClampNeg
  else if K j = 5 then V (A j).toNatClampNeg + Z (B j).toNatClampNeg
  else if K j = 8 then cs j + V (A j).toNatClampNeg
  else if K j = 10 then (if Z (A j).toNatClampNeg = 0 then V (C j).toNatClampNeg else V (B j).toNatClampNeg)
  else V (A j).toNatClampNeg
def sg_v (K A B H V Z wt on wv cs C : Nat → Int32) (j : Nat) : Int32 :=
  if K j = 4 then (if A j = -1 then Z j else if H (A j).toNatClampNeg = 0 then Z j else V (A j).toNatClampNeg)
  else if K j = 6 then sg_dc K A B C V j else if K j = 13 then sg_dc K A B C V j else if K j = 14 then sg_dc K A B C V j
  else if sg_h K A B H V Z wt on C j = 0 then 0 else sg_w K A B V Z wv cs C j
/-! the relation -/
def sg_S (n : Nat) (K A B C H V T W U S p g : Nat → Int32) (k : Nat) : Prop :=
  (∀ j, H j = 0 ∨ H j = 1) ∧ (∀ j, W j = 0 ∨ W j = 1) ∧ (∀ j, p j = 0 ∨ p j = 1) ∧ (∀ j, j < n → sg_ce (K j) → H j = 0)
  ∧ (∀ j, j < n → (K j = 0 ∨ K j = 11) → p j = W j ∧ g j = U j) ∧ (∀ j, j < n → K j = 8 → g j = S j)
  ∧ (∀ j, j < n → K j = 12 → (p j = 0 ↔ T j = 0)) ∧ (∀ j, ∃ t, t ≤ k ∧ T j = nI t)
  ∧ (∀ j, j < n → sg_dv (K j) → V j = sg_dc K A B C V j)
def i_Rel (k : Nat) (u : SX) (v : SY) : Prop := ∃ (n : Nat) (o l c : Int32) (K A B C H V D T W U S O F d p g : Nat → Int32),
  u = (nI n, o, l, c, K, A, B, C, H, V, D, T, W, U, S, O) ∧ v = (nI n, c, K, A, B, C, H, V, F, T, d, p, g) ∧ n ≤ 24 ∧ sg_wf n K A B C ∧ sg_ac n K A B C ∧ sg_S n K A B C H V T W U S p g k ∧ (o = 0 → sg_top n K A B C O)
theorem i_up {k : Nat} {u : SX} {v : SY} (h : i_Rel k u v) : i_Rel (k + 5) u v := by
  obtain ⟨n, o, l, c, K, A, B, C, H, V, D, T, W, U, S, O, F, d, p, g, e1, e2, hn, hw, ha, ⟨s1, s2, s3, s4, s5, s6, s7, s8, s9⟩, ht⟩ := h
  refine ⟨n, o, l, c, K, A, B, C, H, V, D, T, W, U, S, O, F, d, p, g, e1, e2, hn, hw, ha, ⟨s1, s2, s3, s4, s5, s6, s7, ?_, s9⟩, ht⟩
  intro j
  obtain ⟨t, h1, h2⟩ := s8 j
  exact ⟨t, by omega, h2⟩
theorem i_vc0 : wpX_init (fun u => wpY_init (fun v => i_Rel 0 u v)) := by
  refine ⟨0, 0, 1, 0, _, _, _, _, _, _, _, _, _, _, _, _, _, _, _, _, rfl, rfl, by omega, ?_, ?_, ⟨?_, ?_, ?_, ?_, ?_, ?_, ?_, ?_, ?_⟩, ?_⟩
  · intro j hj; omega
  · exact ⟨fun _ => 0, fun j m hp => absurd hp.1 (by omega)⟩
  · exact fun _ => Or.inl rfl
  · exact fun _ => Or.inl rfl
  · exact fun _ => Or.inl rfl
  · intro j hj; omega
  · intro j hj; omega
  · intro j hj; omega
  · intro j hj; omega
  · exact fun _ => ⟨0, by omega, rfl⟩
  · intro j hj; omega
  · exact fun _ => ⟨fun j hj => absurd hj (by omega), fun j hj => absurd hj (by omega), fun j _ hj => absurd hj (by omega)⟩
end
section
section
variable {n : Nat} {o l c : Int32} {K A B C H V D T W U S O : Nat → Int32}
theorem sg_xThere {post : Int32 → Prop} {x : Int32} (hn : n ≤ 24) (h1 : ∀ a, a < n → x = nI a → post 1) (h0 : (¬ ∃ a, a < n ∧ x = nI a) → post 0) : wpX_isThere post (nI n, o, l, c, K, A, B, C, H, V, D, T, W, U, S, O) x := by
  rcases pk_ix x (n := n) (by omega) with h | h | ⟨j, hj, e⟩
  · exact br_t h (h0 (by rintro ⟨a, ha, rfl⟩; exact nI_pos (by omega) h))
  · by_cases hx : x < 0
    · exact br_t hx (h0 (by rintro ⟨a, ha, rfl⟩; exact nI_pos (by omega) hx))
    · refine br_f hx (br_t h (h0 ?_))
      rintro ⟨a, ha, rfl⟩
      rw [nI_leI (by omega) (by omega)] at h
      omega
  · subst e
    exact br_f (nI_pos (by omega)) (br_f (nI_ge hj (by omega)) (h1 j hj rfl))
theorem sg_xCk {post : Int32 → Prop} {q : Int32} (h1 : sg_ce q → post 1) (h0 : ¬ sg_ce q → post 0) : wpX_isCellKind post q := by
  refine br_c (fun e => h1 (Or.inl e)) fun n4 => br_c (fun e => h1 (Or.inr (Or.inl e))) fun n6 => br_c (fun e => h1 (Or.inr (Or.inr (Or.inl e)))) fun n13 => br_c (fun e => h1 (Or.inr (Or.inr (Or.inr e)))) fun n14 => h0 ?_
  rintro (e | e | e | e)
  · exact n4 e
  · exact n6 e
  · exact n13 e
  · exact n14 e
theorem sg_xEv {post : Int32 → Prop} {x : Int32} (hn : n ≤ 24) (h1 : sg_E K n x → post 1) (h0 : ¬ sg_E K n x → post 0) : wpX_isEvent post (nI n, o, l, c, K, A, B, C, H, V, D, T, W, U, S, O) x := by
  unfold wpX_isEvent
  dsimp only
  refine sg_xThere hn (fun a ha e => br_f (by decide) ⟨pk_in a 24 (by omega) e, ?_⟩) (fun z => br_t rfl (h0 ?_))
  · subst e
    rw [nI_clamp (by omega)]
    refine sg_xCk (fun hc => br_f (by decide) (h0 ?_)) (fun hc => br_t rfl (h1 ⟨a, ha, rfl, hc⟩))
    rintro ⟨b, hb, e, hc'⟩
    rw [nI_eq (by omega) (by omega)] at e
    subst e
    exact hc' hc
  · rintro ⟨a, ha, e, _⟩
    exact z ⟨a, ha, e⟩
theorem sg_xCe {post : Int32 → Prop} {x : Int32} (hn : n ≤ 24) (h1 : sg_L K n x → post 1) (h0 : ¬ sg_L K n x → post 0) : wpX_isCell post (nI n, o, l, c, K, A, B, C, H, V, D, T, W, U, S, O) x := by
  unfold wpX_isCell
  dsimp only
  refine sg_xThere hn (fun a ha e => br_f (by decide) ⟨pk_in a 24 (by omega) e, ?_⟩) (fun z => br_t rfl (h0 ?_))
  · subst e
    rw [nI_clamp (by omega)]
    refine sg_xCk (fun hc => br_f (by decide) (h1 ⟨a, ha, rfl, hc⟩)) (fun hc => br_t rfl (h0 ?_))
    rintro ⟨b, hb, e, hc'⟩
    rw [nI_eq (by omega) (by omega)] at e
    subst e
    exact hc hc'
  · rintro ⟨a, ha, e, _⟩
    exact z ⟨a, ha, e⟩
theorem sg_xKind {post : Int32 → Prop} {x q : Int32} (hn : n ≤ 24) (h1 : ∀ a, a < n → x = nI a → K a = q → post 1) (h0 : (¬ ∃ a, a < n ∧ x = nI a ∧ K a = q) → post 0) : wpX_isOfKind post (nI n, o, l, c, K, A, B, C, H, V, D, T, W, U, S, O) x q := by
  unfold wpX_isOfKind
  dsimp only
  refine sg_xThere hn (fun a ha e => br_f (by decide) ⟨pk_in a 24 (by omega) e, ?_⟩) (fun z => br_t rfl (h0 ?_))
  · subst e
    rw [nI_clamp (by omega)]
    refine br_c (fun e => h1 a ha rfl e) (fun ne => h0 ?_)
    rintro ⟨b, hb, e, hc'⟩
    rw [nI_eq (by omega) (by omega)] at e
    subst e
    exact ne hc'
  · rintro ⟨a, ha, e, _⟩
    exact z ⟨a, ha, e⟩
/-- two tests, then an answer -/
theorem sg_xEE {post : Int32 → Prop} {x y : Int32} (hn : n ≤ 24) (h1 : sg_E K n x → sg_E K n y → post 1) (h0 : ¬ (sg_E K n x ∧ sg_E K n y) → post 0) : wpX_isEvent (fun r => (r = 0 → post 0) ∧ (¬ r = 0 → wpX_isEvent (fun r => (r = 0 → post 0) ∧ (¬ r = 0 → post 1)) (nI n, o, l, c, K, A, B, C, H, V, D, T, W, U, S, O) y)) (nI n, o, l, c, K, A, B, C, H, V, D, T, W, U, S, O) x :=
  sg_xEv hn (fun hx => br_f (by decide) (sg_xEv hn (fun hy => br_f (by decide) (h1 hx hy)) (fun hy => br_t rfl (h0 fun z => hy z.2)))) (fun hx => br_t rfl (h0 fun z => hx z.1))
theorem sg_xEC {post : Int32 → Prop} {x y : Int32} (hn : n ≤ 24) (h1 : sg_E K n x → sg_L K n y → post 1) (h0 : ¬ (sg_E K n x ∧ sg_L K n y) → post 0) : wpX_isEvent (fun r => (r = 0 → post 0) ∧ (¬ r = 0 → wpX_isCell (fun r => (r = 0 → post 0) ∧ (¬ r = 0 → post 1)) (nI n, o, l, c, K, A, B, C, H, V, D, T, W, U, S, O) y)) (nI n, o, l, c, K, A, B, C, H, V, D, T, W, U, S, O) x :=
  sg_xEv hn (fun hx => br_f (by decide) (sg_xCe hn (fun hy => br_f (by decide) (h1 hx hy)) (fun hy => br_t rfl (h0 fun z => hy z.2)))) (fun hx => br_t rfl (h0 fun z => hx z.1))
theorem sg_xCC {post : Int32 → Prop} {x y : Int32} (hn : n ≤ 24) (h1 : sg_L K n x → sg_L K n y → post 1) (h0 : ¬ (sg_L K n x ∧ sg_L K n y) → post 0) : wpX_isCell (fun r => (r = 0 → post 0) ∧ (¬ r = 0 → wpX_isCell (fun r => (r = 0 → post 0) ∧ (¬ r = 0 → post 1)) (nI n, o, l, c, K, A, B, C, H, V, D, T, W, U, S, O) y)) (nI n, o, l, c, K, A, B, C, H, V, D, T, W, U, S, O) x :=
  sg_xCe hn (fun hx => br_f (by decide) (sg_xCe hn (fun hy => br_f (by decide) (h1 hx hy)) (fun hy => br_t rfl (h0 fun z => hy z.2)))) (fun hx => br_t rfl (h0 fun z => hx z.1))
theorem sg_xFit {post : Int32 → Prop} {q x y z : Int32} (hn : n ≤ 24) (h1 : sg_fit K n q x y z → post 1) (h0 : ¬ sg_fit K n q x y z → post 0) : wpX_operandsFit post (nI n, o, l, c, K, A, B, C, H, V, D, T, W, U, S, O) q x y z := by
  unfold wpX_operandsFit
  by_cases hq : q < 0
  · refine br_t hq (h0 fun hf => ?_)
    refine sg_fit_cases hf ?_ ?_ ?_ ?_ ?_ ?_ ?_ ?_ ?_ ?_ ?_ ?_ ?_ ?_ ?_ <;> intro e <;> subst e <;> exact absurd hq (by decide)
  refine br_f hq ?_
  by_cases hq2 : 14 < q
  · refine br_t hq2 (h0 fun hf => ?_)
    refine sg_fit_cases hf ?_ ?_ ?_ ?_ ?_ ?_ ?_ ?_ ?_ ?_ ?_ ?_ ?_ ?_ ?_ <;> intro e <;> subst e <;> exact absurd hq2 (by decide)
  refine br_f hq2 ?_
  have h78 : (sg_E K n x → post 1) → (¬ sg_E K n x → post 0) → wX_operandsFit_78 post x (nI n) o l c K A B C H V D T W U S O := fun a b => sg_xEv hn (fun hx => ⟨rfl, a hx⟩) (fun hx => ⟨rfl, b hx⟩)
  have h169 : (sg_L K n x → post 1) → (¬ sg_L K n x → post 0) → wX_operandsFit_169 post x (nI n) o l c K A B C H V D T W U S O := fun a b => sg_xCe hn (fun hx => ⟨rfl, a hx⟩) (fun hx => ⟨rfl, b hx⟩)
  rcases sg_kinds hq hq2 with e | e | e | e | e | e | e | e | e | e | e | e | e | e | e <;> subst e
  · exact br_t rfl (h1 (Or.inl rfl))
  · iterate 1 refine br_f (by decide) ?_
    refine br_t rfl (h78 (fun hx => h1 ?_) (fun hx => h0 fun hf => hx ?_))
    · simp (decide := true) [sg_fit, hx]
    · simpa (decide := true) [sg_fit] using hf
  · iterate 2 refine br_f (by decide) ?_
    refine br_t rfl (h78 (fun hx => h1 ?_) (fun hx => h0 fun hf => hx ?_))
    · simp (decide := true) [sg_fit, hx]
    · simpa (decide := true) [sg_fit] using hf
  · iterate 3 refine br_f (by decide) ?_
    refine br_t rfl (sg_xEE hn (fun hx hy => h1 ?_) (fun hx => h0 fun hf => hx ?_))
    · simp (decide := true) [sg_fit, hx, hy]
    · simpa (decide := true) [sg_fit] using hf
  · iterate 4 refine br_f (by decide) ?_
    refine br_t rfl (br_c (fun e => h1 ?_) (fun ne => sg_xEv hn (fun hx => br_f (by decide) (h1 ?_)) (fun hx => br_t rfl (h0 fun hf => ?_))))
    · simp (decide := true) [sg_fit, e]
    · simp (decide := true) [sg_fit, hx]
    · have : x = -1 ∨ sg_E K n x := by simpa (decide := true) [sg_fit] using hf
      rcases this with z | z
      · exact ne z
      · exact hx z
  · iterate 5 refine br_f (by decide) ?_
    refine br_t rfl (sg_xEC hn (fun hx hy => h1 ?_) (fun hx => h0 fun hf => hx ?_))
    · simp (decide := true) [sg_fit, hx, hy]
    · simpa (decide := true) [sg_fit] using hf
  · iterate 6 refine br_f (by decide) ?_
    refine br_t rfl (sg_xCC hn (fun hx hy => h1 ?_) (fun hx => h0 fun hf => hx ?_))
    · simp (decide := true) [sg_fit, hx, hy]
    · simpa (decide := true) [sg_fit] using hf
  · iterate 7 refine br_f (by decide) ?_
    refine br_t rfl (sg_xEC hn (fun hx hy => h1 ?_) (fun hx => h0 fun hf => hx ?_))
    · simp (decide := true) [sg_fit, hx, hy]
    · simpa (decide := true) [sg_fit] using hf
  · iterate 8 refine br_f (by decide) ?_
    refine br_t rfl (h78 (fun hx => h1 ?_) (fun hx => h0 fun hf => hx ?_))
    · simp (decide := true) [sg_fit, hx]
    · simpa (decide := true) [sg_fit] using hf
  · iterate 9 refine br_f (by decide) ?_
    refine br_t rfl (h169 (fun hx => h1 ?_) (fun hx => h0 fun hf => hx ?_))
    · simp (decide := true) [sg_fit, hx]
    · simpa (decide := true) [sg_fit] using hf
  · iterate 10 refine br_f (by decide) ?_
    refine br_t rfl (sg_xCe hn (fun hx => br_f (by decide) (sg_xEE hn (fun hy hz => h1 ?_) (fun hy => h0 fun hf => hy ?_))) (fun hx => br_t rfl (h0 fun hf => hx ?_)))
    · simp (decide := true) [sg_fit, hx, hy, hz]
    · have : sg_L K n x ∧ sg_E K n y ∧ sg_E K n z := by simpa (decide := true) [sg_fit] using hf
      exact this.2
    · have : sg_L K n x ∧ sg_E K n y ∧ sg_E K n z := by simpa (decide := true) [sg_fit] using hf
      exact this.1
  · iterate 11 refine br_f (by decide) ?_
    refine br_t rfl (h78 (fun hx => h1 ?_) (fun hx => h0 fun hf => hx ?_))
    · simp (decide := true) [sg_fit, hx]
    · simpa (decide := true) [sg_fit] using hf
  · iterate 12 refine br_f (by decide) ?_
    refine br_t rfl (h78 (fun hx => h1 ?_) (fun hx => h0 fun hf => hx ?_))
    · simp (decide := true) [sg_fit, hx]
    · simpa (decide := true) [sg_fit] using hf
  · iterate 13 refine br_f (by decide) ?_
    refine br_t rfl (sg_xCe hn (fun hx => br_f (by decide) (sg_xCC hn (fun hy hz => h1 ?_) (fun hy => h0 fun hf => hy ?_))) (fun hx => br_t rfl (h0 fun hf => hx ?_)))
    · simp (decide := true) [sg_fit, hx, hy, hz]
    · have : sg_L K n x ∧ sg_L K n y ∧ sg_L K n z := by simpa (decide := true) [sg_fit] using hf
      exact this.2
    · have : sg_L K n x ∧ sg_L K n y ∧ sg_L K n z := by simpa (decide := true) [sg_fit] using hf
      exact this.1
  · iterate 14 refine br_f (by decide) ?_
    refine br_t rfl (h169 (fun hx => h1 ?_) (fun hx => h0 fun hf => hx ?_))
    · simp (decide := true) [sg_fit, hx]
    · simpa (decide := true) [sg_fit] using hf
end
end
section
section
variable {n : Nat} {c : Int32} {K A B C h v F T d p g : Nat → Int32}
theorem sg_yThere {post : Int32 → Prop} {x : Int32} (hn : n ≤ 24) (h1 : ∀ a, a < n → x = nI a → post 1) (h0 : (¬ ∃ a, a < n ∧ x = nI a) → post 0) : wpY_isNode post (nI n, c, K, A, B, C, h, v, F, T, d, p, g) x := by
  rcases pk_ix x (n := n) (by omega) with h | h | ⟨j, hj, e⟩
  · exact br_t h (h0 (by rintro ⟨a, ha, rfl⟩; exact nI_pos (by omega) h))
  · by_cases hx : x < 0
    · exact br_t hx (h0 (by rintro ⟨a, ha, rfl⟩; exact nI_pos (by omega) hx))
    · refine br_f hx (br_t h (h0 ?_))
      rintro ⟨a, ha, rfl⟩
      rw [nI_leI (by omega) (by omega)] at h
      omega
  · subst e
    exact br_f (nI_pos (by omega)) (br_f (nI_ge hj (by omega)) (h1 j hj rfl))
theorem sg_yCk {post : Int32 → Prop} {q : Int32} (h1 : sg_ce q → post 1) (h0 : ¬ sg_ce q → post 0) : wpY_isCellKind post (nI n, c, K, A, B, C, h, v, F, T, d, p, g) q := by
  refine br_c (fun e => h1 (Or.inl e)) fun n4 => br_c (fun e => h1 (Or.inr (Or.inl e))) fun n6 => br_c (fun e => h1 (Or.inr (Or.inr (Or.inl e)))) fun n13 => br_c (fun e => h1 (Or.inr (Or.inr (Or.inr e)))) fun n14 => h0 ?_
  rintro (e | e | e | e)
  · exact n4 e
  · exact n6 e
  · exact n13 e
  · exact n14 e
theorem sg_yEv {post : Int32 → Prop} {x : Int32} (hn : n ≤ 24) (h1 : sg_E K n x → post 1) (h0 : ¬ sg_E K n x → post 0) : wpY_isEvent post (nI n, c, K, A, B, C, h, v, F, T, d, p, g) x := by
  unfold wpY_isEvent
  dsimp only
  refine sg_yThere hn (fun a ha e => br_f (by decide) ⟨pk_in a 24 (by omega) e, ?_⟩) (fun z => br_t rfl (h0 ?_))
  · subst e
    rw [nI_clamp (by omega)]
    refine sg_yCk (fun hc => br_f (by decide) (h0 ?_)) (fun hc => br_t rfl (h1 ⟨a, ha, rfl, hc⟩))
    rintro ⟨b, hb, e, hc'⟩
    rw [nI_eq (by omega) (by omega)] at e
    subst e
    exact hc' hc
  · rintro ⟨a, ha, e, _⟩
    exact z ⟨a, ha, e⟩
theorem sg_yCe {post : Int32 → Prop} {x : Int32} (hn : n ≤ 24) (h1 : sg_L K n x → post 1) (h0 : ¬ sg_L K n x → post 0) : wpY_isCell post (nI n, c, K, A, B, C, h, v, F, T, d, p, g) x := by
  unfold wpY_isCell
  dsimp only
  refine sg_yThere hn (fun a ha e => br_f (by decide) ⟨pk_in a 24 (by omega) e, ?_⟩) (fun z => br_t rfl (h0 ?_))
  · subst e
    rw [nI_clamp (by omega)]
    refine sg_yCk (fun hc => br_f (by decide) (h1 ⟨a, ha, rfl, hc⟩)) (fun hc => br_t rfl (h0 ?_))
    rintro ⟨b, hb, e, hc'⟩
    rw [nI_eq (by omega) (by omega)] at e
    subst e
    exact hc hc'
  · rintro ⟨a, ha, e, _⟩
    exact z ⟨a, ha, e⟩
/-- two tests, then an answer -/
theorem sg_yEE {post : Int32 → Prop} {x y : Int32} (hn : n ≤ 24) (h1 : sg_E K n x → sg_E K n y → post 1) (h0 : ¬ (sg_E K n x ∧ sg_E K n y) → post 0) : wpY_isEvent (fun r => (r = 0 → post 0) ∧ (¬ r = 0 → wpY_isEvent (fun r => (r = 0 → post 0) ∧ (¬ r = 0 → post 1)) (nI n, c, K, A, B, C, h, v, F, T, d, p, g) y)) (nI n, c, K, A, B, C, h, v, F, T, d, p, g) x :=
  sg_yEv hn (fun hx => br_f (by decide) (sg_yEv hn (fun hy => br_f (by decide) (h1 hx hy)) (fun hy => br_t rfl (h0 fun z => hy z.2)))) (fun hx => br_t rfl (h0 fun z => hx z.1))
theorem sg_yEC {post : Int32 → Prop} {x y : Int32} (hn : n ≤ 24) (h1 : sg_E K n x → sg_L K n y → post 1) (h0 : ¬ (sg_E K n x ∧ sg_L K n y) → post 0) : wpY_isEvent (fun r => (r = 0 → post 0) ∧ (¬ r = 0 → wpY_isCell (fun r => (r = 0 → post 0) ∧ (¬ r = 0 → post 1)) (nI n, c, K, A, B, C, h, v, F, T, d, p, g) y)) (nI n, c, K, A, B, C, h, v, F, T, d, p, g) x :=
  sg_yEv hn (fun hx => br_f (by decide) (sg_yCe hn (fun hy => br_f (by decide) (h1 hx hy)) (fun hy => br_t rfl (h0 fun z => hy z.2)))) (fun hx => br_t rfl (h0 fun z => hx z.1))
theorem sg_yCC {post : Int32 → Prop} {x y : Int32} (hn : n ≤ 24) (h1 : sg_L K n x → sg_L K n y → post 1) (h0 : ¬ (sg_L K n x ∧ sg_L K n y) → post 0) : wpY_isCell (fun r => (r = 0 → post 0) ∧ (¬ r = 0 → wpY_isCell (fun r => (r = 0 → post 0) ∧ (¬ r = 0 → post 1)) (nI n, c, K, A, B, C, h, v, F, T, d, p, g) y)) (nI n, c, K, A, B, C, h, v, F, T, d, p, g) x :=
  sg_yCe hn (fun hx => br_f (by decide) (sg_yCe hn (fun hy => br_f (by decide) (h1 hx hy)) (fun hy => br_t rfl (h0 fun z => hy z.2)))) (fun hx => br_t rfl (h0 fun z => hx z.1))
theorem sg_yFit {post : Int32 → Prop} {q x y z : Int32} (hn : n ≤ 24) (hq : ¬ q < 0) (hq2 : ¬ 14 < q) (h1 : sg_fit K n q x y z → post 1) (h0 : ¬ sg_fit K n q x y z → post 0) : wpY_fits post (nI n, c, K, A, B, C, h, v, F, T, d, p, g) q x y z := by
  unfold wpY_fits
  have hC : (sg_L K n x → post 1) → (¬ sg_L K n x → post 0) → wY_fits_130 post x (nI n) c K A B C h v F T d p g := fun a b => sg_yCe hn (fun hx => ⟨rfl, a hx⟩) (fun hx => ⟨rfl, b hx⟩)
  have hE : (sg_E K n x → post 1) → (¬ sg_E K n x → post 0) → wpY_isEvent (fun r_56 => (narrow .boolean (.int r_56) = .int r_56 ∧ (post r_56))) (nI n, c, K, A, B, C, h, v, F, T, d, p, g) x := fun a b => sg_yEv hn (fun hx => ⟨rfl, a hx⟩) (fun hx => ⟨rfl, b hx⟩)
  rcases sg_kinds hq hq2 with e | e | e | e | e | e | e | e | e | e | e | e | e | e | e <;> subst e
  · exact br_t rfl (h1 (Or.inl rfl))
  · iterate 10 refine br_f (by decide) ?_
    refine (hE (fun hx => h1 ?_) (fun hx => h0 fun hf => hx ?_))
    · simp (decide := true) [sg_fit, hx]
    · simpa (decide := true) [sg_fit] using hf
  · iterate 10 refine br_f (by decide) ?_
    refine (hE (fun hx => h1 ?_) (fun hx => h0 fun hf => hx ?_))
    · simp (decide := true) [sg_fit, hx]
    · simpa (decide := true) [sg_fit] using hf
  · iterate 2 refine br_f (by decide) ?_
    refine br_t rfl (sg_yEE hn (fun hx hy => h1 ?_) (fun hx => h0 fun hf => hx ?_))
    · simp (decide := true) [sg_fit, hx, hy]
    · simpa (decide := true) [sg_fit] using hf
  · iterate 1 refine br_f (by decide) ?_
    refine br_t rfl (br_c (fun e => h1 ?_) (fun ne => sg_yEv hn (fun hx => br_f (by decide) (h1 ?_)) (fun hx => br_t rfl (h0 fun hf => ?_))))
    · simp (decide := true) [sg_fit, e]
    · simp (decide := true) [sg_fit, hx]
    · have : x = -1 ∨ sg_E K n x := by simpa (decide := true) [sg_fit] using hf
      rcases this with z | z
      · exact ne z
      · exact hx z
  · iterate 3 refine br_f (by decide) ?_
    refine br_t rfl (sg_yEC hn (fun hx hy => h1 ?_) (fun hx => h0 fun hf => hx ?_))
    · simp (decide := true) [sg_fit, hx, hy]
    · simpa (decide := true) [sg_fit] using hf
  · iterate 5 refine br_f (by decide) ?_
    refine br_t rfl (sg_yCC hn (fun hx hy => h1 ?_) (fun hx => h0 fun hf => hx ?_))
    · simp (decide := true) [sg_fit, hx, hy]
    · simpa (decide := true) [sg_fit] using hf
  · iterate 4 refine br_f (by decide) ?_
    refine br_t rfl (sg_yEC hn (fun hx hy => h1 ?_) (fun hx => h0 fun hf => hx ?_))
    · simp (decide := true) [sg_fit, hx, hy]
    · simpa (decide := true) [sg_fit] using hf
  · iterate 10 refine br_f (by decide) ?_
    refine (hE (fun hx => h1 ?_) (fun hx => h0 fun hf => hx ?_))
    · simp (decide := true) [sg_fit, hx]
    · simpa (decide := true) [sg_fit] using hf
  · iterate 6 refine br_f (by decide) ?_
    refine br_t rfl (hC (fun hx => h1 ?_) (fun hx => h0 fun hf => hx ?_))
    · simp (decide := true) [sg_fit, hx]
    · simpa (decide := true) [sg_fit] using hf
  · iterate 8 refine br_f (by decide) ?_
    refine br_t rfl (sg_yCe hn (fun hx => br_f (by decide) (sg_yEE hn (fun hy hz => h1 ?_) (fun hy => h0 fun hf => hy ?_))) (fun hx => br_t rfl (h0 fun hf => hx ?_)))
    · simp (decide := true) [sg_fit, hx, hy, hz]
    · have : sg_L K n x ∧ sg_E K n y ∧ sg_E K n z := by simpa (decide := true) [sg_fit] using hf
      exact this.2
    · have : sg_L K n x ∧ sg_E K n y ∧ sg_E K n z := by simpa (decide := true) [sg_fit] using hf
      exact this.1
  · iterate 10 refine br_f (by decide) ?_
    refine (hE (fun hx => h1 ?_) (fun hx => h0 fun hf => hx ?_))
    · simp (decide := true) [sg_fit, hx]
    · simpa (decide := true) [sg_fit] using hf
  · iterate 10 refine br_f (by decide) ?_
    refine (hE (fun hx => h1 ?_) (fun hx => h0 fun hf => hx ?_))
    · simp (decide := true) [sg_fit, hx]
    · simpa (decide := true) [sg_fit] using hf
  · iterate 9 refine br_f (by decide) ?_
    refine br_t rfl (sg_yCe hn (fun hx => br_f (by decide) (sg_yCC hn (fun hy hz => h1 ?_) (fun hy => h0 fun hf => hy ?_))) (fun hx => br_t rfl (h0 fun hf => hx ?_)))
    · simp (decide := true) [sg_fit, hx, hy, hz]
    · have : sg_L K n x ∧ sg_L K n y ∧ sg_L K n z := by simpa (decide := true) [sg_fit] using hf
      exact this.2
    · have : sg_L K n x ∧ sg_L K n y ∧ sg_L K n z := by simpa (decide := true) [sg_fit] using hf
      exact this.1
  · iterate 7 refine br_f (by decide) ?_
    refine br_t rfl (hC (fun hx => h1 ?_) (fun hx => h0 fun hf => hx ?_))
    · simp (decide := true) [sg_fit, hx]
    · simpa (decide := true) [sg_fit] using hf
end
end
section
section
variable {n : Nat} {o l c : Int32} {K A B C H V D T W U S O h v F d p g : Nat → Int32}
theorem sg_xPt {post : Int32 → Prop} {j : Nat} (hn : n ≤ 24) (hj : j < n) (hf : sg_fit K n (K j) (A j) (B j) (C j)) (hp : ∀ s, (∀ m, m < 32 → (bt s m = true ↔ ∃ i, i < 3 ∧ sg_pt (K j) (A j) (B j) (C j) i = nI m)) → post s) : wpX_partsOf post (nI n, o, l, c, K, A, B, C, H, V, D, T, W, U, S, O) (nI j) := by
  unfold wpX_partsOf
  dsimp only
  have hin : vp_in (nI j) 24 := vp_in_nI (by omega) (by omega)
  rw [nI_clamp (by omega)]
  refine ⟨hin, nm_e ⟨hin, nm_e ⟨hin, nm_e ⟨hin, nm_e ?_⟩⟩⟩⟩
  simp only [sg_3] at hp
  have e2 : ∀ m, m < 32 → ¬ (-1 = nI m) := fun m hm z => sg_ne1 (by omega) z.symm
  have e1 : ∀ a, a < n → ∀ m, m < 32 → (nI a = nI m ↔ m = a) := fun a ha m hm => by rw [nI_eq (by omega) (by omega)]; omega
  have eb : ∀ a, a < n → ∀ m, (bt ((1 : Int32) <<< (nI a &&& 31)) m = true ↔ m = a) := fun a ha m => by rw [sg_b1 (by omega)]; simp
  have eo : ∀ x y m, (bt (x ||| y) m = true ↔ bt x m = true ∨ bt y m = true) := fun x y m => by rw [b_or]; simp
  have e0 : ∀ m, ¬ bt 0 m = true := fun m => by rw [b_0]; simp
  have s0 : ∀ q x y z : Int32, (q = 0 ∨ q = 11 ∨ (q = 4 ∧ x = -1)) → ∀ m, m < 32 → (bt 0 m = true ↔ (sg_pt q x y z 0 = nI m ∨ sg_pt q x y z 1 = nI m ∨ sg_pt q x y z 2 = nI m)) := by
    intro q x y z hq m hm
    rcases hq with hq | hq | ⟨hq, hx⟩
    · subst hq; simp (decide := true) [sg_pt, e0, e2 m hm]
    · subst hq; simp (decide := true) [sg_pt, e0, e2 m hm]
    · subst hq hx; simp (decide := true) [sg_pt, e0, e2 m hm]
  have s1 : ∀ q y z : Int32, ∀ a, a < n → (q = 1 ∨ q = 2 ∨ q = 4 ∨ q = 5 ∨ q = 7 ∨ q = 8 ∨ q = 9 ∨ q = 12 ∨ q = 14) → ∀ m, m < 32 → (bt ((1 : Int32) <<< (nI a &&& 31)) m = true ↔ (sg_pt q (nI a) y z 0 = nI m ∨ sg_pt q (nI a) y z 1 = nI m ∨ sg_pt q (nI a) y z 2 = nI m)) := by
    intro q y z a ha hq m hm
    rw [eb a ha]
    rcases hq with hq | hq | hq | hq | hq | hq | hq | hq | hq <;> subst hq <;> simp (decide := true) [sg_pt, e2 m hm, e1 a ha m hm]
  have s2 : ∀ q z : Int32, ∀ a, a < n → ∀ b, b < n → (q = 3 ∨ q = 6) → ∀ m, m < 32 → (bt (((1 : Int32) <<< (nI a &&& 31)) ||| ((1 : Int32) <<< (nI b &&& 31))) m = true ↔ (sg_pt q (nI a) (nI b) z 0 = nI m ∨ sg_pt q (nI a) (nI b) z 1 = nI m ∨ sg_pt q (nI a) (nI b) z 2 = nI m)) := by
    intro q z a ha b hb hq m hm
    rw [eo, eb a ha, eb b hb]
    rcases hq with hq | hq <;> subst hq <;> simp (decide := true) [sg_pt, e2 m hm, e1 a ha m hm, e1 b hb m hm]
  have s10 : ∀ x : Int32, ∀ a, a < n → ∀ b, b < n → ∀ m, m < 32 → (bt (((1 : Int32) <<< (nI a &&& 31)) ||| ((1 : Int32) <<< (nI b &&& 31))) m = true ↔ (sg_pt 10 x (nI a) (nI b) 0 = nI m ∨ sg_pt 10 x (nI a) (nI b) 1 = nI m ∨ sg_pt 10 x (nI a) (nI b) 2 = nI m)) := by
    intro x a ha b hb m hm
    rw [eo, eb a ha, eb b hb]
    simp (decide := true) [sg_pt, e2 m hm, e1 a ha m hm, e1 b hb m hm]
  have s13 : ∀ a, a < n → ∀ b, b < n → ∀ k, k < n → ∀ m, m < 32 → (bt ((((1 : Int32) <<< (nI a &&& 31)) ||| ((1 : Int32) <<< (nI b &&& 31))) ||| ((1 : Int32) <<< (nI k &&& 31))) m = true ↔ (sg_pt 13 (nI a) (nI b) (nI k) 0 = nI m ∨ sg_pt 13 (nI a) (nI b) (nI k) 1 = nI m ∨ sg_pt 13 (nI a) (nI b) (nI k) 2 = nI m)) := by
    intro a ha b hb k hk m hm
    rw [eo, eo, eb a ha, eb b hb, eb k hk]
    simp (decide := true) [sg_pt, e1 a ha m hm, e1 b hb m hm, e1 k hk m hm, or_assoc]
  revert hf hp
  generalize K j = q, A j = x, B j = y, C j = z
  intro hf hp
  refine sg_fit_cases hf ?_ ?_ ?_ ?_ ?_ ?_ ?_ ?_ ?_ ?_ ?_ ?_ ?_ ?_ ?_ <;> intro e <;> subst e
  · exact br_t (by decide) (hp _ (s0 _ _ _ _ (Or.inl rfl)))
  · rintro ⟨a, ha, rfl, _⟩
    iterate 2 refine br_f (by decide) ?_
    refine br_t rfl (hp _ (s1 _ _ _ a ha (by decide)))
  · rintro ⟨a, ha, rfl, _⟩
    iterate 3 refine br_f (by decide) ?_
    refine br_t rfl (hp _ (s1 _ _ _ a ha (by decide)))
  · rintro ⟨a, ha, rfl, _⟩ ⟨b, hb, rfl, _⟩
    iterate 4 refine br_f (by decide) ?_
    refine br_t rfl (hp _ (s2 _ _ a ha b hb (by decide)))
  · intro hx
    iterate 5 refine br_f (by decide) ?_
    refine br_t rfl ?_
    rcases hx with rfl | ⟨a, ha, rfl, _⟩
    · exact br_t rfl (hp _ (s0 _ _ _ _ (Or.inr (Or.inr ⟨rfl, rfl⟩))))
    · exact br_f (sg_ne1 (by omega)) (hp _ (s1 _ _ _ a ha (by decide)))
  · rintro ⟨a, ha, rfl, _⟩ _
    iterate 6 refine br_f (by decide) ?_
    refine br_t rfl (hp _ (s1 _ _ _ a ha (by decide)))
  · rintro ⟨a, ha, rfl, _⟩ ⟨b, hb, rfl, _⟩
    iterate 7 refine br_f (by decide) ?_
    refine br_t rfl (hp _ (s2 _ _ a ha b hb (by decide)))
  · rintro ⟨a, ha, rfl, _⟩ _
    iterate 8 refine br_f (by decide) ?_
    refine br_t rfl (hp _ (s1 _ _ _ a ha (by decide)))
  · rintro ⟨a, ha, rfl, _⟩
    iterate 9 refine br_f (by decide) ?_
    refine br_t rfl (hp _ (s1 _ _ _ a ha (by decide)))
  · rintro ⟨a, ha, rfl, _⟩
    iterate 10 refine br_f (by decide) ?_
    refine br_t rfl (hp _ (s1 _ _ _ a ha (by decide)))
  · rintro _ ⟨a, ha, rfl, _⟩ ⟨b, hb, rfl, _⟩
    iterate 11 refine br_f (by decide) ?_
    refine br_t rfl (hp _ (s10 _ a ha b hb))
  · rintro _
    iterate 12 refine br_f (by decide) ?_
    refine br_t rfl (hp _ (s0 _ _ _ _ (Or.inr (Or.inl rfl))))
  · rintro ⟨a, ha, rfl, _⟩
    iterate 13 refine br_f (by decide) ?_
    refine br_t rfl (hp _ (s1 _ _ _ a ha (by decide)))
  · rintro ⟨a, ha, rfl, _⟩ ⟨b, hb, rfl, _⟩ ⟨k, hk, rfl, _⟩
    iterate 14 refine br_f (by decide) ?_
    refine br_t rfl (hp _ (s13 a ha b hb k hk))
  · rintro ⟨a, ha, rfl, _⟩
    iterate 15 refine br_f (by decide) ?_
    refine br_t rfl (hp _ (s1 _ _ _ a ha (by decide)))
/-- the parts as bits, by the relation of parts -/
theorem sg_xPt' {post : Int32 → Prop} {j : Nat} (hn : n ≤ 24) (hj : j < n) (hw : sg_wf n K A B C) (hp : ∀ s, (∀ m, m < 32 → (bt s m = true ↔ sg_P n K A B C j m)) → post s) : wpX_partsOf post (nI n, o, l, c, K, A, B, C, H, V, D, T, W, U, S, O) (nI j) := by
  refine sg_xPt hn hj (sg_wf_n hw hj) fun s hs => hp s fun m hm => ?_
  rw [hs m hm]
  constructor
  · rintro ⟨i, hi, e⟩
    refine ⟨hj, ?_, i, hi, e⟩
    rcases sg_pt_r (sg_wf_n hw hj) i with z | ⟨a, ha, z⟩
    · exact absurd (e.symm.trans z) (sg_ne1 (by omega))
    · rw [e, nI_eq (by omega) (by omega)] at z
      omega
  · rintro ⟨_, _, i, hi, e⟩
    exact ⟨i, hi, e⟩
theorem sg_xc21 {post : Int32 → Prop} {J : Int32 → Int32 → Prop} {x2 x4 s0 : Int32} {e : Nat} (hn : n ≤ 24) (hw : sg_wf n K A B C) (hs : ∀ m, m < 32 → bt s0 m = true → sg_R n K A B C e m)
    (hJ : ∀ s, (∀ m, m < 32 → bt s m = true → sg_R n K A B C e m) → (∀ m, m < 32 → bt s0 m = true → bt s m = true) → (∀ q m, bt s0 q = true → sg_P n K A B C q m → bt s m = true) → J s (x4 + 1)) : ∃ f, wX_comesTo_21 post J x2 x4 (nI n) o l c K A B C H V D T W U S O f s0 0 := by
  refine loop_0 (fun f i s => wX_comesTo_21 post J x2 x4 (nI n) o l c K A B C H V D T W U S O f s (nI i)) (fun i s => (∀ m, m < 32 → bt s m = true → sg_R n K A B C e m) ∧ (∀ m, m < 32 → bt s0 m = true → bt s m = true) ∧ (∀ q m, q < i → bt s0 q = true → sg_P n K A B C q m → bt s m = true)) n s0 ⟨hs, fun _ _ z => z, fun q m hq => absurd hq (by omega)⟩ ?_ ?_
  · rintro f s ⟨a, b, k⟩
    exact br_t (nI_le (Nat.le_refl n) (by omega)) (nm_e (hJ s a b (fun q m hq hp => k q m hp.1 hq hp)))
  · rintro f i s hi ⟨a, b, k⟩ ih
    refine br_f (nI_ge hi (by omega)) (br_c (fun z => nm_r (nI_1 i) (ih s ⟨a, b, ?_⟩)) (fun z => sg_xPt' hn hi hw (fun r hr => nm_e (nm_r (nI_1 i) (ih (s ||| r) ⟨?_, ?_, ?_⟩)))))
    · intro q m hq hb hp
      by_cases eq : q = i
      · subst eq
        rw [sg_sh0 s (by omega)] at z
        exact absurd (b q (by omega) hb) z
      · exact k q m (by omega) hb hp
    · intro m hm hb
      rw [sg_sh0 s (by omega)] at z
      rw [b_or, Bool.or_eq_true] at hb
      rcases hb with hb | hb
      · exact a m hm hb
      · exact sg_R_s (a i (by omega) (Classical.not_not.mp z)) ((hr m hm).mp hb)
    · intro m hm hb
      rw [b_or, b m hm hb, Bool.true_or]
    · intro q m hq hb hp
      rw [b_or, Bool.or_eq_true]
      by_cases eq : q = i
      · subst eq
        have := hp.2.1
        exact Or.inr ((hr m (by omega)).mpr hp)
      · exact Or.inl (k q m (by omega) hb hp)
theorem sg_xCome {post : Int32 → Prop} {e m : Nat} (hn : n ≤ 24) (hw : sg_wf n K A B C) (hac : sg_ac n K A B C) (he : e < n) (hm : m < n) (h1 : sg_R n K A B C e m → post 1) (h0 : ¬ sg_R n K A B C e m → post 0) : wpX_comesTo post (nI n, o, l, c, K, A, B, C, H, V, D, T, W, U, S, O) (nI e) (nI m) := by
  unfold wpX_comesTo
  dsimp only
  refine sg_xPt' hn he hw fun s0 hs0 => ?_
  refine loop_0 (fun f r s => wX_comesTo_9 post (nI m) (nI n) o l c K A B C H V D T W U S O f s (nI r)) (fun r s => (∀ m, m < 32 → bt s m = true → sg_R n K A B C e m) ∧ (∀ t, t ≤ r → ∀ m, sg_pth n K A B C e t m → bt s m = true)) n s0 ⟨fun m hm hb => sg_R_0 ((hs0 m hm).mp hb), ?_⟩ ?_ ?_
  · intro t ht m hp
    have : t = 0 := by omega
    subst this
    have hp : sg_P n K A B C e m := hp
    have := hp.2.1
    exact (hs0 m (by omega)).mpr hp
  · rintro f s ⟨a, b⟩
    refine br_t (nI_le (Nat.le_refl n) (by omega)) (br_c (fun z => h0 fun hR => ?_) (fun z => h1 ?_))
    · rw [sg_sh0 s (by omega)] at z
      obtain ⟨t, ht, hp⟩ := sg_R_n hn hw hac he hR
      exact z (b t (by omega) m hp)
    · rw [sg_sh0 s (by omega)] at z
      exact a m (by omega) (Classical.not_not.mp z)
  · rintro f r s hr ⟨a, b⟩ ih
    refine br_f (nI_ge hr (by omega)) (sg_xc21 hn hw a fun s' a' b' k' => ?_)
    rw [nI_1]
    refine ih s' ⟨a', ?_⟩
    intro t ht m hp
    cases t with
    | zero =>
      have hp0 : sg_P n K A B C e m := hp
      have := hp0.2.1
      exact b' m (by omega) (b 0 (by omega) m hp)
    | succ t =>
      obtain ⟨q, hq, hp⟩ := hp
      exact k' q m (b t (by omega) q hq) hp
theorem sg_yPt {post : Int32 → Prop} {j i : Nat} (hj : j < 24) (hi : i < 3) (hp : post (sg_pt (K j) (A j) (B j) (C j) i)) : wpY_part post (nI n, c, K, A, B, C, h, v, F, T, d, p, g) (nI j) (nI i) := by
  unfold wpY_part
  dsimp only
  have hin : vp_in (nI j) 24 := vp_in_nI (by omega) (by omega)
  rw [nI_clamp (by omega)]
  refine ⟨hin, nm_e ?_⟩
  unfold sg_pt at hp
  by_cases e0 : K j = 0
  · rw [if_pos e0] at hp; exact br_t e0 hp
  rw [if_neg e0] at hp
  refine br_f e0 ?_
  by_cases e11 : K j = 11
  · rw [if_pos e11] at hp; exact br_t e11 hp
  rw [if_neg e11] at hp
  refine br_f e11 ?_
  have h3 : i = 0 ∨ i = 1 ∨ i = 2 := by omega
  by_cases e10 : K j = 10
  · rw [if_pos e10] at hp
    rcases h3 with e | e | e <;> subst e
    · exact br_t (by decide) (br_t e10 (br_t rfl ⟨hin, hp⟩))
    · exact br_t (by decide) (br_t e10 (br_f (by decide) (br_t rfl ⟨hin, hp⟩)))
    · exact br_t (by decide) (br_t e10 (br_f (by decide) (br_f (by decide) hp)))
  rw [if_neg e10] at hp
  rcases h3 with e | e | e <;> subst e
  · exact br_t (by decide) (br_f e10 (br_t rfl ⟨hin, hp⟩))
  · refine br_t (by decide) (br_f e10 (br_f (by decide) (br_t rfl ?_)))
    rw [if_neg (by decide), if_pos rfl] at hp
    by_cases e3 : K j = 3
    · rw [if_pos e3] at hp; exact br_t e3 ⟨hin, hp⟩
    rw [if_neg e3] at hp
    refine br_f e3 ?_
    by_cases e6 : K j = 6
    · rw [if_pos e6] at hp; exact br_t e6 ⟨hin, hp⟩
    rw [if_neg e6] at hp
    refine br_f e6 ?_
    by_cases e13 : K j = 13
    · rw [if_pos e13] at hp; exact br_t e13 ⟨hin, hp⟩
    rw [if_neg e13] at hp
    exact br_f e13 hp
  · refine br_t (by decide) (br_f e10 (br_f (by decide) (br_f (by decide) ?_)))
    rw [if_neg (by decide), if_neg (by decide)] at hp
    by_cases e13 : K j = 13
    · rw [if_pos e13] at hp; exact br_t e13 ⟨hin, hp⟩
    rw [if_neg e13] at hp
    exact br_f e13 hp
/-- a part that is there is a node -/
theorem sg_pt_P {j i : Nat} (hn : n ≤ 24) (hw : sg_wf n K A B C) (hj : j < n) (hi : i < 3) (hp : ¬ sg_pt (K j) (A j) (B j) (C j) i < 0) : ∃ m, m < n ∧ sg_pt (K j) (A j) (B j) (C j) i = nI m ∧ sg_P n K A B C j m := by
  rcases sg_pt_r (sg_wf_n hw hj) i with z | ⟨a, ha, z⟩
  · rw [z] at hp
    exact absurd (by decide) hp
  · exact ⟨a, ha, z, hj, by omega, i, hi, z⟩
theorem sg_yr46 {post : Int32 → Prop} {J : Int32 → Int32 → Prop} {x3 s0 : Int32} {e : Nat} (hn : n ≤ 24) (hw : sg_wf n K A B C) (hs : ∀ m, m < 32 → bt s0 m = true → sg_R n K A B C e m)
    (hJ : ∀ s, (∀ m, m < 32 → bt s m = true → sg_R n K A B C e m) → (∀ m, m < 32 → bt s0 m = true → bt s m = true) → (∀ q m, bt s0 q = true → sg_P n K A B C q m → bt s m = true) → J s (x3 + 1)) : ∃ f, wY_reached_46 post J x3 (nI n) c K A B C h v F T d p g f s0 0 := by
  refine loop_0 (fun f i s => wY_reached_46 post J x3 (nI n) c K A B C h v F T d p g f s (nI i)) (fun t s => (∀ m, m < 32 → bt s m = true → sg_R n K A B C e m) ∧ (∀ m, m < 32 → bt s0 m = true → bt s m = true) ∧ (∀ q m i, 3 * q + i < t → i < 3 → q < n → bt s0 q = true → m < 24 → sg_pt (K q) (A q) (B q) (C q) i = nI m → bt s m = true)) 72 s0 ⟨hs, fun _ _ z => z, fun q m i hq => absurd hq (by omega)⟩ ?_ ?_
  · rintro f s ⟨a, b, k⟩
    refine br_t (nI_le (a := 72) (b := 72) (by omega) (by omega)) (nm_e (hJ s a b ?_))
    rintro q m hq ⟨h1, h2, i, hi, h3⟩
    exact k q m i (by omega) hi h1 hq h2 h3
  · rintro f t s ht ⟨a, b, k⟩ ih
    have hd : nI t / 3 = nI (t / 3) := pk_div (d := 3) (by omega) (by omega) (by omega)
    have hr : nI t - nI t / 3 * 3 = nI (t % 3) := pk_rem (d := 3) (by omega) (by omega) (by omega)
    have hi3 : t % 3 < 3 := Nat.mod_lt _ (by omega)
    have hdm := Nat.div_add_mod t 3
    have skip : (¬ (t / 3 < n ∧ bt s (t / 3) = true ∧ ¬ sg_pt (K (t / 3)) (A (t / 3)) (B (t / 3)) (C (t / 3)) (t % 3) < 0)) → wY_reached_46 post J x3 (nI n) c K A B C h v F T d p g f s (nI (t + 1)) := by
      intro hno
      refine ih s ⟨a, b, ?_⟩
      intro q m i hq hi hqn hb hm hpt
      by_cases e1 : 3 * q + i < t
      · exact k q m i e1 hi hqn hb hm hpt
      · have eq : q = t / 3 := by omega
        have ei : i = t % 3 := by omega
        subst eq ei
        refine absurd ⟨hqn, b _ (by omega) hb, ?_⟩ hno
        rw [hpt]
        exact nI_pos (by omega)
    refine br_f (nI_ge (b := 72) ht (by omega)) ⟨by decide, nm_r hd ?_⟩
    by_cases hq : t / 3 < n
    · refine br_f (nI_ge hq (by omega)) (br_c (fun z => ⟨by decide, ?_⟩) (fun z => nm_r (nI_1 t) (skip ?_)))
      · rw [sg_sh1 s (by omega)] at z
        rw [hr]
        refine sg_yPt (by omega) hi3 (br_c (fun hneg => nm_r (nI_1 t) (skip fun hh => hh.2.2 hneg)) (fun hpos => ⟨by decide, ?_⟩))
        refine sg_yPt (by omega) hi3 (nm_e (nm_r (nI_1 t) ?_))
        obtain ⟨m, hm, em, hP⟩ := sg_pt_P hn hw hq hi3 hpos
        rw [em]
        refine ih _ ⟨?_, ?_, ?_⟩
        · intro m' hm' hb
          rw [sg_or1 s (by omega)] at hb
          rcases hb with hb | hb
          · exact a m' hm' hb
          · subst hb; exact sg_R_s (a _ (by omega) z) hP
        · intro m' hm' hb
          rw [sg_or1 s (by omega)]
          exact Or.inl (b m' hm' hb)
        · intro q m' i hq' hi hqn hb hm' hpt
          rw [sg_or1 s (by omega)]
          by_cases e1 : 3 * q + i < t
          · exact Or.inl (k q m' i e1 hi hqn hb hm' hpt)
          · have eq : q = t / 3 := by omega
            have ei : i = t % 3 := by omega
            subst eq ei
            rw [em, nI_eq (by omega) (by omega)] at hpt
            exact Or.inr hpt.symm
      · rw [sg_sh1 s (by omega)] at z
        exact fun hh => z hh.2.1
    · exact br_t (nI_le (by omega) (by omega)) (nm_r (nI_1 t) (skip fun hh => hq hh.1))
theorem sg_yReach {post : Int32 → Prop} {e : Nat} (hn : n ≤ 24) (hw : sg_wf n K A B C) (hac : sg_ac n K A B C) (he : e < n) (hp : ∀ s, (∀ m, m < 24 → (bt s m = true ↔ sg_R n K A B C e m)) → post s) : wpY_reached post (nI n, c, K, A, B, C, h, v, F, T, d, p, g) (nI e) := by
  unfold wpY_reached
  dsimp only
  refine loop_0 (fun f i s => wY_reached_4 post (nI e) (nI n) c K A B C h v F T d p g f s (nI i)) (fun t s => (∀ m, m < 32 → bt s m = true → sg_R n K A B C e m) ∧ (∀ m i, i < t → m < 24 → sg_pt (K e) (A e) (B e) (C e) i = nI m → bt s m = true)) 3 0 ⟨fun m hm hb => absurd hb (by rw [b_0]; decide), fun m i hi => absurd hi (by omega)⟩ ?_ ?_
  · rintro f s0 ⟨a, b⟩
    refine br_t (nI_le (a := 3) (b := 3) (by omega) (by omega)) ?_
    refine loop_0 (fun f r s => wY_reached_37 post (nI n) c K A B C h v F T d p g f s (nI r)) (fun r s => (∀ m, m < 32 → bt s m = true → sg_R n K A B C e m) ∧ (∀ t, t ≤ r → ∀ m, sg_pth n K A B C e t m → bt s m = true)) 24 s0 ⟨a, ?_⟩ ?_ ?_
    · intro t ht m hpt
      have : t = 0 := by omega
      subst this
      obtain ⟨h1, h2, i, hi, h3⟩ := hpt
      exact b m i hi h2 h3
    · rintro f s ⟨a, b⟩
      refine br_t (nI_le (a := 24) (b := 24) (by omega) (by omega)) (hp s fun m hm => ⟨a m (by omega), fun hR => ?_⟩)
      obtain ⟨t, ht, hp⟩ := sg_R_n hn hw hac he hR
      exact b t (by omega) m hp
    · rintro f r s hr ⟨a, b⟩ ih
      refine br_f (nI_ge (b := 24) hr (by omega)) (sg_yr46 hn hw a fun s' a' b' k' => ?_)
      rw [nI_1]
      refine ih s' ⟨a', ?_⟩
      intro t ht m hp
      cases t with
      | zero =>
        have hp0 : sg_P n K A B C e m := hp
        have := hp0.2.1
        exact b' m (by omega) (b 0 (by omega) m hp)
      | succ t =>
        obtain ⟨q, hq, hp⟩ := hp
        exact k' q m (b t (by omega) q hq) hp
  · rintro f t s ht ⟨a, b⟩ ih
    refine br_f (nI_ge (b := 3) ht (by omega)) (sg_yPt (by omega) ht (br_c (fun hneg => nm_r (nI_1 t) (ih s ⟨a, ?_⟩)) (fun hpos => sg_yPt (by omega) ht (nm_e (nm_r (nI_1 t) ?_)))))
    · intro m i hi hm hpt
      by_cases ei : i = t
      · subst ei
        rw [hpt] at hneg
        exact absurd hneg (nI_pos (by omega))
      · exact b m i (by omega) hm hpt
    · obtain ⟨m, hm, em, hP⟩ := sg_pt_P hn hw he ht hpos
      rw [em]
      refine ih _ ⟨?_, ?_⟩
      · intro m' hm' hb
        rw [sg_or1 s (by omega)] at hb
        rcases hb with hb | hb
        · exact a m' hm' hb
        · subst hb; exact sg_R_0 hP
      · intro m' i hi hm' hpt
        rw [sg_or1 s (by omega)]
        by_cases ei : i = t
        · subst ei
          rw [em, nI_eq (by omega) (by omega)] at hpt
          exact Or.inr hpt.symm
        · exact Or.inl (b m' i (by omega) hm' hpt)
end
end
section
theorem i_vc_had {k : Nat} {u : SX} {v : SY} (I : i_Rel k u v) (hk : k + 5 ≤ 2560) (v1 : Int32) : wpX_had (fun r => wpY_had (fun r' => r' = r ∧ i_Rel (k + 5) u v) v v1) u v1 := by
  have I5 := i_up I
  obtain ⟨n, o, l, c, K, A, B, C, H, V, D, T, W, U, S, O, F, d, p, g, rfl, rfl, hn, hw, hac, hS, ht⟩ := I
  unfold wpX_had wpY_had
  dsimp only
  refine sg_xThere hn (fun a ha e => br_f (by decide) ⟨pk_in a 24 (by omega) e, ?_⟩) (fun z => br_t rfl ?_)
  · subst e
    rw [nI_clamp (by omega)]
    by_cases hh : H a = 0
    · exact br_t hh (sg_yEv hn (fun hE => br_f (by decide) ⟨vp_in_nI (by omega) (by omega), br_t hh ⟨rfl, I5⟩⟩) (fun hE => br_t rfl ⟨rfl, I5⟩))
    · refine br_f hh (sg_yEv hn (fun hE => br_f (by decide) ⟨vp_in_nI (by omega) (by omega), br_f hh ⟨rfl, I5⟩⟩) (fun hE => absurd (hS.2.2.2.1 a ha ?_) hh))
      exact Classical.not_not.mp fun hc => hE ⟨a, ha, rfl, hc⟩
  · refine sg_yEv hn (fun hE => absurd ?_ z) (fun hE => br_t rfl ⟨rfl, I5⟩)
    obtain ⟨a, ha, e, _⟩ := hE
    exact ⟨a, ha, e⟩
theorem i_vc_value {k : Nat} {u : SX} {v : SY} (I : i_Rel k u v) (hk : k + 5 ≤ 2560) (v1 : Int32) : wpX_value (fun r => wpY_value (fun r' => r' = r ∧ i_Rel (k + 5) u v) v v1) u v1 := by
  have I5 := i_up I
  obtain ⟨n, o, l, c, K, A, B, C, H, V, D, T, W, U, S, O, F, d, p, g, rfl, rfl, hn, hw, hac, hS, ht⟩ := I
  unfold wpX_value wpY_value
  dsimp only
  refine sg_xThere hn (fun a ha e => br_f (by decide) ⟨pk_in a 24 (by omega) e, ?_⟩) (fun z => br_t rfl ?_)
  · exact sg_yThere hn (fun b hb eb => br_f (by decide) ⟨pk_in b 24 (by omega) eb, rfl, I5⟩) (fun z => absurd ⟨a, ha, e⟩ z)
  · exact sg_yThere hn (fun b hb eb => absurd ⟨b, hb, eb⟩ z) (fun z => br_t rfl ⟨rfl, I5⟩)
theorem i_vc_times {k : Nat} {u : SX} {v : SY} (I : i_Rel k u v) (hk : k + 5 ≤ 2560) (v1 : Int32) : wpX_times (fun r => wpY_times (fun r' => r' = r ∧ i_Rel (k + 5) u v) v v1) u v1 := by
  have I5 := i_up I
  obtain ⟨n, o, l, c, K, A, B, C, H, V, D, T, W, U, S, O, F, d, p, g, rfl, rfl, hn, hw, hac, hS, ht⟩ := I
  unfold wpX_times wpY_times
  dsimp only
  refine sg_xThere hn (fun a ha e => br_f (by decide) ⟨pk_in a 24 (by omega) e, ?_⟩) (fun z => br_t rfl ?_)
  · exact sg_yThere hn (fun b hb eb => br_f (by decide) ⟨pk_in b 24 (by omega) eb, rfl, I5⟩) (fun z => absurd ⟨a, ha, e⟩ z)
  · exact sg_yThere hn (fun b hb eb => absurd ⟨b, hb, eb⟩ z) (fun z => br_t rfl ⟨rfl, I5⟩)
theorem i_vc_sort {k : Nat} {u : SX} {v : SY} (I : i_Rel k u v) (hk : k + 5 ≤ 2560) (v1 : Int32) : wpX_sort (fun r => wpY_sort (fun r' => r' = r ∧ i_Rel (k + 5) u v) v v1) u v1 := by
  have I5 := i_up I
  obtain ⟨n, o, l, c, K, A, B, C, H, V, D, T, W, U, S, O, F, d, p, g, rfl, rfl, hn, hw, hac, hS, ht⟩ := I
  unfold wpX_sort wpY_sort
  dsimp only
  refine sg_xThere hn (fun a ha e => br_f (by decide) ?_) (fun z => br_t rfl ?_)
  · refine sg_xCe hn (fun hL => br_f (by decide) ?_) (fun hL => br_t rfl ?_)
    · exact sg_yThere hn (fun b hb eb => br_f (by decide) (sg_yCe hn (fun hL' => br_f (by decide) ⟨rfl, I5⟩) (fun hL' => absurd hL hL'))) (fun z => absurd ⟨a, ha, e⟩ z)
    · exact sg_yThere hn (fun b hb eb => br_f (by decide) (sg_yCe hn (fun hL' => absurd hL' hL) (fun hL' => br_t rfl ⟨rfl, I5⟩))) (fun z => absurd ⟨a, ha, e⟩ z)
  · exact sg_yThere hn (fun b hb eb => absurd ⟨b, hb, eb⟩ z) (fun z => br_t rfl ⟨rfl, I5⟩)
theorem i_vc_leads {k : Nat} {u : SX} {v : SY} (I : i_Rel k u v) (hk : k + 5 ≤ 2560) (v1 : Int32) (v2 : Int32) : wpX_leads (fun r => wpY_leads (fun r' => r' = r ∧ i_Rel (k + 5) u v) v v1 v2) u v1 v2 := by
  have I5 := i_up I
  obtain ⟨n, o, l, c, K, A, B, C, H, V, D, T, W, U, S, O, F, d, p, g, rfl, rfl, hn, hw, hac, hS, ht⟩ := I
  unfold wpX_leads wpY_leads
  dsimp only
  refine sg_xThere hn (fun a ha e => br_f (by decide) ?_) (fun z => br_t rfl ?_)
  · refine sg_xThere hn (fun b hb eb => br_f (by decide) ?_) (fun z => br_t rfl ?_)
    · subst e eb
      refine sg_xCome hn hw hac ha hb (fun hR => br_f (by decide) ?_) (fun hR => br_t rfl ?_)
      · refine sg_yThere hn (fun _ _ _ => br_f (by decide) (sg_yThere hn (fun _ _ _ => br_f (by decide) (sg_yReach hn hw hac ha fun s hs => br_t ?_ ⟨rfl, I5⟩)) (fun z => absurd ⟨b, hb, rfl⟩ z))) (fun z => absurd ⟨a, ha, rfl⟩ z)
        rw [sg_sh1 s (by omega)]
        exact (hs b (by omega)).mpr hR
      · refine sg_yThere hn (fun _ _ _ => br_f (by decide) (sg_yThere hn (fun _ _ _ => br_f (by decide) (sg_yReach hn hw hac ha fun s hs => br_f ?_ ⟨rfl, I5⟩)) (fun z => absurd ⟨b, hb, rfl⟩ z))) (fun z => absurd ⟨a, ha, rfl⟩ z)
        rw [sg_sh1 s (by omega)]
        exact fun hb' => hR ((hs b (by omega)).mp hb')
    · exact sg_yThere hn (fun _ _ _ => br_f (by decide) (sg_yThere hn (fun b hb eb => absurd ⟨b, hb, eb⟩ z) (fun z => br_t rfl ⟨rfl, I5⟩))) (fun z => br_t rfl ⟨rfl, I5⟩)
  · exact sg_yThere hn (fun b hb eb => absurd ⟨b, hb, eb⟩ z) (fun z => br_t rfl ⟨rfl, I5⟩)
theorem i_vc_transactions {k : Nat} {u : SX} {v : SY} (I : i_Rel k u v) (hk : k + 5 ≤ 2560) : wpX_transactions (fun r => wpY_transactions (fun r' => r' = r ∧ i_Rel (k + 5) u v) v) u := by
  have I5 := i_up I
  obtain ⟨n, o, l, c, K, A, B, C, H, V, D, T, W, U, S, O, F, d, p, g, rfl, rfl, hn, hw, hac, hS, ht⟩ := I
  exact ⟨rfl, I5⟩
theorem i_vc_level {k : Nat} {u : SX} {v : SY} (I : i_Rel k u v) (hk : k + 5 ≤ 2560) (v1 : Int32) : wpX_level (fun r u' => wpY_level (fun r' => r' = r ∧ i_Rel (k + 5) u' v) v v1) u v1 := by
  have I5 := i_up I
  obtain ⟨n, o, l, c, K, A, B, C, H, V, D, T, W, U, S, O, F, d, p, g, rfl, rfl, hn, hw, hac, hS, ht⟩ := I
  have hno : (¬ v1 = 0 ∧ ¬ v1 = 1) → wpY_level (fun r' => r' = 0 ∧ i_Rel (k + 5) (nI n, o, l, c, K, A, B, C, H, V, D, T, W, U, S, O) (nI n, c, K, A, B, C, H, V, F, T, d, p, g)) (nI n, c, K, A, B, C, H, V, F, T, d, p, g) v1 := fun z => br_f z.1 (br_f z.2 ⟨rfl, I5⟩)
  by_cases h0 : v1 < 0
  · exact br_t h0 (hno ⟨fun e => absurd (e ▸ h0) (by decide), fun e => absurd (e ▸ h0) (by decide)⟩)
  · refine br_f h0 ?_
    by_cases h1 : v1 ≤ 1
    · refine br_t h1 ?_
      have I6 : i_Rel (k + 5) (nI n, o, v1, c, K, A, B, C, H, V, D, T, W, U, S, O) (nI n, c, K, A, B, C, H, V, F, T, d, p, g) := by
        obtain ⟨s1, s2, s3, s4, s5, s6, s7, s8, s9⟩ := hS
        exact i_up ⟨n, o, v1, c, K, A, B, C, H, V, D, T, W, U, S, O, F, d, p, g, rfl, rfl, hn, hw, hac, ⟨s1, s2, s3, s4, s5, s6, s7, s8, s9⟩, ht⟩
      obtain ⟨j, hj, rfl⟩ := nI_of2 (M := 1) (n := 1) (by decide) h0 h1
      have : j = 0 ∨ j = 1 := by omega
      rcases this with e | e <;> subst e
      · exact br_t rfl ⟨rfl, I6⟩
      · exact br_f (by decide) (br_t rfl ⟨rfl, I6⟩)
    · exact br_f h1 (hno ⟨fun e => absurd (e ▸ h1) (by decide), fun e => absurd (e ▸ h1) (by decide)⟩)
theorem i_vc_fire {k : Nat} {u : SX} {v : SY} (I : i_Rel k u v) (hk : k + 5 ≤ 2560) (v1 : Int32) (v2 : Int32) : wpX_fire (fun r u' => wpY_fire (fun r' v' => r' = r ∧ i_Rel (k + 5) u' v') v v1 v2) u v1 v2 := by
  have I5 := i_up I
  obtain ⟨n, o, l, c, K, A, B, C, H, V, D, T, W, U, S, O, F, d, p, g, rfl, rfl, hn, hw, hac, hS, ht⟩ := I
  unfold wpX_fire wpY_fire
  dsimp only
  refine sg_xKind hn (fun a ha e ek => br_f (by decide) ?_) (fun z => br_t rfl ?_)
  · subst e
    have hin : vp_in (nI a) 24 := vp_in_nI (by omega) (by omega)
    rw [nI_clamp (by omega), sg_vb1]
    refine ⟨hin, nm_e ⟨hin, nm_e ?_⟩⟩
    refine sg_yThere hn (fun _ _ _ => br_f (by decide) ⟨hin, br_t ek ⟨hin, nm_e ⟨hin, nm_e ⟨rfl, ?_⟩⟩⟩⟩) (fun z => absurd ⟨a, ha, rfl⟩ z)
    obtain ⟨s1, s2, s3, s4, s5, s6, s7, s8, s9⟩ := hS
    refine i_up ⟨n, o, l, c, K, A, B, C, H, V, D, T, upd W a 1, upd U a v2, S, O, F, d, upd p a 1, upd g a v2, rfl, rfl, hn, hw, hac, ⟨s1, ?_, ?_, s4, ?_, ?_, ?_, s8, s9⟩, ht⟩
    · intro j
      by_cases e : j = a
      · subst e; exact Or.inr pk_us
      · rw [pk_un e]; exact s2 j
    · intro j
      by_cases e : j = a
      · subst e; exact Or.inr pk_us
      · rw [pk_un e]; exact s3 j
    · intro j hj hkj
      by_cases e : j = a
      · subst e; exact ⟨by rw [pk_us, pk_us], by rw [pk_us, pk_us]⟩
      · rw [pk_un e, pk_un e, pk_un e, pk_un e]; exact s5 j hj hkj
    · intro j hj hkj
      by_cases e : j = a
      · subst e; rw [ek] at hkj; exact absurd hkj (by decide)
      · rw [pk_un e]; exact s6 j hj hkj
    · intro j hj hkj
      by_cases e : j = a
      · subst e; rw [ek] at hkj; exact absurd hkj (by decide)
      · rw [pk_un e]; exact s7 j hj hkj
  · refine sg_yThere hn (fun a ha e => br_f (by decide) ⟨pk_in a 24 (by omega) e, br_f ?_ ⟨rfl, I5⟩⟩) (fun z => br_t rfl ⟨rfl, I5⟩)
    intro ek
    subst e
    rw [nI_clamp (by omega)] at ek
    exact z ⟨a, ha, rfl, ek⟩
section
variable {n k : Nat} {o l c : Int32} {K A B C H V D T W U S O h v F d p g : Nat → Int32}
theorem sg_dc_A {A' : Nat → Int32} {j : Nat} (e : A' j = A j) : sg_dc K A' B C V j = sg_dc K A B C V j := by
  unfold sg_dc
  rw [e]
theorem sg_relTie {a : Nat} {x : Int32} (hn : n ≤ 24) (hw : sg_wf n K A B C) (hS : sg_S n K A B C H V T W U S p g k) (ha : a < n) (ek : K a = 4) (hx : x = -1 ∨ sg_E K n x) (hac : sg_ac n K (upd A a x) B C) : i_Rel (k + 5) (nI n, 1, l, c, K, upd A a x, B, C, H, V, D, T, W, U, S, O) (nI n, c, K, upd A a x, B, C, H, V, F, T, d, p, g) := by
  obtain ⟨s1, s2, s3, s4, s5, s6, s7, s8, s9⟩ := hS
  refine i_up ⟨n, 1, l, c, K, upd A a x, B, C, H, V, D, T, W, U, S, O, F, d, p, g, rfl, rfl, hn, ?_, hac, ⟨s1, s2, s3, s4, s5, s6, s7, s8, ?_⟩, fun z => absurd z (by decide)⟩
  · intro j hj
    by_cases e : j = a
    · subst e
      rw [pk_us, ek, if_pos rfl]
      exact Or.inr (Or.inr (Or.inr (Or.inl ⟨rfl, hx⟩)))
    · rw [pk_un e]; exact hw j hj
  · intro j hj hd
    have e : j ≠ a := by
      intro e
      subst e
      rw [ek] at hd
      rcases hd with z | z | z <;> exact absurd z (by decide)
    rw [sg_dc_A (A := A) (pk_un e)]
    exact s9 j hj hd
end
theorem i_vc_tie {k : Nat} {u : SX} {v : SY} (I : i_Rel k u v) (hk : k + 5 ≤ 2560) (v1 : Int32) (v2 : Int32) : wpX_tie (fun r u' => wpY_tie (fun r' v' => r' = r ∧ i_Rel (k + 5) u' v') v v1 v2) u v1 v2 := by
  have I5 := i_up I
  obtain ⟨n, o, l, c, K, A, B, C, H, V, D, T, W, U, S, O, F, d, p, g, rfl, rfl, hn, hw, hac, hS, ht⟩ := I
  unfold wpX_tie wpY_tie
  dsimp only
  refine sg_xKind hn (fun a ha e ek => br_f (by decide) ?_) (fun z => br_t rfl ?_)
  · subst e
    have hin : vp_in (nI a) 24 := vp_in_nI (by omega) (by omega)
    have hcl : (nI a).toNatClampNeg = a := nI_clamp (by omega)
    have ek' : K (nI a).toNatClampNeg = 4 := by rw [hcl]; exact ek
    refine br_c (fun e1 => ⟨hin, nm_e ?_⟩) (fun n1 => ?_)
    · subst e1
      refine sg_yThere hn (fun _ _ _ => br_f (by decide) ⟨hin, br_t ek' (br_t rfl (br_t (by decide) ⟨hin, nm_e ⟨rfl, ?_⟩⟩))⟩) (fun z => absurd ⟨a, ha, rfl⟩ z)
      rw [hcl]
      exact sg_relTie hn hw hS ha ek (Or.inl rfl) (sg_ac_un ek hac)
    · refine sg_xEv hn (fun hE => br_f (by decide) ?_) (fun hE => br_t rfl ?_)
      · have hE' := hE
        obtain ⟨b, hb, eb, hc⟩ := hE
        subst eb
        refine sg_xCome hn hw hac hb ha (fun hR => br_f (by decide) ?_) (fun hR => br_t rfl ⟨hin, nm_e ?_⟩)
        · refine sg_yThere hn (fun _ _ _ => br_f (by decide) ⟨hin, br_t ek' (br_f n1 (sg_yEv hn (fun _ => br_f (by decide) (br_f (nI_pos (by omega)) (sg_yReach hn hw hac hb fun s hs => br_t ?_ ⟨rfl, I5⟩))) (fun z => absurd hE' z)))⟩) (fun z => absurd ⟨a, ha, rfl⟩ z)
          rw [sg_sh1 s (by omega)]
          exact (hs a (by omega)).mpr hR
        · refine sg_yThere hn (fun _ _ _ => br_f (by decide) ⟨hin, br_t ek' (br_f n1 (sg_yEv hn (fun _ => br_f (by decide) (br_f (nI_pos (by omega)) (sg_yReach hn hw hac hb fun s hs => br_f ?_ ⟨hin, nm_e ⟨rfl, ?_⟩⟩))) (fun z => absurd hE' z)))⟩) (fun z => absurd ⟨a, ha, rfl⟩ z)
          · rw [sg_sh1 s (by omega)]
            exact fun hb' => hR ((hs a (by omega)).mp hb')
          · rw [hcl]
            refine sg_relTie hn hw hS ha ek (Or.inr hE') (sg_ac_tie ek hac rfl (by omega) ?_ hR)
            intro e
            subst e
            exact hc (Or.inl ek)
      · exact sg_yThere hn (fun _ _ _ => br_f (by decide) ⟨hin, br_t ek' (br_f n1 (sg_yEv hn (fun z => absurd z hE) (fun _ => br_t rfl ⟨rfl, I5⟩)))⟩) (fun z => absurd ⟨a, ha, rfl⟩ z)
  · refine sg_yThere hn (fun a ha e => br_f (by decide) ⟨pk_in a 24 (by omega) e, br_f ?_ ⟨rfl, I5⟩⟩) (fun z => br_t rfl ⟨rfl, I5⟩)
    intro ek
    subst e
    rw [nI_clamp (by omega)] at ek
    exact z ⟨a, ha, rfl, ek⟩
end
section
def sg_un (K A : Nat → Int32) (m i : Nat) : Nat → Int32 := fun j => if j < i ∧ K j = 4 ∧ A j = nI m then -1 else A j
theorem sg_un_s {K A : Nat → Int32} {m i : Nat} (h1 : K i = 4) (h2 : A i = nI m) : upd (sg_un K A m i) i (-1) = sg_un K A m (i + 1) := by
  funext j
  by_cases e : j = i
  · subst e
    rw [pk_us]
    unfold sg_un
    rw [if_pos ⟨by omega, h1, h2⟩]
  · rw [pk_un e]
    unfold sg_un
    by_cases z : j < i ∧ K j = 4 ∧ A j = nI m
    · rw [if_pos z, if_pos ⟨by omega, z.2⟩]
    · rw [if_neg z, if_neg (fun y => z ⟨by omega, y.2⟩)]
theorem sg_un_n {K A : Nat → Int32} {m i : Nat} (h : ¬ (K i = 4 ∧ A i = nI m)) : sg_un K A m i = sg_un K A m (i + 1) := by
  funext j
  unfold sg_un
  by_cases z : j < i ∧ K j = 4 ∧ A j = nI m
  · rw [if_pos z, if_pos ⟨by omega, z.2⟩]
  · rw [if_neg z, if_neg]
    intro y
    by_cases e : j = i
    · subst e; exact h y.2
    · exact z ⟨by omega, y.2⟩
theorem sg_un_i {K A : Nat → Int32} {m i : Nat} : sg_un K A m i i = A i := by
  unfold sg_un
  rw [if_neg (fun y => by omega)]
theorem sg_un_0 {K A : Nat → Int32} {m : Nat} : A = sg_un K A m 0 := by
  funext j
  unfold sg_un
  rw [if_neg (fun y => by omega)]
section
variable {n k : Nat} {o l c : Int32} {K A B C H V D T W U S O h v F d p g : Nat → Int32}
theorem sg_xUn {post : SX → Prop} {m : Nat} (hn : n ≤ 24) (hp : post (nI n, o, l, c, K, sg_un K A m n, B, C, H, V, D, T, W, U, S, O)) : wpX_untieFrom post (nI n, o, l, c, K, A, B, C, H, V, D, T, W, U, S, O) (nI m) := by
  unfold wpX_untieFrom
  dsimp only
  refine loop_0 (fun f i s => wX_untieFrom_2 post (nI m) (nI n) o l c f (nI i) K s B C H V D T W U S O) (fun i s => s = sg_un K A m i) n A sg_un_0 ?_ ?_
  · rintro f s rfl
    exact br_t (nI_le (Nat.le_refl n) (by omega)) hp
  · rintro f i s hi rfl ih
    have hin : vp_in (nI i) 24 := vp_in_nI (by omega) (by omega)
    have hcl : (nI i).toNatClampNeg = i := nI_clamp (by omega)
    refine br_f (nI_ge hi (by omega)) ⟨hin, br_c (fun z => ⟨hin, br_c (fun y => ⟨hin, nm_e (nm_r (nI_1 i) ?_)⟩) (fun y => nm_r (nI_1 i) (ih _ ?_))⟩) (fun z => nm_r (nI_1 i) (ih _ ?_))⟩
    · rw [hcl] at z y ⊢
      rw [sg_un_i] at y
      exact ih _ (sg_un_s z y)
    · rw [hcl, sg_un_i] at y
      exact sg_un_n fun q => y q.2
    · rw [hcl] at z
      exact sg_un_n fun q => z q.1
theorem sg_yUn {post : Int32 → SY → Prop} (hn : n ≤ 24) (hp : post (nI n) (nI n, c, K, sg_un K A n n, B, C, h, v, F, T, d, p, g)) : ∃ f, wY_retract_21 post (nI n) c f 0 K A B C h v F T d p g := by
  refine loop_0 (fun f i s => wY_retract_21 post (nI n) c f (nI i) K s B C h v F T d p g) (fun i s => s = sg_un K A n i) n A sg_un_0 ?_ ?_
  · rintro f s rfl
    exact br_t (nI_le (Nat.le_refl n) (by omega)) hp
  · rintro f i s hi rfl ih
    have hin : vp_in (nI i) 24 := vp_in_nI (by omega) (by omega)
    have hcl : (nI i).toNatClampNeg = i := nI_clamp (by omega)
    refine br_f (nI_ge hi (by omega)) ⟨hin, br_c (fun z => ⟨hin, br_c (fun y => ⟨hin, nm_e (nm_r (nI_1 i) ?_)⟩) (fun y => nm_r (nI_1 i) (ih _ ?_))⟩) (fun z => nm_r (nI_1 i) (ih _ ?_))⟩
    · rw [hcl] at z y ⊢
      rw [sg_un_i] at y
      exact ih _ (sg_un_s z y)
    · rw [hcl, sg_un_i] at y
      exact sg_un_n fun q => y q.2
    · rw [hcl] at z
      exact sg_un_n fun q => z q.1
theorem sg_un_k {m i j : Nat} (h : K j ≠ 4) : sg_un K A m i j = A j := by
  unfold sg_un
  rw [if_neg (fun y => h y.2.1)]
theorem sg_relRet (hn : n + 1 ≤ 24) (hw : sg_wf (n + 1) K A B C) (hac : sg_ac (n + 1) K A B C) (hS : sg_S (n + 1) K A B C H V T W U S p g k) : i_Rel (k + 5) (nI n, 1, l, c, K, sg_un K A n n, B, C, H, V, D, T, W, U, S, O) (nI n, c, K, sg_un K A n n, B, C, H, V, F, T, d, p, g) := by
  obtain ⟨s1, s2, s3, s4, s5, s6, s7, s8, s9⟩ := hS
  refine i_up ⟨n, 1, l, c, K, sg_un K A n n, B, C, H, V, D, T, W, U, S, O, F, d, p, g, rfl, rfl, by omega, ?_, ?_, ⟨s1, s2, s3, fun j hj => s4 j (by omega), fun j hj => s5 j (by omega), fun j hj => s6 j (by omega), fun j hj => s7 j (by omega), s8, ?_⟩, fun z => absurd z (by decide)⟩
  · intro j hj
    have hf := hw j (by omega)
    by_cases e : K j = 4
    · rw [if_pos e] at hf ⊢
      rw [e] at hf ⊢
      refine Or.inr (Or.inr (Or.inr (Or.inl ⟨rfl, ?_⟩)))
      have hx : A j = -1 ∨ sg_E K (n + 1) (A j) := by simpa (decide := true) [sg_fit] using hf
      unfold sg_un
      by_cases z : A j = nI n
      · rw [if_pos ⟨hj, e, z⟩]; exact Or.inl rfl
      · rw [if_neg (fun y => z y.2.2)]
        rcases hx with hx | ⟨a, ha, ea, hc⟩
        · exact Or.inl hx
        · refine Or.inr ⟨a, ?_, ea, hc⟩
          have : a ≠ n := fun y => z (y ▸ ea)
          omega
    · rw [if_neg e] at hf ⊢
      rw [sg_un_k e]
      exact hf
  · refine sg_ac_sub hac ?_
    rintro j m ⟨hj, hm, i, hi, z⟩
    by_cases y : K j = 4 ∧ A j = nI n
    · have : sg_un K A n n j = -1 := by
        unfold sg_un
        rw [if_pos ⟨hj, y⟩]
      rw [this, y.1] at z
      unfold sg_pt at z
      simp (decide := true) only [if_true, if_false, ite_self] at z
      exact absurd z.symm (sg_ne1 (by omega))
    · have : sg_un K A n n j = A j := by
        unfold sg_un
        rw [if_neg (fun q => y q.2)]
      rw [this] at z
      exact ⟨by omega, hm, i, hi, z⟩
  · intro j hj hd
    have e : K j ≠ 4 := by
      intro e
      rw [e] at hd
      rcases hd with z | z | z <;> exact absurd z (by decide)
    rw [sg_dc_A (A := A) (sg_un_k e)]
    exact s9 j (by omega) hd
end
theorem i_vc_retract {k : Nat} {u : SX} {v : SY} (I : i_Rel k u v) (hk : k + 5 ≤ 2560) : wpX_retract (fun r u' => wpY_retract (fun r' v' => r' = r ∧ i_Rel (k + 5) u' v') v) u := by
  have I5 := i_up I
  obtain ⟨n, o, l, c, K, A, B, C, H, V, D, T, W, U, S, O, F, d, p, g, rfl, rfl, hn, hw, hac, hS, ht⟩ := I
  unfold wpX_retract wpY_retract
  dsimp only
  cases n with
  | zero => exact br_t rfl (br_t rfl ⟨rfl, I5⟩)
  | succ m =>
    have h0 : ¬ nI (m + 1) = 0 := nI_ne0 (by omega) (by omega)
    refine br_f h0 (nm_r (nI_pred m) (sg_xUn (by omega) ?_))
    exact br_f h0 (nm_r (nI_pred m) (sg_yUn (by omega) ⟨rfl, sg_relRet hn hw hac hS⟩))
end
section
section
variable {n k : Nat} {o l c : Int32} {K A B C H V D T W U S O h v F d p g : Nat → Int32}
theorem sg_E_in {b : Nat} {x : Int32} (hE : sg_E K b x) (hb : b ≤ 24) : vp_in x 24 := by
  obtain ⟨a, ha, e, _⟩ := hE
  exact pk_in a 24 (by omega) e
theorem sg_L_in {b : Nat} {x : Int32} (hL : sg_L K b x) (hb : b ≤ 24) : vp_in x 24 := by
  obtain ⟨a, ha, e, _⟩ := hL
  exact pk_in a 24 (by omega) e
theorem sg_E_cl {b : Nat} {x : Int32} (hE : sg_E K b x) (hb : b ≤ 24) : x.toNatClampNeg < b := by
  obtain ⟨a, ha, e, _⟩ := hE
  rw [e, nI_clamp (by omega)]
  exact ha
theorem sg_L_cl {b : Nat} {x : Int32} (hL : sg_L K b x) (hb : b ≤ 24) : x.toNatClampNeg < b := by
  obtain ⟨a, ha, e, _⟩ := hL
  rw [e, nI_clamp (by omega)]
  exact ha
theorem sg_f6 {b : Nat} {x y z : Int32} (hf : sg_fit K b 6 x y z) : sg_L K b x ∧ sg_L K b y := by simpa (decide := true) [sg_fit] using hf
theorem sg_f13 {b : Nat} {x y z : Int32} (hf : sg_fit K b 13 x y z) : sg_L K b x ∧ sg_L K b y ∧ sg_L K b z := by simpa (decide := true) [sg_fit] using hf
theorem sg_f14 {b : Nat} {x y z : Int32} (hf : sg_fit K b 14 x y z) : sg_L K b x := by simpa (decide := true) [sg_fit] using hf
theorem sg_f4 {b : Nat} {x y z : Int32} (hf : sg_fit K b 4 x y z) : x = -1 ∨ sg_E K b x := by simpa (decide := true) [sg_fit] using hf
theorem sg_f_r {b : Nat} {q x y z : Int32} (hf : sg_fit K b q x y z) : ¬ q < 0 ∧ ¬ 14 < q := by
  refine sg_fit_cases hf ?_ ?_ ?_ ?_ ?_ ?_ ?_ ?_ ?_ ?_ ?_ ?_ ?_ ?_ ?_ <;> intro e <;> subst e <;> intros <;> decide
theorem sg_xDc {post : Int32 → Prop} {j b : Nat} (hj : j < 24) (hb : b ≤ 24) (hf : sg_fit K b (K j) (A j) (B j) (C j)) (hd : sg_dv (K j)) (hp : post (sg_dc K A B C V j)) : wpX_derivedCell post (nI n, o, l, c, K, A, B, C, H, V, D, T, W, U, S, O) (nI j) := by
  unfold wpX_derivedCell
  dsimp only
  have hin : vp_in (nI j) 24 := vp_in_nI (by omega) (by omega)
  rw [nI_clamp (by omega)]
  refine ⟨hin, nm_e ⟨hin, nm_e ⟨hin, nm_e ⟨hin, nm_e ?_⟩⟩⟩⟩
  unfold sg_dc at hp
  rcases hd with e | e | e
  · rw [e] at hf hp ⊢
    obtain ⟨hx, hy⟩ := sg_f6 hf
    exact br_t rfl ⟨sg_L_in hx hb, sg_L_in hy hb, hp⟩
  · rw [e] at hf hp ⊢
    obtain ⟨hx, hy, hz⟩ := sg_f13 hf
    refine br_f (by decide) (br_t rfl ⟨sg_L_in hx hb, ?_⟩)
    rw [if_neg (by decide), if_pos rfl] at hp
    by_cases z : V (A j).toNatClampNeg = 0
    · rw [if_pos z] at hp
      exact br_t z ⟨sg_L_in hz hb, hp⟩
    · rw [if_neg z] at hp
      exact br_f z ⟨sg_L_in hy hb, hp⟩
  · rw [e] at hf hp ⊢
    have hx := sg_f14 hf
    exact br_f (by decide) (br_f (by decide) ⟨sg_L_in hx hb, hp⟩)
theorem sg_xFirst {post : Int32 → Prop} {j b : Nat} (hj : j < 24) (hb : b ≤ 24) (hf : sg_fit K b (K j) (A j) (B j) (C j)) (h4 : K j = 4 → post (B j)) (hd : sg_dv (K j) → post (sg_dc K A B C V j)) (h0 : K j ≠ 4 → ¬ sg_dv (K j) → post 0) : wpX_firstValue post (nI n, o, l, c, K, A, B, C, H, V, D, T, W, U, S, O) (nI j) := by
  unfold wpX_firstValue
  dsimp only
  have hin : vp_in (nI j) 24 := vp_in_nI (by omega) (by omega)
  rw [nI_clamp (by omega)]
  refine ⟨hin, br_c (fun e => ⟨hin, h4 e⟩) (fun n4 => ⟨hin, sg_xCk (fun hc => br_f (by decide) ?_) (fun hc => br_t rfl (h0 n4 ?_))⟩)⟩
  · have hd' : sg_dv (K j) := by
      rcases hc with e | e | e | e
      · exact absurd e n4
      · exact Or.inl e
      · exact Or.inr (Or.inl e)
      · exact Or.inr (Or.inr e)
    exact sg_xDc hj hb hf hd' (hd hd')
  · intro hd
    rcases hd with e | e | e
    · exact hc (Or.inr (Or.inl e))
    · exact hc (Or.inr (Or.inr (Or.inl e)))
    · exact hc (Or.inr (Or.inr (Or.inr e)))
theorem sg_dc_V {j b : Nat} {R : Nat → Int32} (hb : b ≤ 24) (hf : sg_fit K b (K j) (A j) (B j) (C j)) (hd : sg_dv (K j)) (he : ∀ a, a < b → V a = R a) : sg_dc K A B C V j = sg_dc K A B C R j := by
  unfold sg_dc
  rcases hd with e | e | e
  · rw [e] at hf ⊢
    obtain ⟨hx, hy⟩ := sg_f6 hf
    rw [if_pos rfl, if_pos rfl, he _ (sg_L_cl hx hb), he _ (sg_L_cl hy hb)]
  · rw [e] at hf ⊢
    obtain ⟨hx, hy, hz⟩ := sg_f13 hf
    rw [he _ (sg_L_cl hx hb), he _ (sg_L_cl hy hb), he _ (sg_L_cl hz hb)]
  · rw [e] at hf ⊢
    have hx := sg_f14 hf
    rw [if_neg (by decide), if_neg (by decide), if_neg (by decide), if_neg (by decide), he _ (sg_L_cl hx hb)]
theorem sg_yr35 {post : SY → Prop} {J : Int32 → (Nat → Int32) → (Nat → Int32) → (Nat → Int32) → (Nat → Int32) → (Nat → Int32) → (Nat → Int32) → (Nat → Int32) → (Nat → Int32) → (Nat → Int32) → (Nat → Int32) → (Nat → Int32) → Prop} {i b : Nat} (hi : i < 24) (hb : b ≤ 24) (hf : sg_fit K b (K i) (A i) (B i) (C i)) (hd : sg_dv (K i)) (hJ : J (nI (i + 1)) K A B C h (upd v i (sg_dc K A B C v i)) F T d p g) : wY_refresh_35 post J (nI i) (K i) (nI n) c K A B C h v F T d p g := by
  unfold wY_refresh_35 wY_refresh_74 wY_refresh_95 wpY_made
  dsimp only
  have hin : vp_in (nI i) 24 := vp_in_nI (by omega) (by omega)
  rw [nI_clamp (by omega)]
  have hd0 := hd
  rcases hd with e | e | e
  · have hdc : sg_dc K A B C v i = v (A i).toNatClampNeg + v (B i).toNatClampNeg := by unfold sg_dc; rw [if_pos e]
    rw [hdc] at hJ
    rw [e] at hf ⊢
    obtain ⟨hx, hy⟩ := sg_f6 hf
    exact ⟨hin, sg_L_in hx hb, br_f (by decide) ⟨hin, sg_L_in hy hb, br_f (by decide) ⟨hin, br_t rfl ⟨hin, nm_e (nm_r (nI_1 i) hJ)⟩⟩⟩⟩
  · rw [e] at hf ⊢
    obtain ⟨hx, hy, hz⟩ := sg_f13 hf
    refine ⟨hin, sg_L_in hx hb, br_f (by decide) ⟨hin, sg_L_in hy hb, br_t rfl ⟨hin, sg_L_in hz hb, hin, br_f (by decide) ⟨hin, br_t rfl ?_⟩⟩⟩⟩
    have hdc : sg_dc K A B C v i = if v (A i).toNatClampNeg = 0 then v (C i).toNatClampNeg else v (B i).toNatClampNeg := by unfold sg_dc; rw [e, if_neg (by decide), if_pos rfl]
    rw [hdc] at hJ
    by_cases z : v (A i).toNatClampNeg = 0
    · rw [if_pos z] at hJ
      exact br_t z ⟨hin, nm_e (nm_r (nI_1 i) hJ)⟩
    · rw [if_neg z] at hJ
      exact br_f z ⟨hin, nm_e (nm_r (nI_1 i) hJ)⟩
  · have hdc : sg_dc K A B C v i = v (A i).toNatClampNeg * B i + C i := by unfold sg_dc; rw [e, if_neg (by decide), if_neg (by decide)]
    rw [hdc] at hJ
    rw [e] at hf ⊢
    have hx := sg_f14 hf
    exact ⟨hin, sg_L_in hx hb, br_t rfl (br_f (by decide) ⟨hin, br_f (by decide) ⟨hin, br_f (by decide) ⟨hin, hin, hin, nm_e (nm_r (nI_1 i) hJ)⟩⟩⟩)⟩
theorem sg_yRefresh {post : SY → Prop} {R : Nat → Int32} (hn : n ≤ 24) (hw : sg_wf n K A B C) (hR : ∀ j, j < n → sg_dv (K j) → R j = sg_dc K A B C R j) (hv : ∀ j, ¬ (j < n ∧ sg_dv (K j)) → v j = R j) (hp : post (nI n, c, K, A, B, C, h, R, F, T, d, p, g)) : wpY_refresh post (nI n, c, K, A, B, C, h, v, F, T, d, p, g) := by
  unfold wpY_refresh
  dsimp only
  refine loop_0 (fun f i s => wY_refresh_2 post (nI n) c f (nI i) K A B C h s F T d p g) (fun i s => (∀ j, j < i → s j = R j) ∧ (∀ j, i ≤ j → s j = v j)) n v ⟨fun j hj => absurd hj (by omega), fun _ _ => rfl⟩ ?_ ?_
  · rintro f s ⟨a, b⟩
    have e : s = R := by
      funext j
      by_cases hj : j < n
      · exact a j hj
      · rw [b j (by omega)]
        exact hv j fun z => hj z.1
    subst e
    exact br_t (nI_le (Nat.le_refl n) (by omega)) hp
  · rintro f i s hi ⟨a, b⟩ ih
    have hin : vp_in (nI i) 24 := vp_in_nI (by omega) (by omega)
    have hcl : (nI i).toNatClampNeg = i := nI_clamp (by omega)
    have hder : sg_dv (K i) → wY_refresh_35 post (wY_refresh_2 post (nI n) c f) (nI i) (K i) (nI n) c K A B C h s F T d p g := by
      intro hd
      have hf := hw i hi
      have n4 : K i ≠ 4 := by
        intro e
        rw [e] at hd
        rcases hd with z | z | z <;> exact absurd z (by decide)
      rw [if_neg n4] at hf
      refine sg_yr35 (by omega) (b := i) (by omega) hf hd (ih _ ⟨?_, ?_⟩)
      · intro j hj
        by_cases e : j = i
        · subst e
          rw [pk_us, hR j hi hd]
          exact sg_dc_V (by omega) hf hd a
        · rw [pk_un e]
          exact a j (by omega)
      · intro j hj
        rw [pk_un (by omega)]
        exact b j (by omega)
    refine br_f (nI_ge hi (by omega)) ⟨hin, ?_⟩
    rw [hcl]
    refine nm_e (br_c (fun e => hder (Or.inl e)) (fun n6 => br_c (fun e => hder (Or.inr (Or.inl e))) (fun n13 => br_c (fun e => hder (Or.inr (Or.inr e))) (fun n14 => nm_r (nI_1 i) (ih s ⟨?_, fun j hj => b j (by omega)⟩)))))
    intro j hj
    by_cases e : j = i
    · subst e
      rw [b j (by omega)]
      refine hv j fun z => ?_
      rcases z.2 with z | z | z
      · exact n6 z
      · exact n13 z
      · exact n14 z
    · exact a j (by omega)
/-- the state with a new node -/
theorem sg_relNode {q x y z r : Int32} (hn : n < 24) (hw : sg_wf n K A B C) (hac : sg_ac n K A B C) (hS : sg_S n K A B C H V T W U S p g k) (hf : sg_fit K n q x y z) (hr : sg_dv q → r = sg_dc (upd K n q) (upd A n x) (upd B n y) (upd C n z) V n) :
    sg_wf (n + 1) (upd K n q) (upd A n x) (upd B n y) (upd C n z) ∧ (∀ j, j < n + 1 → sg_dv (upd K n q j) → upd V n r j = sg_dc (upd K n q) (upd A n x) (upd B n y) (upd C n z) (upd V n r) j) ∧ i_Rel (k + 5) (nI (n + 1), 1, l, c, upd K n q, upd A n x, upd B n y, upd C n z, upd H n 0, upd V n r, D, upd T n 0, upd W n 0, upd U n 0, upd S n 0, O) (nI (n + 1), c, upd K n q, upd A n x, upd B n y, upd C n z, upd H n 0, upd V n r, F, upd T n 0, d, upd p n 0, upd g n 0) := by
  have hK : ∀ b, b ≤ n → ∀ j, j < b → upd K n q j = K j := fun b hb j hj => pk_un (by omega)
  have hf' : sg_fit (upd K n q) n q x y z := sg_fit_cg (hK n (by omega)) hf
  have hdiff : ∀ {w : Int32}, sg_dv w → w ≠ 4 := by
    intro w hd e
    rw [e] at hd
    rcases hd with z | z | z <;> exact absurd z (by decide)
  have hW : sg_wf (n + 1) (upd K n q) (upd A n x) (upd B n y) (upd C n z) := by
    intro j hj
    by_cases e : j = n
    · subst e
      rw [pk_us, pk_us, pk_us, pk_us]
      refine sg_fit_le hf' ?_
      split <;> omega
    · rw [pk_un e, pk_un e, pk_un e, pk_un e]
      have h1 := hw j (by omega)
      by_cases e4 : K j = 4
      · rw [if_pos e4] at h1 ⊢
        exact sg_fit_le (sg_fit_cg (hK n (by omega)) h1) (by omega)
      · rw [if_neg e4] at h1 ⊢
        exact sg_fit_cg (hK j (by omega)) h1
  have hD : ∀ j, j < n + 1 → sg_dv (upd K n q j) → upd V n r j = sg_dc (upd K n q) (upd A n x) (upd B n y) (upd C n z) (upd V n r) j := by
    intro j hj hd
    have h1 := hW j hj
    rw [if_neg (hdiff hd)] at h1
    rw [← sg_dc_V (V := V) (b := j) (by omega) h1 hd (fun a ha => (pk_un (by omega)).symm)]
    by_cases e : j = n
    · subst e
      rw [pk_us] at hd ⊢
      exact hr hd
    · rw [pk_un e] at hd ⊢
      have h2 : sg_dc (upd K n q) (upd A n x) (upd B n y) (upd C n z) V j = sg_dc K A B C V j := by
        unfold sg_dc
        rw [pk_un e, pk_un e, pk_un e, pk_un e]
      rw [h2]
      exact hS.2.2.2.2.2.2.2.2 j (by omega) hd
  refine ⟨hW, hD, ?_⟩
  obtain ⟨s1, s2, s3, s4, s5, s6, s7, s8, s9⟩ := hS
  refine i_up ⟨n + 1, 1, l, c, _, _, _, _, _, _, D, _, _, _, _, O, F, d, _, _, rfl, rfl, by omega, hW, ?_, ⟨?_, ?_, ?_, ?_, ?_, ?_, ?_, ?_, hD⟩, fun z => absurd z (by decide)⟩
  · obtain ⟨rk, h1, h2⟩ := sg_ac_b (by omega) hw hac
    refine ⟨fun j => if j = n then n else rk j, ?_⟩
    rintro j m ⟨hj, hm, i, hi, e⟩
    dsimp only
    by_cases ej : j = n
    · subst ej
      rw [pk_us, pk_us, pk_us, pk_us] at e
      rw [if_pos rfl]
      rcases sg_pt_r hf' i with z | ⟨a, ha, z⟩
      · exact absurd (e.symm.trans z) (sg_ne1 (by omega))
      · rw [e, nI_eq (by omega) (by omega)] at z
        subst z
        rw [if_neg (by omega)]
        exact h1 m ha
    · rw [pk_un ej, pk_un ej, pk_un ej, pk_un ej] at e
      have hP : sg_P n K A B C j m := ⟨by omega, hm, i, hi, e⟩
      have := sg_P_lt (by omega) hw hP
      rw [if_neg ej, if_neg (by omega)]
      exact h2 j m hP
  · intro j
    by_cases e : j = n
    · subst e; exact Or.inl pk_us
    · rw [pk_un e]; exact s1 j
  · intro j
    by_cases e : j = n
    · subst e; exact Or.inl pk_us
    · rw [pk_un e]; exact s2 j
  · intro j
    by_cases e : j = n
    · subst e; exact Or.inl pk_us
    · rw [pk_un e]; exact s3 j
  · intro j hj
    by_cases e : j = n
    · subst e; exact fun _ => pk_us
    · rw [pk_un e, pk_un e]; exact s4 j (by omega)
  · intro j hj
    by_cases e : j = n
    · subst e; exact fun _ => ⟨by rw [pk_us, pk_us], by rw [pk_us, pk_us]⟩
    · rw [pk_un e, pk_un e, pk_un e, pk_un e, pk_un e]; exact s5 j (by omega)
  · intro j hj
    by_cases e : j = n
    · subst e; exact fun _ => by rw [pk_us, pk_us]
    · rw [pk_un e, pk_un e, pk_un e]; exact s6 j (by omega)
  · intro j hj
    by_cases e : j = n
    · subst e; intro _; rw [pk_us, pk_us]
    · rw [pk_un e, pk_un e, pk_un e]; exact s7 j (by omega)
  · intro j
    by_cases e : j = n
    · subst e; exact ⟨0, by omega, pk_us⟩
    · rw [pk_un e]; exact s8 j
/-- the reference's node, where the operands fit -/
theorem sg_yNode {post : Int32 → SY → Prop} {q x y z r : Int32} (hn : n < 24) (hw : sg_wf (n + 1) (upd K n q) (upd A n x) (upd B n y) (upd C n z)) (hf : sg_fit K n q x y z)
    (hD : ∀ j, j < n + 1 → sg_dv (upd K n q j) → upd v n r j = sg_dc (upd K n q) (upd A n x) (upd B n y) (upd C n z) (upd v n r) j)
    (h4 : q = 4 → r = y) (h0 : q ≠ 4 → ¬ sg_dv q → r = 0)
    (hp : post (nI n) (nI (n + 1), c, upd K n q, upd A n x, upd B n y, upd C n z, upd h n 0, upd v n r, F, upd T n 0, d, upd p n 0, upd g n 0)) : wpY_node post (nI n, c, K, A, B, C, h, v, F, T, d, p, g) q x y z := by
  unfold wpY_node
  dsimp only
  have hin : vp_in (nI n) 24 := vp_in_nI (by omega) (by omega)
  have hcl : (nI n).toNatClampNeg = n := nI_clamp (by omega)
  have hne : ¬ nI n = 24 := fun e => by
    have := (nI_eq (a := n) (b := 24) (by omega) (by omega)).mp e
    omega
  obtain ⟨hq1, hq2⟩ := sg_f_r hf
  refine br_f hne (br_f hq1 (br_f hq2 (sg_yFit (by omega) hq1 hq2 (fun _ => br_f (by decide) ?_) (fun z => absurd hf z))))
  rw [hcl, sg_vb0]
  have h105 : ∀ r0 : Int32, (¬ sg_dv q → r0 = r) → wY_node_105 post r0 (nI n) (nI n) c (upd K n q) (upd A n x) (upd B n y) (upd C n z) (upd h n 0) v F T d p g := by
    intro r0 hr0
    unfold wY_node_105
    rw [hcl, sg_vb0]
    refine ⟨hin, nm_e ⟨hin, nm_e ⟨hin, nm_e ⟨hin, nm_e (nm_r (nI_1 n) ?_)⟩⟩⟩⟩
    refine sg_yRefresh (n := n + 1) (R := upd v n r) (by omega) hw hD ?_ ?_
    · intro j hj
      by_cases e : j = n
      · subst e
        rw [pk_us, pk_us]
        rw [pk_us] at hj
        exact hr0 fun z => hj ⟨by omega, z⟩
      · rw [pk_un e, pk_un e]
    · show post (nI (n + 1) - 1) _
      rw [nI_pred]
      exact hp
  refine ⟨hin, nm_e ⟨hin, nm_e ⟨hin, nm_e ⟨hin, nm_e ⟨hin, nm_e (br_c (fun e => h105 _ ?_) (fun ne => h105 _ ?_))⟩⟩⟩⟩⟩
  · exact fun _ => (h4 e).symm
  · exact fun nd => (h0 ne nd).symm
end
theorem i_vc_node {k : Nat} {u : SX} {v : SY} (I : i_Rel k u v) (hk : k + 5 ≤ 2560) (v1 : Int32) (v2 : Int32) (v3 : Int32) (v4 : Int32) : wpX_node (fun r u' => wpY_node (fun r' v' => r' = r ∧ i_Rel (k + 5) u' v') v v1 v2 v3 v4) u v1 v2 v3 v4 := by
  have I5 := i_up I
  obtain ⟨n, o, l, c, K, A, B, C, H, V, D, T, W, U, S, O, F, d, p, g, rfl, rfl, hn, hw, hac, hS, ht⟩ := I
  unfold wpX_node
  dsimp only
  by_cases hfull : n < 24
  · have hin : vp_in (nI n) 24 := vp_in_nI (by omega) (by omega)
    have hcl : (nI n).toNatClampNeg = n := nI_clamp (by omega)
    refine br_t (nI_lt (b := 24) hfull (by omega)) (sg_xFit hn (fun hf => br_f (by decide) ?_) (fun hf => br_t rfl ?_))
    · rw [hcl]
      refine ⟨hin, nm_e ⟨hin, nm_e ⟨hin, nm_e ⟨hin, nm_e ?_⟩⟩⟩⟩
      unfold wpX_forgetPast
      dsimp only
      rw [hcl, sg_vb0]
      refine ⟨hin, nm_e ⟨hin, nm_e ⟨hin, nm_e ⟨hin, nm_e ⟨hin, nm_e ?_⟩⟩⟩⟩⟩
      have hf' : sg_fit (upd K n v1) n (upd K n v1 n) (upd A n v2 n) (upd B n v3 n) (upd C n v4 n) := by
        rw [pk_us, pk_us, pk_us, pk_us]
        exact sg_fit_cg (fun j hj => pk_un (by omega)) hf
      have fin : ∀ r : Int32, (v1 = 4 → r = v3) → (sg_dv v1 → r = sg_dc (upd K n v1) (upd A n v2) (upd B n v3) (upd C n v4) V n) → (v1 ≠ 4 → ¬ sg_dv v1 → r = 0) → wpY_node (fun r' v' => r' = nI n ∧ i_Rel (k + 5) (nI (n + 1), 1, l, c, upd K n v1, upd A n v2, upd B n v3, upd C n v4, upd H n 0, upd V n r, D, upd T n 0, upd W n 0, upd U n 0, upd S n 0, O) v') (nI n, c, K, A, B, C, H, V, F, T, d, p, g) v1 v2 v3 v4 := by
        intro r r4 rd r0
        obtain ⟨q1, q2, q3⟩ := sg_relNode (l := l) (c := c) (D := D) (O := O) (F := F) (d := d) (r := r) hfull hw hac hS hf rd
        exact sg_yNode hfull q1 hf q2 r4 r0 ⟨rfl, q3⟩
      refine sg_xFirst (b := n) (by omega) hn hf' (fun e => ?_) (fun e => ?_) (fun ne nd => ?_)
      · rw [pk_us] at e
        rw [pk_us]
        refine ⟨hin, nm_e (nm_r (nI_1 n) (fin v3 (fun _ => rfl) (fun hd => ?_) (fun ne => absurd e ne)))⟩
        rw [e] at hd
        rcases hd with z | z | z <;> exact absurd z (by decide)
      · rw [pk_us] at e
        refine ⟨hin, nm_e (nm_r (nI_1 n) (fin _ (fun e4 => ?_) (fun _ => rfl) (fun _ nd => absurd e nd)))⟩
        rw [e4] at e
        rcases e with z | z | z <;> exact absurd z (by decide)
      · rw [pk_us] at ne nd
        exact ⟨hin, nm_e (nm_r (nI_1 n) (fin 0 (fun e => absurd e ne) (fun e => absurd e nd) (fun _ _ => rfl)))⟩
    · unfold wpY_node
      dsimp only
      have hne : ¬ nI n = 24 := fun e => by
        have := (nI_eq (a := n) (b := 24) (by omega) (by omega)).mp e
        omega
      refine br_f hne (br_c (fun _ => ⟨rfl, I5⟩) (fun hq1 => br_c (fun _ => ⟨rfl, I5⟩) (fun hq2 => sg_yFit hn hq1 hq2 (fun z => absurd z hf) (fun _ => br_t rfl ⟨rfl, I5⟩))))
  · have e : n = 24 := by omega
    subst e
    exact br_f (by decide) (br_t rfl ⟨rfl, I5⟩)
end
section
/-! arrays patched below i -/
def sg_pw (f g : Nat → Int32) (i : Nat) : Nat → Int32 := fun j => if j < i then f j else g j
theorem sg_pw_s {f g : Nat → Int32} {i : Nat} {x : Int32} (h : x = f i) : upd (sg_pw f g i) i x = sg_pw f g (i + 1) := by
  funext j
  unfold sg_pw
  by_cases e : j = i
  · subst e
    rw [pk_us, if_pos (by omega), h]
  · rw [pk_un e]
    by_cases z : j < i
    · rw [if_pos z, if_pos (by omega)]
    · rw [if_neg z, if_neg (by omega)]
theorem sg_pw_n {f g : Nat → Int32} {i : Nat} (h : f i = g i) : sg_pw f g i = sg_pw f g (i + 1) := by
  funext j
  unfold sg_pw
  by_cases z : j < i
  · rw [if_pos z, if_pos (by omega)]
  · rw [if_neg z]
    by_cases e : j = i
    · subst e; rw [if_pos (by omega), h]
    · rw [if_neg (by omega)]
theorem sg_pw_i {f g : Nat → Int32} {i : Nat} : sg_pw f g i i = g i := if_neg (by omega)
theorem sg_pw_0 {f g : Nat → Int32} : g = sg_pw f g 0 := by
  funext j
  exact (if_neg (by omega)).symm
theorem sg_pw_lt {f g : Nat → Int32} {i j : Nat} (h : j < i) : sg_pw f g i j = f j := if_pos h
theorem sg_pw_ge {f g : Nat → Int32} {i j : Nat} (h : i ≤ j) : sg_pw f g i j = g j := if_neg (by omega)
section
variable {n k : Nat} {o l c : Int32} {K A B C H V D T W U S O h v F d p g : Nat → Int32}
theorem sg_f1 {b : Nat} {q x y z : Int32} (hq : q = 1 ∨ q = 2 ∨ q = 8 ∨ q = 11 ∨ q = 12) (hf : sg_fit K b q x y z) : sg_E K b x := by
  rcases hq with e | e | e | e | e <;> subst e <;> simpa (decide := true) [sg_fit] using hf
/-! which nodes are parts -/
theorem sg_P_x {j : Nat} (hj : j < n) (h0 : K j ≠ 0) (h10 : K j ≠ 10) (h11 : K j ≠ 11) {a : Nat} (ha : a < 24) (e : A j = nI a) : sg_P n K A B C j a := by
  refine ⟨hj, ha, 0, by omega, ?_⟩
  unfold sg_pt
  rw [if_neg h0, if_neg h11, if_neg h10, if_pos rfl, e]
theorem sg_P_y {j : Nat} (hj : j < n) (hk : K j = 3 ∨ K j = 6 ∨ K j = 13) {a : Nat} (ha : a < 24) (e : B j = nI a) : sg_P n K A B C j a := by
  refine ⟨hj, ha, 1, by omega, ?_⟩
  unfold sg_pt
  rcases hk with z | z | z <;> rw [z] <;> simp (decide := true) only [if_true, if_false, e]
theorem sg_P_z {j : Nat} (hj : j < n) (hk : K j = 13) {a : Nat} (ha : a < 24) (e : C j = nI a) : sg_P n K A B C j a := by
  refine ⟨hj, ha, 2, by omega, ?_⟩
  unfold sg_pt
  rw [hk]
  simp (decide := true) only [if_true, if_false, e]
theorem sg_P_10 {j : Nat} (hj : j < n) (hk : K j = 10) {a : Nat} (ha : a < 24) (e : B j = nI a ∨ C j = nI a) : sg_P n K A B C j a := by
  rcases e with e | e
  · refine ⟨hj, ha, 0, by omega, ?_⟩
    unfold sg_pt
    rw [hk]
    simp (decide := true) only [if_true, if_false, e]
  · refine ⟨hj, ha, 1, by omega, ?_⟩
    unfold sg_pt
    rw [hk]
    simp (decide := true) only [if_true, if_false, e]
/-- what a node's values rest on -/
theorem sg_hv_cg {j : Nat} {H1 H2 V1 V2 Z1 Z2 wt1 wt2 on1 on2 wv1 wv2 cs1 cs2 : Nat → Int32} (hn : n ≤ 24) (hj : j < n) (hw : sg_wf n K A B C)
    (hH : ∀ m, sg_P n K A B C j m → ¬ sg_ce (K m) → H1 m = H2 m) (hV : ∀ m, sg_P n K A B C j m → V1 m = V2 m) (hZ : ∀ m, m < n → sg_ce (K m) → Z1 m = Z2 m)
    (hwt : K j = 0 ∨ K j = 11 → wt1 j = wt2 j) (hwv : K j = 0 ∨ K j = 11 → wv1 j = wv2 j) (hcs : K j = 8 → cs1 j = cs2 j) (hon : K j = 12 → (on1 j = 0 ↔ on2 j = 0)) :
    sg_h K A B H1 V1 Z1 wt1 on1 C j = sg_h K A B H2 V2 Z2 wt2 on2 C j ∧ sg_v K A B H1 V1 Z1 wt1 on1 wv1 cs1 C j = sg_v K A B H2 V2 Z2 wt2 on2 wv2 cs2 C j := by
  have hf := sg_wf_n hw hj
  have cl : ∀ a, a < n → (nI a).toNatClampNeg = a := fun a ha => nI_clamp (by omega)
  refine sg_fit_cases hf ?_ ?_ ?_ ?_ ?_ ?_ ?_ ?_ ?_ ?_ ?_ ?_ ?_ ?_ ?_ <;> intro e
  · unfold sg_v sg_h sg_w
    simp (decide := true) only [e, if_true, if_false, hwt (Or.inl e), hwv (Or.inl e), and_self]
  · rintro ⟨a, ha, ea, hc⟩
    have hP : sg_P n K A B C j a := sg_P_x hj (by rw [e]; decide) (by rw [e]; decide) (by rw [e]; decide) (by omega) ea
    unfold sg_v sg_h sg_w
    simp (decide := true) only [e, if_true, if_false, ea, cl a ha, hH a hP hc, hV a hP, and_self]
  · rintro ⟨a, ha, ea, hc⟩
    have hP : sg_P n K A B C j a := sg_P_x hj (by rw [e]; decide) (by rw [e]; decide) (by rw [e]; decide) (by omega) ea
    unfold sg_v sg_h sg_w
    simp (decide := true) only [e, if_true, if_false, ea, cl a ha, hH a hP hc, hV a hP, and_self]
  · rintro ⟨a, ha, ea, hc⟩ ⟨b, hb, eb, hc'⟩
    have hP : sg_P n K A B C j a := sg_P_x hj (by rw [e]; decide) (by rw [e]; decide) (by rw [e]; decide) (by omega) ea
    have hQ : sg_P n K A B C j b := sg_P_y hj (by rw [e]; decide) (by omega) eb
    unfold sg_v sg_h sg_w
    simp (decide := true) only [e, if_true, if_false, ea, eb, cl a ha, cl b hb, hH a hP hc, hV a hP, hH b hQ hc', hV b hQ, and_self]
  · rintro (ea | ⟨a, ha, ea, hc⟩)
    · unfold sg_v sg_h sg_w
      simp (decide := true) only [e, if_true, if_false, ea, hZ j hj (Or.inl e), and_self]
    · have hP : sg_P n K A B C j a := sg_P_x hj (by rw [e]; decide) (by rw [e]; decide) (by rw [e]; decide) (by omega) ea
      unfold sg_v sg_h sg_w
      simp (decide := true) only [e, if_true, if_false, ea, cl a ha, hH a hP hc, hV a hP, hZ j hj (Or.inl e), and_self]
  · rintro ⟨a, ha, ea, hc⟩ ⟨b, hb, eb, hc'⟩
    have hP : sg_P n K A B C j a := sg_P_x hj (by rw [e]; decide) (by rw [e]; decide) (by rw [e]; decide) (by omega) ea
    unfold sg_v sg_h sg_w
    simp (decide := true) only [e, if_true, if_false, ea, eb, cl a ha, cl b hb, hH a hP hc, hV a hP, hZ b hb hc', and_self]
  · rintro ⟨a, ha, ea, hc⟩ ⟨b, hb, eb, hc'⟩
    have hP : sg_P n K A B C j a := sg_P_x hj (by rw [e]; decide) (by rw [e]; decide) (by rw [e]; decide) (by omega) ea
    have hQ : sg_P n K A B C j b := sg_P_y hj (by rw [e]; decide) (by omega) eb
    unfold sg_v sg_h sg_w sg_dc
    simp (decide := true) only [e, if_true, if_false, ea, eb, cl a ha, cl b hb, hV a hP, hV b hQ, and_self]
  · rintro ⟨a, ha, ea, hc⟩ ⟨b, hb, eb, hc'⟩
    have hP : sg_P n K A B C j a := sg_P_x hj (by rw [e]; decide) (by rw [e]; decide) (by rw [e]; decide) (by omega) ea
    unfold sg_v sg_h sg_w
    simp (decide := true) only [e, if_true, if_false, ea, eb, cl a ha, cl b hb, hH a hP hc, hV a hP, hZ b hb hc', and_self]
  · rintro ⟨a, ha, ea, hc⟩
    have hP : sg_P n K A B C j a := sg_P_x hj (by rw [e]; decide) (by rw [e]; decide) (by rw [e]; decide) (by omega) ea
    unfold sg_v sg_h sg_w
    simp (decide := true) only [e, if_true, if_false, ea, cl a ha, hH a hP hc, hV a hP, hcs e, and_self]
  · rintro ⟨a, ha, ea, hc⟩
    have hP : sg_P n K A B C j a := sg_P_x hj (by rw [e]; decide) (by rw [e]; decide) (by rw [e]; decide) (by omega) ea
    unfold sg_v sg_h sg_w
    simp (decide := true) only [e, if_true, if_false, ea, cl a ha, hV a hP, hZ a ha hc, and_self]
  · rintro ⟨a, ha, ea, hc⟩ ⟨b, hb, eb, hc'⟩ ⟨m, hm, em, hc''⟩
    have hP : sg_P n K A B C j b := sg_P_10 hj e (by omega) (Or.inl eb)
    have hQ : sg_P n K A B C j m := sg_P_10 hj e (by omega) (Or.inr em)
    unfold sg_v sg_h sg_w
    simp (decide := true) only [e, if_true, if_false, ea, eb, em, cl a ha, cl b hb, cl m hm, hH b hP hc', hV b hP, hH m hQ hc'', hV m hQ, hZ a ha hc, and_self]
  · intro _
    unfold sg_v sg_h sg_w
    simp (decide := true) only [e, if_true, if_false, hwt (Or.inr e), hwv (Or.inr e), and_self]
  · rintro ⟨a, ha, ea, hc⟩
    have hP : sg_P n K A B C j a := sg_P_x hj (by rw [e]; decide) (by rw [e]; decide) (by rw [e]; decide) (by omega) ea
    unfold sg_v sg_h sg_w
    simp (decide := true) only [e, if_true, if_false, ea, cl a ha, hH a hP hc, hV a hP, hon e, and_self]
  · rintro ⟨a, ha, ea, hc⟩ ⟨b, hb, eb, hc'⟩ ⟨m, hm, em, hc''⟩
    have hP : sg_P n K A B C j a := sg_P_x hj (by rw [e]; decide) (by rw [e]; decide) (by rw [e]; decide) (by omega) ea
    have hQ : sg_P n K A B C j b := sg_P_y hj (by rw [e]; decide) (by omega) eb
    have hR : sg_P n K A B C j m := sg_P_z hj e (by omega) em
    unfold sg_v sg_h sg_w sg_dc
    simp (decide := true) only [e, if_true, if_false, ea, eb, em, cl a ha, cl b hb, cl m hm, hV a hP, hV b hQ, hV m hR, and_self]
  · rintro ⟨a, ha, ea, hc⟩
    have hP : sg_P n K A B C j a := sg_P_x hj (by rw [e]; decide) (by rw [e]; decide) (by rw [e]; decide) (by omega) ea
    unfold sg_v sg_h sg_w sg_dc
    simp (decide := true) only [e, if_true, if_false, ea, cl a ha, hV a hP, and_self]
theorem sg_i01 {q : Prop} [Decidable q] {x y : Int32} (hx : x = 0 ∨ x = 1) (hy : y = 0 ∨ y = 1) : (if q then x else y) = 0 ∨ (if q then x else y) = 1 := by
  by_cases hq : q
  · rw [if_pos hq]; exact hx
  · rw [if_neg hq]; exact hy
theorem sg_h_01 {Z wt on : Nat → Int32} {j : Nat} (hH : ∀ j, H j = 0 ∨ H j = 1) (hW : ∀ j, wt j = 0 ∨ wt j = 1) : sg_h K A B H V Z wt on C j = 0 ∨ sg_h K A B H V Z wt on C j = 1 := by
  unfold sg_h
  repeat' (first | exact Or.inl rfl | exact Or.inr rfl | exact hH _ | exact hW _ | refine sg_i01 ?_ ?_)
theorem sg_h_ce {Z wt on : Nat → Int32} {j : Nat} (hc : sg_ce (K j)) : sg_h K A B H V Z wt on C j = 0 := by
  unfold sg_h
  rcases hc with e | e | e | e <;> simp (decide := true) only [e, if_true, if_false]
/-! X: one node worked out -/
theorem sg_xHeld {post : Int32 → Prop} {j : Nat} (hn : n ≤ 24) (hj : j < n) (hx : A j = -1 ∨ sg_E K n (A j)) (hp : post (if A j = -1 then D j else if H (A j).toNatClampNeg = 0 then D j else V (A j).toNatClampNeg)) : wpX_heldValue post (nI n, o, l, c, K, A, B, C, H, V, D, T, W, U, S, O) (nI j) := by
  unfold wpX_heldValue
  dsimp only
  have hin : vp_in (nI j) 24 := vp_in_nI (by omega) (by omega)
  rw [nI_clamp (by omega)]
  refine ⟨hin, nm_e ?_⟩
  by_cases z : A j = -1
  · rw [if_pos z] at hp
    exact br_t z ⟨hin, hp⟩
  · rw [if_neg z] at hp
    have hE := hx.resolve_left z
    refine br_f z ⟨sg_E_in hE hn, ?_⟩
    by_cases y : H (A j).toNatClampNeg = 0
    · rw [if_pos y] at hp
      exact br_t y ⟨hin, hp⟩
    · rw [if_neg y] at hp
      exact br_f y ⟨sg_E_in hE hn, hp⟩
theorem sg_xEH {post : Int32 → Prop} {j : Nat} (hn : n ≤ 24) (hj : j < n) (hf : sg_fit K n (K j) (A j) (B j) (C j)) (hH : ∀ j, H j = 0 ∨ H j = 1) (hW : ∀ j, W j = 0 ∨ W j = 1) (hnc : ¬ sg_ce (K j)) (hp : post (sg_h K A B H V D W T C j)) : wpX_eventHas post (nI n, o, l, c, K, A, B, C, H, V, D, T, W, U, S, O) (nI j) := by
  unfold wpX_eventHas
  dsimp only
  have hin : vp_in (nI j) 24 := vp_in_nI (by omega) (by omega)
  rw [nI_clamp (by omega)]
  refine ⟨hin, nm_e ⟨hin, nm_e ⟨hin, nm_e ⟨hin, nm_e ?_⟩⟩⟩⟩
  have nH := fun j => sg_nb (hH j)
  have nW := fun j => sg_nb (hW j)
  unfold sg_h at hp
  refine sg_fit_cases hf ?_ ?_ ?_ ?_ ?_ ?_ ?_ ?_ ?_ ?_ ?_ ?_ ?_ ?_ ?_ <;> intro e <;> intros <;> simp (decide := true) only [e, if_true, if_false] at hp <;> rw [e]
  · iterate 2 refine br_f (by decide) ?_
    exact br_t rfl ⟨hin, nW j, hp⟩
  · rename_i hx
    iterate 3 refine br_f (by decide) ?_
    exact br_t rfl ⟨sg_E_in hx hn, nH _, hp⟩
  · rename_i hx
    iterate 4 refine br_f (by decide) ?_
    refine br_t rfl ⟨sg_E_in hx hn, br_c (fun z => ?_) (fun z => ⟨sg_E_in hx hn, br_c (fun y => ?_) (fun y => ?_)⟩)⟩
    · rw [if_pos z] at hp; exact hp
    · rw [if_neg z, if_pos y] at hp; exact hp
    · rw [if_neg z, if_neg y] at hp; exact hp
  · rename_i hx hy
    iterate 5 refine br_f (by decide) ?_
    refine br_t rfl ⟨sg_E_in hx hn, br_c (fun z => ⟨sg_E_in hy hn, br_c (fun y => ?_) (fun y => ?_)⟩) (fun z => ?_)⟩
    · rw [if_pos z, if_pos y] at hp; exact hp
    · rw [if_pos z, if_neg y] at hp; exact hp
    · rw [if_neg z] at hp; exact hp
  · exact absurd (Or.inl e) hnc
  · rename_i hx hy
    iterate 7 refine br_f (by decide) ?_
    exact br_t rfl ⟨sg_E_in hx hn, nH _, hp⟩
  · exact absurd (Or.inr (Or.inl e)) hnc
  · rename_i hx hy
    iterate 9 refine br_f (by decide) ?_
    refine br_t rfl ⟨sg_E_in hx hn, br_c (fun z => ?_) (fun z => ⟨sg_L_in hy hn, br_c (fun y => ?_) (fun y => ?_)⟩)⟩
    · rw [if_pos z] at hp; exact hp
    · rw [if_neg z, if_pos y] at hp; exact hp
    · rw [if_neg z, if_neg y] at hp; exact hp
  · rename_i hx
    iterate 10 refine br_f (by decide) ?_
    exact br_t rfl ⟨sg_E_in hx hn, nH _, hp⟩
  · rename_i hx
    iterate 11 refine br_f (by decide) ?_
    refine br_t rfl ⟨sg_L_in hx hn, sg_L_in hx hn, br_c (fun z => ?_) (fun z => ?_)⟩
    · rw [if_pos z] at hp; exact hp
    · rw [if_neg z] at hp; exact hp
  · rename_i hx hy hz
    iterate 12 refine br_f (by decide) ?_
    refine br_t rfl ⟨sg_L_in hx hn, br_c (fun z => ⟨sg_E_in hz hn, nH _, ?_⟩) (fun z => ⟨sg_E_in hy hn, nH _, ?_⟩)⟩
    · rw [if_pos z] at hp; exact hp
    · rw [if_neg z] at hp; exact hp
  · iterate 13 refine br_f (by decide) ?_
    exact br_t rfl ⟨hin, nW j, hp⟩
  · rename_i hx
    iterate 14 refine br_f (by decide) ?_
    refine br_t rfl ⟨sg_E_in hx hn, br_c (fun z => ?_) (fun z => ⟨hin, br_c (fun y => ?_) (fun y => ?_)⟩)⟩
    · rw [if_pos z] at hp; exact hp
    · rw [if_neg z, if_pos y] at hp; exact hp
    · rw [if_neg z, if_neg y] at hp; exact hp
  · exact absurd (Or.inr (Or.inr (Or.inl e))) hnc
  · exact absurd (Or.inr (Or.inr (Or.inr e))) hnc
theorem sg_xEVal {post : Int32 → Prop} {j : Nat} (hn : n ≤ 24) (hj : j < n) (hf : sg_fit K n (K j) (A j) (B j) (C j)) (hnc : ¬ sg_ce (K j)) (hp : post (sg_w K A B V D U S C j)) : wpX_eventValue post (nI n, o, l, c, K, A, B, C, H, V, D, T, W, U, S, O) (nI j) := by
  unfold wpX_eventValue
  dsimp only
  have hin : vp_in (nI j) 24 := vp_in_nI (by omega) (by omega)
  rw [nI_clamp (by omega)]
  refine ⟨hin, nm_e ⟨hin, nm_e ⟨hin, nm_e ⟨hin, nm_e ?_⟩⟩⟩⟩
  unfold sg_w at hp
  refine sg_fit_cases hf ?_ ?_ ?_ ?_ ?_ ?_ ?_ ?_ ?_ ?_ ?_ ?_ ?_ ?_ ?_ <;> intro e <;> intros <;> simp (decide := true) only [e, if_true, if_false] at hp <;> rw [e]
  · iterate 2 refine br_f (by decide) ?_
    exact br_t rfl ⟨hin, hp⟩
  · rename_i hx
    iterate 3 refine br_f (by decide) ?_
    exact br_t rfl ⟨sg_E_in hx hn, hp⟩
  · rename_i hx
    iterate 4 refine br_f (by decide) ?_
    exact br_t rfl ⟨sg_E_in hx hn, hp⟩
  · rename_i hx hy
    iterate 5 refine br_f (by decide) ?_
    exact br_t rfl ⟨sg_E_in hx hn, sg_E_in hy hn, hp⟩
  · exact absurd (Or.inl e) hnc
  · rename_i hx hy
    iterate 7 refine br_f (by decide) ?_
    exact br_t rfl ⟨sg_E_in hx hn, sg_L_in hy hn, hp⟩
  · exact absurd (Or.inr (Or.inl e)) hnc
  · rename_i hx hy
    iterate 9 refine br_f (by decide) ?_
    exact br_t rfl ⟨sg_E_in hx hn, hp⟩
  · rename_i hx
    iterate 10 refine br_f (by decide) ?_
    exact br_t rfl ⟨hin, sg_E_in hx hn, hp⟩
  · rename_i hx
    iterate 11 refine br_f (by decide) ?_
    exact br_t rfl ⟨sg_L_in hx hn, hp⟩
  · rename_i hx hy hz
    iterate 12 refine br_f (by decide) ?_
    refine br_t rfl ⟨sg_L_in hx hn, br_c (fun z => ⟨sg_E_in hz hn, ?_⟩) (fun z => ⟨sg_E_in hy hn, ?_⟩)⟩
    · rw [if_pos z] at hp; exact hp
    · rw [if_neg z] at hp; exact hp
  · iterate 13 refine br_f (by decide) ?_
    exact br_t rfl ⟨hin, hp⟩
  · rename_i hx
    refine br_f (by decide) (br_t (by decide) ⟨sg_E_in hx hn, hp⟩)
  · exact absurd (Or.inr (Or.inr (Or.inl e))) hnc
  · exact absurd (Or.inr (Or.inr (Or.inr e))) hnc
theorem sg_xWork {post : SX → Prop} {j : Nat} (hn : n ≤ 24) (hj : j < n) (hw : sg_wf n K A B C) (hH : ∀ j, H j = 0 ∨ H j = 1) (hW : ∀ j, W j = 0 ∨ W j = 1) (hHc : sg_ce (K j) → H j = 0) (hp : post (nI n, o, l, c, K, A, B, C, upd H j (sg_h K A B H V D W T C j), upd V j (sg_v K A B H V D W T U S C j), D, T, W, U, S, O)) : wpX_workOut post (nI n, o, l, c, K, A, B, C, H, V, D, T, W, U, S, O) (nI j) := by
  have hf := sg_wf_n hw hj
  unfold wpX_workOut
  dsimp only
  have hin : vp_in (nI j) 24 := vp_in_nI (by omega) (by omega)
  rw [nI_clamp (by omega)]
  have hcell : sg_ce (K j) → upd H j (sg_h K A B H V D W T C j) = H := by
    intro hc
    rw [sg_h_ce hc]
    funext i
    by_cases e : i = j
    · subst e; rw [pk_us, hHc hc]
    · rw [pk_un e]
  refine ⟨hin, br_c (fun e4 => ?_) (fun n4 => ⟨hin, sg_xCk (fun hc => br_f (by decide) ?_) (fun hc => br_t rfl ?_)⟩)⟩
  · rw [hcell (Or.inl e4)] at hp
    have hx : A j = -1 ∨ sg_E K n (A j) := by rw [e4] at hf; exact sg_f4 hf
    refine sg_xHeld hn hj hx ⟨hin, nm_e ?_⟩
    unfold sg_v at hp
    rw [if_pos e4] at hp
    exact hp
  · rw [hcell hc] at hp
    have hd : sg_dv (K j) := by
      rcases hc with e | e | e | e
      · exact absurd e n4
      · exact Or.inl e
      · exact Or.inr (Or.inl e)
      · exact Or.inr (Or.inr e)
    refine sg_xDc (b := n) (by omega) hn hf hd ⟨hin, nm_e ?_⟩
    unfold sg_v at hp
    rw [if_neg n4] at hp
    rcases hd with e | e | e <;> simp (decide := true) only [e, if_true, if_false] at hp <;> exact hp
  · refine sg_xEH hn hj hf hH hW hc ⟨hin, nm_e ⟨hin, ?_⟩⟩
    rw [sg_vb (sg_h_01 hH hW), pk_us]
    unfold sg_v at hp
    rw [if_neg (fun e => hc (Or.inl e)), if_neg (fun e => hc (Or.inr (Or.inl e))), if_neg (fun e => hc (Or.inr (Or.inr (Or.inl e)))), if_neg (fun e => hc (Or.inr (Or.inr (Or.inr e))))] at hp
    refine br_c (fun z => ⟨hin, nm_e ?_⟩) (fun z => sg_xEVal hn hj hf hc ⟨hin, nm_e ?_⟩)
    · rw [if_pos z] at hp; exact hp
    · rw [if_neg z] at hp; exact hp
end
end
section
theorem sg_ct_all {P : Nat → Bool} : ∀ n, (∀ j, j < n → P j = true) → sg_ct P n = n
  | 0, _ => rfl
  | n + 1, h => by
    show sg_ct P n + (if P n = true then 1 else 0) = n + 1
    rw [sg_ct_all n (fun j hj => h j (by omega)), if_pos (h n (by omega))]
section
variable {n k : Nat} {o l c : Int32} {K A B C H V D T W U S O h v F d p g : Nat → Int32}
theorem sg_xKeep {post : SX → Prop} (hn : n ≤ 24) (hp : post (nI n, o, l, c, K, A, B, C, H, V, sg_pw V D n, T, W, U, S, O)) : wpX_keepBefore post (nI n, o, l, c, K, A, B, C, H, V, D, T, W, U, S, O) := by
  unfold wpX_keepBefore
  dsimp only
  refine loop_0 (fun f i s => wX_keepBefore_2 post (nI n) o l c f (nI i) K A B C H V s T W U S O) (fun i s => s = sg_pw V D i) n D sg_pw_0 ?_ ?_
  · rintro f s rfl
    exact br_t (nI_le (Nat.le_refl n) (by omega)) hp
  · rintro f i s hi rfl ih
    have hin : vp_in (nI i) 24 := vp_in_nI (by omega) (by omega)
    have hcl : (nI i).toNatClampNeg = i := nI_clamp (by omega)
    refine br_f (nI_ge hi (by omega)) ⟨hin, hin, nm_e (nm_r (nI_1 i) (ih _ ?_))⟩
    rw [hcl]
    exact sg_pw_s rfl
/-- the order so far -/
def sg_IO (n : Nat) (K A B C : Nat → Int32) (dn : Int32) (t : Nat) (s : Nat → Int32) : Prop :=
  t = sg_ct (fun j => bt dn j) n ∧ (∀ j, bt dn j = true → j < n ∧ ∃ a, a < t ∧ s a = nI j)
  ∧ (∀ a, a < t → ∃ j, j < n ∧ s a = nI j ∧ bt dn j = true ∧ ∀ m, sg_P n K A B C j m → ∃ b, b < a ∧ s b = nI m)
  ∧ (∀ a b, a < t → b < t → s a = s b → a = b)
theorem sg_IO_s {dn : Int32} {t i : Nat} {s : Nat → Int32} (hn : n ≤ 24) (hi : i < n) (h : sg_IO n K A B C dn t s) (hni : ¬ bt dn i = true) (hp : ∀ m, sg_P n K A B C i m → bt dn m = true) : t < n ∧ sg_IO n K A B C (dn ||| ((1 : Int32) <<< (nI i &&& 31))) (t + 1) (upd s t (nI i)) := by
  obtain ⟨h1, h2, h3, h4⟩ := h
  have hlt : t < n := by
    rw [h1]
    exact sg_ct_miss _ n i hi (by cases e : bt dn i; rfl; exact absurd e hni)
  have hor := fun j => sg_or1 dn (m := i) (by omega) j
  refine ⟨hlt, ?_, ?_, ?_, ?_⟩
  · rw [h1]
    refine (sg_ct_add (k := i) ?_ ?_ n hi ?_).symm
    · cases e : bt dn i
      · rfl
      · exact absurd e hni
    · exact (hor i).mpr (Or.inr rfl)
    · intro j hj
      have := hor j
      cases e : bt dn j
      · cases e2 : bt (dn ||| ((1 : Int32) <<< (nI i &&& 31))) j
        · rfl
        · rcases this.mp e2 with z | z
          · rw [e] at z; exact absurd z (by decide)
          · exact absurd z hj
      · exact this.mpr (Or.inl e)
  · intro j hj
    rcases (hor j).mp hj with z | z
    · obtain ⟨q1, a, q2, q3⟩ := h2 j z
      exact ⟨q1, a, by omega, by rw [pk_un (by omega)]; exact q3⟩
    · subst z
      exact ⟨hi, t, by omega, pk_us⟩
  · intro a ha
    by_cases e : a = t
    · subst e
      refine ⟨i, hi, pk_us, (hor i).mpr (Or.inr rfl), fun m hm => ?_⟩
      obtain ⟨_, b, q2, q3⟩ := h2 m (hp m hm)
      exact ⟨b, q2, by rw [pk_un (by omega)]; exact q3⟩
    · obtain ⟨j, q1, q2, q3, q4⟩ := h3 a (by omega)
      refine ⟨j, q1, by rw [pk_un e]; exact q2, (hor j).mpr (Or.inl q3), fun m hm => ?_⟩
      obtain ⟨b, q5, q6⟩ := q4 m hm
      exact ⟨b, q5, by rw [pk_un (by omega)]; exact q6⟩
  · have key : ∀ b, b < t → s b ≠ nI i := by
      intro b hb e
      obtain ⟨j, q1, q2, q3, _⟩ := h3 b hb
      rw [q2, nI_eq (by omega) (by omega)] at e
      subst e
      exact hni q3
    intro a b ha hb e
    by_cases ea : a = t
    · by_cases eb : b = t
      · omega
      · rw [ea, pk_us, pk_un eb] at e
        exact absurd e.symm (key b (by omega))
    · by_cases eb : b = t
      · rw [eb, pk_us, pk_un ea] at e
        exact absurd e (key a (by omega))
      · rw [pk_un ea, pk_un eb] at e
        exact h4 a b (by omega) (by omega) e
theorem sg_IO_top {dn : Int32} {t : Nat} {s : Nat → Int32} (h : sg_IO n K A B C dn t s) (hall : ∀ j, j < n → bt dn j = true) : sg_top n K A B C s := by
  obtain ⟨h1, h2, h3, h4⟩ := h
  have e : t = n := by rw [h1]; exact sg_ct_all n hall
  subst e
  refine ⟨fun j hj => (h2 j (hall j hj)).2, fun a ha => ?_, h4⟩
  obtain ⟨j, q1, q2, _, q4⟩ := h3 a ha
  exact ⟨j, q1, q2, q4⟩
theorem sg_xo25 {post : SX → Prop} {J : Int32 → Int32 → Int32 → (Nat → Int32) → (Nat → Int32) → (Nat → Int32) → (Nat → Int32) → (Nat → Int32) → (Nat → Int32) → (Nat → Int32) → (Nat → Int32) → (Nat → Int32) → (Nat → Int32) → (Nat → Int32) → (Nat → Int32) → Prop} {dn0 : Int32} {r t0 : Nat} {rk : Nat → Nat} (hn : n ≤ 24) (hw : sg_wf n K A B C) (hrk : ∀ j m, sg_P n K A B C j m → rk m < rk j)
    (h0 : sg_IO n K A B C dn0 t0 O) (hr : ∀ j, j < n → rk j < r → bt dn0 j = true)
    (hJ : ∀ dn t s, sg_IO n K A B C dn t s → (∀ j, j < n → rk j < r + 1 → bt dn j = true) → J dn (nI t) (nI (r + 1)) K A B C H V D T W U S s) : ∃ f, wX_putInOrder_25 post J (nI r) (nI n) o l c f dn0 (nI t0) 0 K A B C H V D T W U S O := by
  refine loop_0 (σ := Int32 × Nat × (Nat → Int32)) (fun f i s => wX_putInOrder_25 post J (nI r) (nI n) o l c f s.1 (nI s.2.1) (nI i) K A B C H V D T W U S (s.2.2)) (fun i s => sg_IO n K A B C s.1 s.2.1 s.2.2 ∧ (∀ j, bt dn0 j = true → bt s.1 j = true) ∧ (∀ j, j < i → rk j < r + 1 → bt s.1 j = true)) n (dn0, t0, O) ⟨h0, fun _ z => z, fun j hj => absurd hj (by omega)⟩ ?_ ?_
  · rintro f ⟨dn, t, s⟩ ⟨a, b, q⟩
    exact br_t (nI_le (Nat.le_refl n) (by omega)) (nm_r (nI_1 r) (hJ dn t s a q))
  · rintro f i ⟨dn, t, s⟩ hi ⟨a, b, q⟩ ih
    dsimp only at a b q ⊢
    have hcon : (bt dn i = true ∨ ¬ (∀ m, sg_P n K A B C i m → bt dn m = true)) → wX_putInOrder_25 post J (nI r) (nI n) o l c f dn (nI t) (nI (i + 1)) K A B C H V D T W U S s := by
      intro hh
      refine ih (dn, t, s) ⟨a, b, ?_⟩
      intro j hj hrj
      by_cases e : j = i
      · subst e
        rcases hh with hh | hh
        · exact hh
        · refine absurd ?_ hh
          intro m hm
          have := hrk j m hm
          exact b m (hr m (sg_P_lt hn hw hm) (by omega))
      · exact q j (by omega) hrj
    refine br_f (nI_ge hi (by omega)) (nm_e (br_c (fun z => sg_xPt' hn hi hw fun r8 hr8 => ?_) (fun z => nm_r (nI_1 i) (hcon (Or.inl ?_)))))
    · rw [sg_an0 dn (by omega)] at z
      refine br_c (fun y => ?_) (fun y => nm_r (nI_1 i) (hcon (Or.inr ?_)))
      · rw [sg_dn0] at y
        have hpd : ∀ m, sg_P n K A B C i m → bt dn m = true := by
          intro m hm
          have := hm.2.1
          exact y m (by omega) ((hr8 m (by omega)).mpr hm)
        obtain ⟨hlt, hIO⟩ := sg_IO_s hn hi a z hpd
        refine ⟨vp_in_nI (by omega) (by omega), ?_⟩
        rw [nI_clamp (by omega)]
        refine nm_e (nm_r (nI_1 t) (nm_e (nm_r (nI_1 i) ?_)))
        refine ih (dn ||| ((1 : Int32) <<< (nI i &&& 31)), t + 1, upd s t (nI i)) ⟨hIO, ?_, ?_⟩
        · intro j hj
          exact (sg_or1 dn (by omega) j).mpr (Or.inl (b j hj))
        · intro j hj hrj
          by_cases e : j = i
          · exact (sg_or1 dn (by omega) j).mpr (Or.inr e)
          · exact (sg_or1 dn (by omega) j).mpr (Or.inl (q j (by omega) hrj))
      · intro hall
        refine y ((sg_dn0 _ _).mpr ?_)
        intro m hm hb
        exact hall m ((hr8 m hm).mp hb)
    · rw [sg_an0 dn (by omega)] at z
      exact Classical.not_not.mp z
theorem sg_xOrder {post : SX → Prop} (hn : n ≤ 24) (hw : sg_wf n K A B C) (hac : sg_ac n K A B C) (hp : ∀ s, sg_top n K A B C s → post (nI n, 0, l, c, K, A, B, C, H, V, D, T, W, U, S, s)) : wpX_putInOrder post (nI n, o, l, c, K, A, B, C, H, V, D, T, W, U, S, O) := by
  obtain ⟨rk, hb, hrk⟩ := sg_ac_b hn hw hac
  unfold wpX_putInOrder
  dsimp only
  refine loop_0 (σ := Int32 × Nat × (Nat → Int32)) (fun f r s => wX_putInOrder_6 post (nI n) o l c f s.1 (nI s.2.1) (nI r) K A B C H V D T W U S (s.2.2)) (fun r s => sg_IO n K A B C s.1 s.2.1 s.2.2 ∧ (∀ j, j < n → rk j < r → bt s.1 j = true)) n ((0 : Int32), 0, O) ⟨?_, fun j _ hj => absurd hj (by omega)⟩ ?_ ?_
  · have e0 : ∀ m, sg_ct (fun j => bt 0 j) m = 0 := by
      intro m
      induction m with
      | zero => rfl
      | succ m ih =>
        show sg_ct (fun j => bt 0 j) m + (if bt 0 m = true then 1 else 0) = 0
        rw [ih, b_0]
        rfl
    refine ⟨(e0 n).symm, fun j hj => ?_, fun a ha => absurd ha (Nat.not_lt_zero a), fun a b ha => absurd ha (Nat.not_lt_zero a)⟩
    dsimp only at hj
    rw [b_0] at hj
    exact absurd hj (by decide)
  · rintro f ⟨dn, t, s⟩ ⟨a, q⟩
    exact br_t (nI_le (Nat.le_refl n) (by omega)) (hp s (sg_IO_top a (fun j hj => q j hj (hb j hj))))
  · rintro f r ⟨dn, t, s⟩ hr ⟨a, q⟩ ih
    dsimp only at a q ⊢
    have htn : t ≤ n := by
      rw [a.1]
      exact sg_ct_le _ _
    refine br_f (nI_ge hr (by omega)) (pk_le n t (fun hle => hp s (sg_IO_top a ?_)) (fun _ => ?_))
    · intro j hj
      exact sg_ct_full (P := fun j => bt dn j) (by rw [← a.1]; exact hle) hj
    · exact sg_xo25 hn hw hrk a q fun dn' t' s' a' q' => ih (dn', t', s') ⟨a', q'⟩
/-- the has and value arrays after all nodes are worked out, in terms of what held before -/
def sg_Loc (n : Nat) (K A B C H V D W T U S : Nat → Int32) (j : Nat) : Prop := H j = sg_h K A B H V D W T C j ∧ V j = sg_v K A B H V D W T U S C j
theorem sg_xMain {post : Int32 → SX → Prop} (hn : n ≤ 24) (hw : sg_wf n K A B C) (ht : sg_top n K A B C O) (hH : ∀ j, H j = 0 ∨ H j = 1) (hW : ∀ j, W j = 0 ∨ W j = 1) (hHc : ∀ j, j < n → sg_ce (K j) → H j = 0)
    (hp : ∀ H1 V1, (∀ j, H1 j = 0 ∨ H1 j = 1) → (∀ j, j < n → sg_ce (K j) → H1 j = 0) → (∀ j, n ≤ j → H1 j = H j ∧ V1 j = V j) → (∀ j, j < n → sg_Loc n K A B C H1 V1 D W T U S j) →
      wpX_prepareNext (fun u => match u with | (n, o', l', c', K', A', B', C', H', V', D', T', W', U', S', O') => (wpX_tallyEvents post (n, o', l', c', K', A', B', C', H', V', D', T', W', U', S', O'))) (nI n, o, l, c, K, A, B, C, H1, V1, D, T, W, U, S, O)) : ∃ f, wX_commit_34 post f 0 (nI n) o l c K A B C H V D T W U S O := by
  obtain ⟨t1, t2, t3⟩ := ht
  refine loop_0 (σ := (Nat → Int32) × (Nat → Int32)) (fun f i s => wX_commit_34 post f (nI i) (nI n) o l c K A B C (s.1) (s.2) D T W U S O) (fun i s => (∀ j, s.1 j = 0 ∨ s.1 j = 1) ∧ (∀ j, j < n → sg_ce (K j) → s.1 j = 0) ∧ (∀ j, n ≤ j → s.1 j = H j ∧ s.2 j = V j) ∧ (∀ a j, a < i → j < n → O a = nI j → sg_Loc n K A B C s.1 s.2 D W T U S j)) n (H, V) ⟨hH, hHc, fun _ _ => ⟨rfl, rfl⟩, fun a j ha => absurd ha (by omega)⟩ ?_ ?_
  · rintro f ⟨H1, V1⟩ ⟨a, b, q, r⟩
    refine br_t (nI_le (Nat.le_refl n) (by omega)) (hp H1 V1 a b q ?_)
    intro j hj
    obtain ⟨i, hi, e⟩ := t1 j hj
    exact r i j hi hj e
  · rintro f i ⟨H1, V1⟩ hi ⟨a, b, q, r⟩ ih
    dsimp only at a b q r ⊢
    obtain ⟨j, hj, ej, hpj⟩ := t2 i hi
    have hin : vp_in (nI i) 24 := vp_in_nI (by omega) (by omega)
    have hcl : (nI i).toNatClampNeg = i := nI_clamp (by omega)
    refine br_f (nI_ge hi (by omega)) ⟨hin, ?_⟩
    rw [hcl, ej]
    refine sg_xWork hn hj hw a hW (b j hj) (nm_r (nI_1 i) (ih (upd H1 j (sg_h K A B H1 V1 D W T C j), upd V1 j (sg_v K A B H1 V1 D W T U S C j)) ⟨?_, ?_, ?_, ?_⟩))
    · intro m
      dsimp only
      by_cases e : m = j
      · subst e; rw [pk_us]; exact sg_h_01 a hW
      · rw [pk_un e]; exact a m
    · intro m hm hc
      dsimp only
      by_cases e : m = j
      · subst e; rw [pk_us]; exact sg_h_ce hc
      · rw [pk_un e]; exact b m hm hc
    · intro m hm
      dsimp only
      rw [pk_un (by omega), pk_un (by omega)]
      exact q m hm
    · intro x m hx hm ex
      dsimp only
      -- the parts of m stand before x
      have hpm : ∀ y, sg_P n K A B C m y → ∃ z, z < x ∧ O z = nI y := by
        obtain ⟨m', hm', em', hq'⟩ := t2 x (by omega)
        rw [ex, nI_eq (by omega) (by omega)] at em'
        subst em'
        exact hq'
      have hne : ∀ y, sg_P n K A B C m y → y ≠ j := by
        intro y hy e
        subst e
        obtain ⟨z, hz, ez⟩ := hpm y hy
        have := t3 z i (by omega) hi (by rw [ez, ej])
        omega
      obtain ⟨g1, g2⟩ := sg_hv_cg (H1 := upd H1 j (sg_h K A B H1 V1 D W T C j)) (H2 := H1) (V1 := upd V1 j (sg_v K A B H1 V1 D W T U S C j)) (V2 := V1) (Z1 := D) (Z2 := D) (wt1 := W) (wt2 := W) (on1 := T) (on2 := T) (wv1 := U) (wv2 := U) (cs1 := S) (cs2 := S) hn hm hw (fun y hy _ => pk_un (hne y hy)) (fun y hy => pk_un (hne y hy)) (fun _ _ _ => rfl) (fun _ => rfl) (fun _ => rfl) (fun _ => rfl) (fun _ => Iff.rfl)
      unfold sg_Loc
      rw [g1, g2]
      by_cases e : m = j
      · subst e
        rw [pk_us, pk_us]
        exact ⟨rfl, rfl⟩
      · rw [pk_un e, pk_un e]
        have hxi : x ≠ i := by
          intro z
          subst z
          rw [ex, nI_eq (by omega) (by omega)] at ej
          exact e ej
        exact r x m (by omega) hm ex
theorem sg_fD {j : Nat} (hw : sg_wf n K A B C) (hj : j < n) (e : K j = 11) : sg_E K n (A j) := by
  have hf := sg_wf_n hw hj
  rw [e] at hf
  exact sg_f1 (by decide) hf
def sg_pW (K A H W : Nat → Int32) : Nat → Int32 := fun j => if K j = 0 then 0 else if K j = 11 then H (A j).toNatClampNeg else W j
def sg_pU (K A V U : Nat → Int32) : Nat → Int32 := fun j => if K j = 11 then V (A j).toNatClampNeg else U j
def sg_pS (K H V S : Nat → Int32) : Nat → Int32 := fun j => if K j = 8 then (if H j = 0 then S j else V j) else S j
theorem sg_xPrep {post : SX → Prop} (hn : n ≤ 24) (hw : sg_wf n K A B C) (hH : ∀ j, H j = 0 ∨ H j = 1) (hp : post (nI n, o, l, c, K, A, B, C, H, V, D, T, sg_pw (sg_pW K A H W) W n, sg_pw (sg_pU K A V U) U n, sg_pw (sg_pS K H V S) S n, O)) : wpX_prepareNext post (nI n, o, l, c, K, A, B, C, H, V, D, T, W, U, S, O) := by
  unfold wpX_prepareNext
  dsimp only
  refine loop_0 (σ := (Nat → Int32) × (Nat → Int32) × (Nat → Int32)) (fun f i s => wX_prepareNext_2 post (nI n) o l c f (nI i) K A B C H V D T (s.1) (s.2.1) (s.2.2) O) (fun i s => s.1 = sg_pw (sg_pW K A H W) W i ∧ s.2.1 = sg_pw (sg_pU K A V U) U i ∧ s.2.2 = sg_pw (sg_pS K H V S) S i) n (W, U, S) ⟨sg_pw_0, sg_pw_0, sg_pw_0⟩ ?_ ?_
  · rintro f ⟨W1, U1, S1⟩ ⟨e1, e2, e3⟩
    dsimp only at e1 e2 e3 ⊢
    subst e1 e2 e3
    exact br_t (nI_le (Nat.le_refl n) (by omega)) hp
  · rintro f i ⟨W1, U1, S1⟩ hi ⟨e1, e2, e3⟩ ih
    dsimp only at e1 e2 e3 ⊢
    have hin : vp_in (nI i) 24 := vp_in_nI (by omega) (by omega)
    have hcl : (nI i).toNatClampNeg = i := nI_clamp (by omega)
    have kW : K i ≠ 0 → K i ≠ 11 → W1 = sg_pw (sg_pW K A H W) W (i + 1) := by
      intro z y
      rw [e1]
      refine sg_pw_n ?_
      unfold sg_pW
      rw [if_neg z, if_neg y]
    have kU : K i ≠ 11 → U1 = sg_pw (sg_pU K A V U) U (i + 1) := by
      intro y
      rw [e2]
      refine sg_pw_n ?_
      unfold sg_pU
      rw [if_neg y]
    have kS : ¬ (K i = 8 ∧ ¬ H i = 0) → S1 = sg_pw (sg_pS K H V S) S (i + 1) := by
      intro y
      rw [e3]
      refine sg_pw_n ?_
      unfold sg_pS
      by_cases z : K i = 8
      · rw [if_pos z, if_pos (Classical.not_not.mp fun q => y ⟨z, q⟩)]
      · rw [if_neg z]
    refine br_f (nI_ge hi (by omega)) ⟨hin, ?_⟩
    rw [hcl]
    refine br_c (fun z0 => ⟨hin, nm_e (nm_r (nI_1 i) (ih (upd W1 i (vp_nar .boolean 0), U1, S1) ⟨?_, kU (by rw [z0]; decide), kS (fun q => absurd (z0.symm.trans q.1) (by decide))⟩))⟩) (fun n0 => ⟨hin, br_c (fun z11 => ?_) (fun n11 => ⟨hin, br_c (fun z8 => ⟨hin, br_c (fun y => nm_r (nI_1 i) (ih (W1, U1, S1) ⟨kW n0 n11, kU n11, kS fun q => q.2 y⟩)) (fun y => ⟨hin, hin, nm_e (nm_r (nI_1 i) (ih (W1, U1, upd S1 i (V i)) ⟨kW n0 n11, kU n11, ?_⟩))⟩)⟩) (fun n8 => nm_r (nI_1 i) (ih (W1, U1, S1) ⟨kW n0 n11, kU n11, kS fun q => n8 q.1⟩))⟩)⟩)
    · dsimp only
      rw [e1, sg_vb0]
      refine sg_pw_s ?_
      unfold sg_pW
      rw [if_pos z0]
    · have hE := sg_E_in (sg_fD hw hi z11) hn
      refine ⟨hin, hE, hin, nm_e ⟨hin, hE, hin, nm_e (nm_r (nI_1 i) (ih (upd W1 i (vp_nar .boolean (H (A i).toNatClampNeg)), upd U1 i (V (A i).toNatClampNeg), S1) ⟨?_, ?_, kS (fun q => absurd (z11.symm.trans q.1) (by decide))⟩))⟩⟩
      · dsimp only
        rw [e1, sg_vb (hH _)]
        refine sg_pw_s ?_
        unfold sg_pW
        rw [if_neg n0, if_pos z11]
      · dsimp only
        rw [e2]
        refine sg_pw_s ?_
        unfold sg_pU
        rw [if_pos z11]
    · dsimp only
      rw [e3]
      refine sg_pw_s ?_
      unfold sg_pS
      rw [if_pos z8, if_neg y]
def sg_pT (H T : Nat → Int32) : Nat → Int32 := fun j => if H j = 0 then T j else T j + 1
def sg_nz (H : Nat → Int32) : Nat → Bool := fun j => decide (¬ H j = 0)
theorem sg_nz_0 {i : Nat} (e : H i = 0) : sg_ct (sg_nz H) i = sg_ct (sg_nz H) (i + 1) := by
  show _ = sg_ct (sg_nz H) i + (if sg_nz H i = true then 1 else 0)
  unfold sg_nz
  simp [e]
theorem sg_nz_1 {i : Nat} (e : ¬ H i = 0) : sg_ct (sg_nz H) i + 1 = sg_ct (sg_nz H) (i + 1) := by
  show _ = sg_ct (sg_nz H) i + (if sg_nz H i = true then 1 else 0)
  unfold sg_nz
  simp [e]
theorem sg_xTally {post : Int32 → SX → Prop} (hn : n ≤ 24) (hp : post (nI (sg_ct (sg_nz H) n)) (nI n, o, l, c, K, A, B, C, H, V, D, sg_pw (sg_pT H T) T n, W, U, S, O)) : wpX_tallyEvents post (nI n, o, l, c, K, A, B, C, H, V, D, T, W, U, S, O) := by
  unfold wpX_tallyEvents
  dsimp only
  refine loop_0 (fun f i s => wX_tallyEvents_4 post (nI n) o l c f (nI (sg_ct (sg_nz H) i)) (nI i) K A B C H V D s W U S O) (fun i s => s = sg_pw (sg_pT H T) T i) n T sg_pw_0 ?_ ?_
  · rintro f s rfl
    exact br_t (nI_le (Nat.le_refl n) (by omega)) hp
  · rintro f i s hi e ih
    have hin : vp_in (nI i) 24 := vp_in_nI (by omega) (by omega)
    have hcl : (nI i).toNatClampNeg = i := nI_clamp (by omega)
    refine br_f (nI_ge hi (by omega)) ⟨hin, ?_⟩
    rw [hcl]
    refine br_c (fun z => ?_) (fun z => ?_)
    · rw [sg_nz_0 z]
      refine nm_r (nI_1 i) (ih _ ?_)
      rw [e]
      refine sg_pw_n ?_
      unfold sg_pT
      rw [if_pos z]
    · refine ⟨hin, hin, nm_e (nm_r (nI_1 _) ?_)⟩
      rw [sg_nz_1 z]
      refine nm_r (nI_1 i) (ih _ ?_)
      rw [e, sg_pw_i]
      refine sg_pw_s ?_
      unfold sg_pT
      rw [if_neg z]
/-- X's transaction -/
theorem sg_xCommit {post : Int32 → SX → Prop} (hn : n ≤ 24) (hw : sg_wf n K A B C) (hac : sg_ac n K A B C) (ht : o = 0 → sg_top n K A B C O) (hH : ∀ j, H j = 0 ∨ H j = 1) (hW : ∀ j, W j = 0 ∨ W j = 1) (hHc : ∀ j, j < n → sg_ce (K j) → H j = 0)
    (hp : ∀ H1 V1 O1, sg_top n K A B C O1 → (∀ j, H1 j = 0 ∨ H1 j = 1) → (∀ j, j < n → sg_ce (K j) → H1 j = 0) → (∀ j, n ≤ j → H1 j = H j ∧ V1 j = V j) → (∀ j, j < n → sg_Loc n K A B C H1 V1 (sg_pw V D n) W T U S j) →
      post (nI (sg_ct (sg_nz H1) n)) (nI n, 0, l, c + 1, K, A, B, C, H1, V1, sg_pw V D n, sg_pw (sg_pT H1 T) T n, sg_pw (sg_pW K A H1 W) W n, sg_pw (sg_pU K A V1 U) U n, sg_pw (sg_pS K H1 V1 S) S n, O1)) : wpX_commit post (nI n, o, l, c, K, A, B, C, H, V, D, T, W, U, S, O) := by
  unfold wpX_commit
  dsimp only
  refine nm_e (sg_xKeep hn ?_)
  have hmain : ∀ O1, sg_top n K A B C O1 → ∃ f, wX_commit_34 post f 0 (nI n) 0 l (c + 1) K A B C H V (sg_pw V D n) T W U S O1 := by
    intro O1 hO1
    refine sg_xMain hn hw hO1 hH hW hHc ?_
    intro H1 V1 a b q r
    exact sg_xPrep hn hw a (sg_xTally hn (hp H1 V1 O1 hO1 a b q r))
  have h28 : wX_commit_28 post (nI n) o l (c + 1) K A B C H V (sg_pw V D n) T W U S O := sg_xOrder hn hw hac hmain
  refine br_c (fun _ => h28) (fun _ => br_c (fun z => ?_) (fun _ => h28))
  have z : o = 0 := z
  subst z
  exact hmain O (ht rfl)
end
end
section
def sg_VV (K v F : Nat → Int32) (m : Nat) : Int32 := if K m = 4 then F m else if K m = 6 then F m else if K m = 13 then F m else if K m = 14 then F m else v m
theorem sg_VV_c {K v F : Nat → Int32} {m : Nat} (hc : sg_ce (K m)) : sg_VV K v F m = F m := by
  unfold sg_VV
  rcases hc with e | e | e | e <;> simp (decide := true) only [e, if_true, if_false]
theorem sg_VV_e {K v F : Nat → Int32} {m : Nat} (hc : ¬ sg_ce (K m)) : sg_VV K v F m = v m := by
  unfold sg_VV
  rw [if_neg (fun e => hc (Or.inl e)), if_neg (fun e => hc (Or.inr (Or.inl e))), if_neg (fun e => hc (Or.inr (Or.inr (Or.inl e)))), if_neg (fun e => hc (Or.inr (Or.inr (Or.inr e))))]
section
variable {n k : Nat} {o l c : Int32} {K A B C H V D T W U S O h v F d p g : Nat → Int32}
theorem sg_yGive {post : SY → Prop} {j : Nat} {b x : Int32} (hj : j < 24) (hb : b = 0 ∨ b = 1) (h0 : b = 0 → post (nI n, c, K, A, B, C, upd h j 0, upd v j 0, F, T, d, p, g)) (h1 : b = 1 → post (nI n, c, K, A, B, C, upd h j 1, upd v j x, F, T, d, p, g)) : wpY_give post (nI n, c, K, A, B, C, h, v, F, T, d, p, g) (nI j) b x := by
  unfold wpY_give
  dsimp only
  have hin : vp_in (nI j) 24 := vp_in_nI (by omega) (by omega)
  rw [nI_clamp (by omega)]
  rcases hb with e | e
  · subst e
    rw [sg_vb0]
    exact ⟨hin, nm_e (br_t rfl ⟨hin, nm_e (h0 rfl)⟩)⟩
  · subst e
    rw [sg_vb1]
    exact ⟨hin, nm_e (br_f (by decide) ⟨hin, nm_e (h1 rfl)⟩)⟩
theorem sg_yCopy {post : SY → Prop} {j : Nat} {x b : Int32} (hj : j < 24) (hx : vp_in x 24) (h0 : (b = 0 ∨ h x.toNatClampNeg = 0) → post (nI n, c, K, A, B, C, upd h j 0, upd v j 0, F, T, d, p, g)) (h1 : ¬ b = 0 → ¬ h x.toNatClampNeg = 0 → post (nI n, c, K, A, B, C, upd h j 1, upd v j (v x.toNatClampNeg), F, T, d, p, g)) : wpY_copy post (nI n, c, K, A, B, C, h, v, F, T, d, p, g) (nI j) x b := by
  unfold wpY_copy
  dsimp only
  have c19 : (b = 0 ∨ h x.toNatClampNeg = 0) → wY_copy_19 post x (nI j) (nI n) c K A B C h v F T d p g := fun z => ⟨hx, sg_yGive hj (Or.inl rfl) (fun _ => h0 z) (fun e => absurd e (by decide))⟩
  refine br_c (fun z => c19 (Or.inl z)) (fun z => ⟨hx, br_c (fun y => c19 (Or.inr y)) (fun y => ?_)⟩)
  exact ⟨hx, sg_yGive hj (Or.inr rfl) (fun e => absurd e (by decide)) (fun _ => h1 z y)⟩
theorem sg_yMade {post : Int32 → Prop} {j : Nat} {x y z : Int32} (hj : j < 24) (hd : sg_dv (K j)) (hp : post (if K j = 6 then x + y else if K j = 13 then (if x = 0 then z else y) else x * B j + C j)) : wpY_made post (nI n, c, K, A, B, C, h, v, F, T, d, p, g) (nI j) x y z := by
  unfold wpY_made
  dsimp only
  have hin : vp_in (nI j) 24 := vp_in_nI (by omega) (by omega)
  rw [nI_clamp (by omega)]
  refine ⟨hin, ?_⟩
  by_cases e6 : K j = 6
  · rw [if_pos e6] at hp
    exact br_t e6 hp
  rw [if_neg e6] at hp
  refine br_f e6 ⟨hin, ?_⟩
  by_cases e13 : K j = 13
  · rw [if_pos e13] at hp
    refine br_t e13 ?_
    by_cases q : x = 0
    · rw [if_pos q] at hp; exact br_t q hp
    · rw [if_neg q] at hp; exact br_f q hp
  · rw [if_neg e13] at hp
    exact br_f e13 ⟨hin, hin, hp⟩
theorem sg_yw163 {post : SY → Prop} {j : Nat} (hn : n ≤ 24) (hj : j < n) (hf : sg_fit K n (K j) (A j) (B j) (C j)) (hd : sg_dv (K j)) (hp : post (nI n, c, K, A, B, C, h, v, upd F j (sg_dc K A B C F j), T, d, p, g)) : wY_work_163 post (nI j) (K j) (A j) (B j) (nI n) c K A B C h v F T d p g := by
  unfold wY_work_163 wY_work_193 wY_work_214
  have hin : vp_in (nI j) 24 := vp_in_nI (by omega) (by omega)
  rw [nI_clamp (by omega)]
  unfold sg_dc at hp
  have hd0 := hd
  rcases hd with e | e | e
  · rw [e] at hf
    obtain ⟨hx, hy⟩ := sg_f6 hf
    rw [e]
    refine ⟨sg_L_in hx hn, br_f (by decide) ⟨sg_L_in hy hn, br_f (by decide) (sg_yMade (by omega) hd0 ⟨hin, nm_e ?_⟩)⟩⟩
    rw [if_pos e] at hp ⊢
    exact hp
  · rw [e] at hf
    obtain ⟨hx, hy, hz⟩ := sg_f13 hf
    rw [e]
    refine ⟨sg_L_in hx hn, br_f (by decide) ⟨sg_L_in hy hn, br_t rfl ⟨hin, sg_L_in hz hn, sg_yMade (by omega) hd0 ⟨hin, nm_e ?_⟩⟩⟩⟩
    exact hp
  · rw [e] at hf
    have hx := sg_f14 hf
    rw [e]
    refine ⟨sg_L_in hx hn, br_t rfl (br_f (by decide) (sg_yMade (by omega) hd0 ⟨hin, nm_e ?_⟩))⟩
    rw [e] at hp ⊢
    exact hp
theorem sg_dc_VV {j : Nat} (hn : n ≤ 24) (hf : sg_fit K n (K j) (A j) (B j) (C j)) (hd : sg_dv (K j)) : sg_dc K A B C (sg_VV K v F) j = sg_dc K A B C F j := by
  have cl : ∀ x, sg_L K n x → sg_VV K v F x.toNatClampNeg = F x.toNatClampNeg := by
    rintro x ⟨a, ha, ea, hc⟩
    rw [ea, nI_clamp (by omega), sg_VV_c hc]
  unfold sg_dc
  rcases hd with e | e | e
  · rw [e] at hf ⊢
    obtain ⟨hx, hy⟩ := sg_f6 hf
    rw [if_pos rfl, if_pos rfl, cl _ hx, cl _ hy]
  · rw [e] at hf ⊢
    obtain ⟨hx, hy, hz⟩ := sg_f13 hf
    rw [cl _ hx, cl _ hy, cl _ hz]
  · rw [e] at hf ⊢
    have hx := sg_f14 hf
    rw [if_neg (by decide), if_neg (by decide), if_neg (by decide), if_neg (by decide), cl _ hx]
theorem sg_yWork {post : SY → Prop} {j : Nat} (hn : n ≤ 24) (hj : j < n) (hw : sg_wf n K A B C) (hh : ∀ j, h j = 0 ∨ h j = 1) (hpb : ∀ j, p j = 0 ∨ p j = 1)
    (pc : sg_ce (K j) → post (nI n, c, K, A, B, C, h, v, upd F j (sg_v K A B h (sg_VV K v F) v p p g g C j), T, d, p, g))
    (p0 : ¬ sg_ce (K j) → sg_h K A B h (sg_VV K v F) v p p C j = 0 → post (nI n, c, K, A, B, C, upd h j 0, upd v j 0, F, T, d, p, g))
    (p1 : ¬ sg_ce (K j) → K j ≠ 8 → K j ≠ 12 → sg_h K A B h (sg_VV K v F) v p p C j = 1 → post (nI n, c, K, A, B, C, upd h j 1, upd v j (sg_w K A B (sg_VV K v F) v g g C j), F, T, d, p, g))
    (p8 : K j = 8 → sg_h K A B h (sg_VV K v F) v p p C j = 1 → post (nI n, c, K, A, B, C, upd h j 1, upd v j (sg_w K A B (sg_VV K v F) v g g C j), F, T, d, p, upd g j (sg_w K A B (sg_VV K v F) v g g C j)))
    (p12 : K j = 12 → sg_h K A B h (sg_VV K v F) v p p C j = 1 → post (nI n, c, K, A, B, C, upd h j 1, upd v j (sg_w K A B (sg_VV K v F) v g g C j), F, T, d, upd p j 1, g)) : wpY_work post (nI n, c, K, A, B, C, h, v, F, T, d, p, g) (nI j) := by
  have hf := sg_wf_n hw hj
  unfold wpY_work
  dsimp only
  have hin : vp_in (nI j) 24 := vp_in_nI (by omega) (by omega)
  have hcl : (nI j).toNatClampNeg = j := nI_clamp (by omega)
  have hj24 : j < 24 := by omega
  rw [hcl]
  refine ⟨hin, nm_e ⟨hin, nm_e ⟨hin, nm_e ?_⟩⟩⟩
  have vE : ∀ x, sg_E K n x → sg_VV K v F x.toNatClampNeg = v x.toNatClampNeg := by
    rintro x ⟨a, ha, ea, hc⟩
    rw [ea, nI_clamp (by omega), sg_VV_e hc]
  have vL : ∀ x, sg_L K n x → sg_VV K v F x.toNatClampNeg = F x.toNatClampNeg := by
    rintro x ⟨a, ha, ea, hc⟩
    rw [ea, nI_clamp (by omega), sg_VV_c hc]
  have n1 : ∀ x : Int32, x = 0 ∨ x = 1 → ¬ x = 0 → x = 1 := fun x a b => a.resolve_left b
  have ev : ∀ q : Int32, K j = q → (q = 4 ∨ q = 6 ∨ q = 13 ∨ q = 14 → False) → ¬ sg_ce (K j) := fun q e hq hc => hq (e ▸ hc)
  refine sg_fit_cases hf ?_ ?_ ?_ ?_ ?_ ?_ ?_ ?_ ?_ ?_ ?_ ?_ ?_ ?_ ?_ <;> intro e
  · -- 0
    have nc := ev 0 e (by decide)
    have n8 : K j ≠ 8 := by rw [e]; decide
    have n12 : K j ≠ 12 := by rw [e]; decide
    have hS : sg_h K A B h (sg_VV K v F) v p p C j = p j := by unfold sg_h; simp (decide := true) only [e, if_true, if_false]
    have hV : sg_w K A B (sg_VV K v F) v g g C j = g j := by unfold sg_w; simp (decide := true) only [e, if_true, if_false]
    rw [hS] at p0 p1; rw [hV] at p1
    refine br_t e ?_
    unfold wY_work_32
    rw [hcl]
    exact ⟨hin, hin, sg_yGive hj24 (hpb j) (fun z => p0 nc z) (fun z => p1 nc n8 n12 z)⟩
  · -- 1
    intro hx
    have nc := ev 1 e (by decide)
    have n8 : K j ≠ 8 := by rw [e]; decide
    have n12 : K j ≠ 12 := by rw [e]; decide
    have hS : sg_h K A B h (sg_VV K v F) v p p C j = h (A j).toNatClampNeg := by unfold sg_h; simp (decide := true) only [e, if_true, if_false]
    have hV : sg_w K A B (sg_VV K v F) v g g C j = v (A j).toNatClampNeg * B j + C j := by unfold sg_w; simp (decide := true) only [e, if_true, if_false, vE _ hx]
    rw [hS] at p0 p1; rw [hV] at p1
    rw [e]
    iterate 9 refine br_f (by decide) ?_
    unfold wpY_single
    dsimp only
    rw [hcl]
    refine ⟨hin, nm_e (br_t rfl ⟨sg_E_in hx hn, sg_E_in hx hn, hin, sg_yGive hj24 (hh _) (fun z => ?_) (fun z => ?_)⟩)⟩
    · exact br_f (by decide) (br_f (by decide) (br_f (by decide) (br_f (by decide) (br_f (by decide) (p0 nc z)))))
    · exact br_f (by decide) (br_f (by decide) (br_f (by decide) (br_f (by decide) (br_f (by decide) (p1 nc n8 n12 z)))))
  · -- 2
    intro hx
    have nc := ev 2 e (by decide)
    have n8 : K j ≠ 8 := by rw [e]; decide
    have n12 : K j ≠ 12 := by rw [e]; decide
    have hS : sg_h K A B h (sg_VV K v F) v p p C j = if h (A j).toNatClampNeg = 0 then 0 else if v (A j).toNatClampNeg < B j then 0 else 1 := by unfold sg_h; simp (decide := true) only [e, if_true, if_false, vE _ hx]
    have hV : sg_w K A B (sg_VV K v F) v g g C j = v (A j).toNatClampNeg := by unfold sg_w; simp (decide := true) only [e, if_true, if_false, vE _ hx]
    rw [hS] at p0 p1; rw [hV] at p1
    rw [e]
    iterate 9 refine br_f (by decide) ?_
    unfold wpY_single
    dsimp only
    rw [hcl]
    refine ⟨hin, nm_e (br_f (by decide) (br_t rfl ⟨sg_E_in hx hn, br_c (fun y => ?_) (fun y => ?_)⟩))⟩
    · refine sg_yCopy hj24 (sg_E_in hx hn) (fun _ => ?_) (fun z => absurd rfl z)
      refine br_f (by decide) (br_f (by decide) (br_f (by decide) (br_f (by decide) (p0 nc ?_))))
      rw [if_pos y, ite_self]
    · refine sg_yCopy hj24 (sg_E_in hx hn) (fun z => ?_) (fun _ z => ?_)
      · refine br_f (by decide) (br_f (by decide) (br_f (by decide) (br_f (by decide) (p0 nc ?_))))
        rw [if_pos (z.resolve_left (by decide))]
      · refine br_f (by decide) (br_f (by decide) (br_f (by decide) (br_f (by decide) (p1 nc n8 n12 ?_))))
        rw [if_neg z, if_neg y]
  · -- 3
    intro hx hy
    have nc := ev 3 e (by decide)
    have n8 : K j ≠ 8 := by rw [e]; decide
    have n12 : K j ≠ 12 := by rw [e]; decide
    have hS : sg_h K A B h (sg_VV K v F) v p p C j = if h (A j).toNatClampNeg = 0 then (if h (B j).toNatClampNeg = 0 then 0 else 1) else 1 := by unfold sg_h; simp (decide := true) only [e, if_true, if_false]
    have hV : sg_w K A B (sg_VV K v F) v g g C j = v (A j).toNatClampNeg + v (B j).toNatClampNeg := by unfold sg_w; simp (decide := true) only [e, if_true, if_false, vE _ hx, vE _ hy]
    rw [hS] at p0 p1; rw [hV] at p1
    rw [e]
    iterate 2 refine br_f (by decide) ?_
    refine br_t rfl ⟨sg_E_in hx hn, br_c (fun z => ⟨sg_E_in hy hn, br_c (fun y => ?_) (fun y => ?_)⟩) (fun z => ?_)⟩
    · exact ⟨sg_E_in hx hn, sg_E_in hy hn, sg_yGive hj24 (Or.inl rfl) (fun _ => p0 nc (by rw [if_pos z, if_pos y])) (fun q => absurd q (by decide))⟩
    · exact ⟨sg_E_in hx hn, sg_E_in hy hn, sg_yGive hj24 (Or.inr rfl) (fun q => absurd q (by decide)) (fun _ => p1 nc n8 n12 (by rw [if_pos z, if_neg y]))⟩
    · exact ⟨sg_E_in hx hn, sg_E_in hy hn, sg_yGive hj24 (Or.inr rfl) (fun q => absurd q (by decide)) (fun _ => p1 nc n8 n12 (by rw [if_neg z]))⟩
  · -- 4
    intro hx
    have hc := pc (Or.inl e)
    unfold sg_v at hc
    rw [if_pos e] at hc
    rw [e]
    iterate 3 refine br_f (by decide) ?_
    refine br_t rfl ?_
    rcases hx with hx | hx
    · rw [if_pos hx] at hc
      exact br_t (by rw [hx]; decide) ⟨hin, hin, nm_e hc⟩
    · have hpos : ¬ A j < 0 ∧ ¬ A j = -1 := by
        obtain ⟨a, ha, ea, _⟩ := hx
        rw [ea]
        exact ⟨nI_pos (by omega), sg_ne1 (by omega)⟩
      rw [if_neg hpos.2, vE _ hx] at hc
      refine br_f hpos.1 ⟨sg_E_in hx hn, br_c (fun z => ⟨hin, hin, nm_e ?_⟩) (fun z => ⟨sg_E_in hx hn, hin, nm_e ?_⟩)⟩
      · rw [if_pos z] at hc; exact hc
      · rw [if_neg z] at hc; exact hc
  · -- 5
    intro hx hy
    have nc := ev 5 e (by decide)
    have n8 : K j ≠ 8 := by rw [e]; decide
    have n12 : K j ≠ 12 := by rw [e]; decide
    have hS : sg_h K A B h (sg_VV K v F) v p p C j = h (A j).toNatClampNeg := by unfold sg_h; simp (decide := true) only [e, if_true, if_false]
    have hV : sg_w K A B (sg_VV K v F) v g g C j = v (A j).toNatClampNeg + v (B j).toNatClampNeg := by unfold sg_w; simp (decide := true) only [e, if_true, if_false, vE _ hx]
    rw [hS] at p0 p1; rw [hV] at p1
    rw [e]
    iterate 9 refine br_f (by decide) ?_
    unfold wpY_single
    dsimp only
    rw [hcl]
    refine ⟨hin, nm_e (br_f (by decide) (br_f (by decide) (br_t rfl ⟨sg_E_in hx hn, sg_E_in hx hn, sg_L_in hy hn, sg_yGive hj24 (hh _) (fun z => ?_) (fun z => ?_)⟩)))⟩
    · exact br_f (by decide) (br_f (by decide) (br_f (by decide) (p0 nc z)))
    · exact br_f (by decide) (br_f (by decide) (br_f (by decide) (p1 nc n8 n12 z)))
  · -- 6
    intro hx hy
    have hc := pc (Or.inr (Or.inl e))
    unfold sg_v at hc
    rw [sg_dc_VV hn hf (Or.inl e), if_neg (by rw [e]; decide), if_pos e] at hc
    have hk := sg_yw163 (post := post) hn hj hf (Or.inl e) hc
    rw [e] at hk ⊢
    iterate 4 refine br_f (by decide) ?_
    exact br_t rfl hk
  · -- 7
    intro hx hy
    have nc := ev 7 e (by decide)
    have n8 : K j ≠ 8 := by rw [e]; decide
    have n12 : K j ≠ 12 := by rw [e]; decide
    have hS : sg_h K A B h (sg_VV K v F) v p p C j = if h (A j).toNatClampNeg = 0 then 0 else if v (B j).toNatClampNeg = 0 then 0 else 1 := by unfold sg_h; simp (decide := true) only [e, if_true, if_false]
    have hV : sg_w K A B (sg_VV K v F) v g g C j = v (A j).toNatClampNeg := by unfold sg_w; simp (decide := true) only [e, if_true, if_false, vE _ hx]
    rw [hS] at p0 p1; rw [hV] at p1
    rw [e]
    iterate 9 refine br_f (by decide) ?_
    unfold wpY_single
    dsimp only
    rw [hcl]
    refine ⟨hin, nm_e (br_f (by decide) (br_f (by decide) (br_f (by decide) (br_t rfl ⟨sg_L_in hy hn, br_c (fun y => ?_) (fun y => ?_)⟩))))⟩
    · refine sg_yCopy hj24 (sg_E_in hx hn) (fun _ => ?_) (fun z => absurd rfl z)
      refine br_f (by decide) (br_f (by decide) (p0 nc ?_))
      rw [if_pos y, ite_self]
    · refine sg_yCopy hj24 (sg_E_in hx hn) (fun z => ?_) (fun _ z => ?_)
      · refine br_f (by decide) (br_f (by decide) (p0 nc ?_))
        rw [if_pos (z.resolve_left (by decide))]
      · refine br_f (by decide) (br_f (by decide) (p1 nc n8 n12 ?_))
        rw [if_neg z, if_neg y]
  · -- 8
    intro hx
    have nc := ev 8 e (by decide)
    have hS : sg_h K A B h (sg_VV K v F) v p p C j = h (A j).toNatClampNeg := by unfold sg_h; simp (decide := true) only [e, if_true, if_false]
    have hV : sg_w K A B (sg_VV K v F) v g g C j = g j + v (A j).toNatClampNeg := by unfold sg_w; simp (decide := true) only [e, if_true, if_false, vE _ hx]
    rw [hS] at p0 p8; rw [hV] at p8
    have p8 := p8 e
    rw [e]
    iterate 9 refine br_f (by decide) ?_
    unfold wpY_single
    dsimp only
    rw [hcl]
    refine ⟨hin, nm_e (br_f (by decide) (br_f (by decide) (br_f (by decide) (br_f (by decide) (br_t rfl ⟨sg_E_in hx hn, br_c (fun z => ?_) (fun z => ⟨hin, sg_E_in hx hn, hin, nm_e ?_⟩)⟩)))))⟩
    · exact ⟨sg_E_in hx hn, hin, sg_yGive hj24 (hh _) (fun q => br_f (by decide) (p0 nc q)) (fun q => absurd (z.symm.trans q) (by decide))⟩
    · rw [hcl]
      refine ⟨sg_E_in hx hn, hin, ?_⟩
      rw [hcl, pk_us]
      exact sg_yGive hj24 (hh _) (fun q => absurd q z) (fun q => br_f (by decide) (p8 q))
  · -- 9
    intro hx
    have nc := ev 9 e (by decide)
    have n8 : K j ≠ 8 := by rw [e]; decide
    have n12 : K j ≠ 12 := by rw [e]; decide
    have hS : sg_h K A B h (sg_VV K v F) v p p C j = if F (A j).toNatClampNeg = v (A j).toNatClampNeg then 0 else 1 := by unfold sg_h; simp (decide := true) only [e, if_true, if_false, vL _ hx]
    have hV : sg_w K A B (sg_VV K v F) v g g C j = F (A j).toNatClampNeg := by unfold sg_w; simp (decide := true) only [e, if_true, if_false, vL _ hx]
    rw [hS] at p0 p1; rw [hV] at p1
    rw [e]
    iterate 7 refine br_f (by decide) ?_
    refine br_t rfl ⟨sg_L_in hx hn, sg_L_in hx hn, br_c (fun z => ?_) (fun z => ?_)⟩
    · exact ⟨sg_L_in hx hn, sg_yGive hj24 (Or.inl rfl) (fun _ => p0 nc (by rw [if_pos z])) (fun q => absurd q (by decide))⟩
    · exact ⟨sg_L_in hx hn, sg_yGive hj24 (Or.inr rfl) (fun q => absurd q (by decide)) (fun _ => p1 nc n8 n12 (by rw [if_neg z]))⟩
  · -- 10
    intro hx hy hz
    have nc := ev 10 e (by decide)
    have n8 : K j ≠ 8 := by rw [e]; decide
    have n12 : K j ≠ 12 := by rw [e]; decide
    have hS : sg_h K A B h (sg_VV K v F) v p p C j = if v (A j).toNatClampNeg = 0 then h (C j).toNatClampNeg else h (B j).toNatClampNeg := by unfold sg_h; simp (decide := true) only [e, if_true, if_false]
    have hV : sg_w K A B (sg_VV K v F) v g g C j = if v (A j).toNatClampNeg = 0 then v (C j).toNatClampNeg else v (B j).toNatClampNeg := by unfold sg_w; simp (decide := true) only [e, if_true, if_false, vE _ hy, vE _ hz]
    rw [hS] at p0 p1; rw [hV] at p1
    rw [e]
    iterate 8 refine br_f (by decide) ?_
    refine br_t rfl ⟨sg_L_in hx hn, br_c (fun y => ⟨hin, ?_⟩) (fun y => ?_)⟩
    · rw [if_pos y] at p0 p1
      rw [if_pos y] at p1
      exact sg_yCopy hj24 (sg_E_in hz hn) (fun q => p0 nc (q.resolve_left (by decide))) (fun _ q => p1 nc n8 n12 (n1 _ (hh _) q))
    · rw [if_neg y] at p0 p1
      rw [if_neg y] at p1
      exact sg_yCopy hj24 (sg_E_in hy hn) (fun q => p0 nc (q.resolve_left (by decide))) (fun _ q => p1 nc n8 n12 (n1 _ (hh _) q))
  · -- 11
    intro _
    have nc := ev 11 e (by decide)
    have n8 : K j ≠ 8 := by rw [e]; decide
    have n12 : K j ≠ 12 := by rw [e]; decide
    have hS : sg_h K A B h (sg_VV K v F) v p p C j = p j := by unfold sg_h; simp (decide := true) only [e, if_true, if_false]
    have hV : sg_w K A B (sg_VV K v F) v g g C j = g j := by unfold sg_w; simp (decide := true) only [e, if_true, if_false]
    rw [hS] at p0 p1; rw [hV] at p1
    rw [e]
    refine br_f (by decide) (br_t rfl ?_)
    unfold wY_work_32
    rw [hcl]
    exact ⟨hin, hin, sg_yGive hj24 (hpb j) (fun z => p0 nc z) (fun z => p1 nc n8 n12 z)⟩
  · -- 12
    intro hx
    have nc := ev 12 e (by decide)
    have hS : sg_h K A B h (sg_VV K v F) v p p C j = if h (A j).toNatClampNeg = 0 then 0 else if p j = 0 then 1 else 0 := by unfold sg_h; simp (decide := true) only [e, if_true, if_false]
    have hV : sg_w K A B (sg_VV K v F) v g g C j = v (A j).toNatClampNeg := by unfold sg_w; simp (decide := true) only [e, if_true, if_false, vE _ hx]
    rw [hS] at p0 p12; rw [hV] at p12
    have p12 := p12 e
    rw [e]
    iterate 9 refine br_f (by decide) ?_
    unfold wpY_single
    dsimp only
    rw [hcl]
    have h199 : (if h (A j).toNatClampNeg = 0 then (0 : Int32) else if p j = 0 then 1 else 0) = 0 → wY_single_199 post (nI j) (A j) (nI n) c K A B C h v F T d p g := by
      intro q
      exact sg_yCopy hj24 (sg_E_in hx hn) (fun _ => br_t rfl (p0 nc q)) (fun z => absurd rfl z)
    refine ⟨hin, nm_e (br_f (by decide) (br_f (by decide) (br_f (by decide) (br_f (by decide) (br_f (by decide) (br_t rfl ⟨sg_E_in hx hn, br_c (fun z => h199 (by rw [if_pos z])) (fun z => ⟨hin, ?_⟩)⟩))))))⟩
    rw [hcl]
    refine br_c (fun y => ?_) (fun y => h199 (by rw [if_neg z, if_neg y]))
    refine sg_yCopy hj24 (sg_E_in hx hn) (fun q => absurd (q.resolve_left (by decide)) z) (fun _ _ => br_f (by decide) ⟨hin, ?_⟩)
    rw [hcl, sg_vb1]
    exact nm_e (p12 (by rw [if_neg z, if_pos y]))
  · -- 13
    intro hx hy hz
    have hc := pc (Or.inr (Or.inr (Or.inl e)))
    unfold sg_v at hc
    rw [sg_dc_VV hn hf (Or.inr (Or.inl e)), if_neg (by rw [e]; decide), if_neg (by rw [e]; decide), if_pos e] at hc
    have hk := sg_yw163 (post := post) hn hj hf (Or.inr (Or.inl e)) hc
    rw [e] at hk ⊢
    iterate 5 refine br_f (by decide) ?_
    exact br_t rfl hk
  · -- 14
    intro hx
    have hc := pc (Or.inr (Or.inr (Or.inr e)))
    unfold sg_v at hc
    rw [sg_dc_VV hn hf (Or.inr (Or.inr e)), if_neg (by rw [e]; decide), if_neg (by rw [e]; decide), if_neg (by rw [e]; decide), if_pos e] at hc
    have hk := sg_yw163 (post := post) hn hj hf (Or.inr (Or.inr e)) hc
    rw [e] at hk ⊢
    iterate 6 refine br_f (by decide) ?_
    exact br_t rfl hk
end
end
section
section
variable {n k : Nat} {o l c : Int32} {K A B C H V D T W U S O h v F d p g : Nat → Int32}
theorem sg_yReady {post : Int32 → Prop} {j : Nat} (hn : n ≤ 24) (hw : sg_wf n K A B C) (hj : j < n) (h1 : (∀ m, sg_P n K A B C j m → ¬ d m = 0) → d j = 0 → post 1) (h0 : ¬ ((∀ m, sg_P n K A B C j m → ¬ d m = 0) ∧ d j = 0) → post 0) : wpY_isReady post (nI n, c, K, A, B, C, h, v, F, T, d, p, g) (nI j) := by
  unfold wpY_isReady
  dsimp only
  have hin : vp_in (nI j) 24 := vp_in_nI (by omega) (by omega)
  have hcl : (nI j).toNatClampNeg = j := nI_clamp (by omega)
  refine loop_0 (σ := Unit) (fun f i _ => wY_isReady_2 post (nI j) (nI n) c K A B C h v F T d p g f (nI i)) (fun i _ => ∀ q m, q < i → m < 24 → sg_pt (K j) (A j) (B j) (C j) q = nI m → ¬ d m = 0) 3 () (fun q m hq => absurd hq (by omega)) ?_ ?_
  · rintro f _ a
    refine br_t (nI_le (a := 3) (b := 3) (by omega) (by omega)) ⟨hin, ?_⟩
    rw [hcl]
    refine br_c (fun z => h1 ?_ z) (fun z => h0 fun q => z q.2)
    rintro m ⟨_, hm, i, hi, e⟩
    exact a i m hi hm e
  · rintro f i _ hi a ih
    refine br_f (nI_ge (b := 3) hi (by omega)) (sg_yPt (by omega) hi (br_c (fun hneg => nm_r (nI_1 i) (ih () ?_)) (fun hpos => sg_yPt (by omega) hi ?_)))
    · intro q m hq hm e
      by_cases eq : q = i
      · subst eq
        rw [e] at hneg
        exact absurd hneg (nI_pos (by omega))
      · exact a q m (by omega) hm e
    · obtain ⟨m, hm, em, hP⟩ := sg_pt_P hn hw hj hi hpos
      rw [em]
      refine ⟨vp_in_nI (by omega) (by omega), ?_⟩
      rw [nI_clamp (by omega)]
      refine br_c (fun z => h0 fun q => q.1 m hP z) (fun z => nm_r (nI_1 i) (ih () ?_))
      intro q m' hq hm' e
      by_cases eq : q = i
      · subst eq
        rw [em, nI_eq (by omega) (by omega)] at e
        subst e
        exact z
      · exact a q m' (by omega) hm' e
/-- the reference in the midst of its rounds, against the end values H1, V1 -/
def sg_IY (n : Nat) (K H V H1 V1 p0 g0 h v F d p g : Nat → Int32) : Prop :=
  (∀ j, h j = 0 ∨ h j = 1) ∧ (∀ j, p j = 0 ∨ p j = 1) ∧ (∀ j, j < n → sg_ce (K j) → v j = V j ∧ h j = 0)
  ∧ (∀ j, j < n → ¬ d j = 0 → ¬ sg_ce (K j) → h j = H1 j ∧ v j = V1 j) ∧ (∀ j, j < n → ¬ d j = 0 → sg_ce (K j) → F j = V1 j)
  ∧ (∀ j, n ≤ j → h j = H j ∧ v j = V j)
  ∧ (∀ j, p j = if j < n ∧ K j = 12 ∧ ¬ d j = 0 ∧ ¬ H1 j = 0 then 1 else p0 j)
  ∧ (∀ j, g j = if j < n ∧ K j = 8 ∧ ¬ d j = 0 ∧ ¬ H1 j = 0 then V1 j else g0 j)
/-- one node more -/
theorem sg_yStep {post : SY → Prop} {j : Nat} {H1 V1 p0 g0 : Nat → Int32} (hn : n ≤ 24) (hw : sg_wf n K A B C) (hj : j < n)
    (hI : sg_IY n K H V H1 V1 p0 g0 h v F d p g) (hloc : sg_Loc n K A B C H1 V1 D W T U S j) (hD : ∀ m, m < n → D m = V m)
    (hWU : K j = 0 ∨ K j = 11 → p0 j = W j ∧ g0 j = U j) (hS8 : K j = 8 → g0 j = S j) (hT12 : K j = 12 → (p0 j = 0 ↔ T j = 0))
    (hH1c : sg_ce (K j) → H1 j = 0) (hready : ∀ m, sg_P n K A B C j m → ¬ d m = 0) (hdj : d j = 0)
    (hp : ∀ h' v' F' p' g', sg_IY n K H V H1 V1 p0 g0 h' v' F' (upd d j 1) p' g' → post (nI n, c, K, A, B, C, h', v', F', T, d, p', g')) : wpY_work post (nI n, c, K, A, B, C, h, v, F, T, d, p, g) (nI j) := by
  obtain ⟨a1, a2, a3, a4, a5, a6, a7, a8⟩ := hI
  have hpj : p j = p0 j := by rw [a7 j, if_neg (fun z => z.2.2.1 hdj)]
  have hgj : g j = g0 j := by rw [a8 j, if_neg (fun z => z.2.2.1 hdj)]
  obtain ⟨e1, e2⟩ := sg_hv_cg (H1 := h) (H2 := H1) (V1 := sg_VV K v F) (V2 := V1) (Z1 := v) (Z2 := D) (wt1 := p) (wt2 := W) (on1 := p) (on2 := T) (wv1 := g) (wv2 := U) (cs1 := g) (cs2 := S) hn hj hw
    (fun m hm hc => (a4 m (sg_P_lt hn hw hm) (hready m hm) hc).1)
    (fun m hm => by
      by_cases hc : sg_ce (K m)
      · rw [sg_VV_c hc]; exact a5 m (sg_P_lt hn hw hm) (hready m hm) hc
      · rw [sg_VV_e hc]; exact (a4 m (sg_P_lt hn hw hm) (hready m hm) hc).2)
    (fun m hm hc => by rw [(a3 m hm hc).1, hD m hm])
    (fun e => by rw [hpj]; exact (hWU e).1) (fun e => by rw [hgj]; exact (hWU e).2) (fun e => by rw [hgj]; exact hS8 e) (fun e => by rw [hpj]; exact hT12 e)
  obtain ⟨l1, l2⟩ := hloc
  rw [← l1] at e1
  rw [← l2] at e2
  have hev : ¬ sg_ce (K j) → V1 j = if H1 j = 0 then 0 else sg_w K A B (sg_VV K v F) v g g C j := by
    intro hc
    rw [← e2]
    unfold sg_v
    rw [if_neg (fun e => hc (Or.inl e)), if_neg (fun e => hc (Or.inr (Or.inl e))), if_neg (fun e => hc (Or.inr (Or.inr (Or.inl e)))), if_neg (fun e => hc (Or.inr (Or.inr (Or.inr e)))), e1]
  have u1 : ∀ m, m ≠ j → (upd d j 1 m = 0 ↔ d m = 0) := fun m hm => by rw [pk_un hm]
  have uj : ¬ upd d j 1 j = 0 := by rw [pk_us]; decide
  -- what holds for other nodes
  have o4 : ∀ {h' v' : Nat → Int32}, (∀ m, m ≠ j → h' m = h m ∧ v' m = v m) → (¬ sg_ce (K j) → h' j = H1 j ∧ v' j = V1 j) → ∀ m, m < n → ¬ upd d j 1 m = 0 → ¬ sg_ce (K m) → h' m = H1 m ∧ v' m = V1 m := by
    intro h' v' ho hjj m hm hd hc
    by_cases e : m = j
    · subst e; exact hjj hc
    · rw [(ho m e).1, (ho m e).2]
      exact a4 m hm (fun z => hd ((u1 m e).mpr z)) hc
  have o5 : ∀ {F' : Nat → Int32}, (∀ m, m ≠ j → F' m = F m) → (sg_ce (K j) → F' j = V1 j) → ∀ m, m < n → ¬ upd d j 1 m = 0 → sg_ce (K m) → F' m = V1 m := by
    intro F' ho hjj m hm hd hc
    by_cases e : m = j
    · subst e; exact hjj hc
    · rw [ho m e]
      exact a5 m hm (fun z => hd ((u1 m e).mpr z)) hc
  have o7 : ∀ {p' : Nat → Int32}, (∀ m, m ≠ j → p' m = p m) → (p' j = if K j = 12 ∧ ¬ H1 j = 0 then 1 else p0 j) → ∀ m, p' m = if m < n ∧ K m = 12 ∧ ¬ upd d j 1 m = 0 ∧ ¬ H1 m = 0 then 1 else p0 m := by
    intro p' ho hjj m
    by_cases e : m = j
    · subst e
      rw [hjj]
      by_cases z : K m = 12 ∧ ¬ H1 m = 0
      · rw [if_pos z, if_pos ⟨hj, z.1, uj, z.2⟩]
      · rw [if_neg z, if_neg (fun y => z ⟨y.2.1, y.2.2.2⟩)]
    · rw [ho m e, a7 m]
      simp only [u1 m e]
  have o8 : ∀ {g' : Nat → Int32}, (∀ m, m ≠ j → g' m = g m) → (g' j = if K j = 8 ∧ ¬ H1 j = 0 then V1 j else g0 j) → ∀ m, g' m = if m < n ∧ K m = 8 ∧ ¬ upd d j 1 m = 0 ∧ ¬ H1 m = 0 then V1 m else g0 m := by
    intro g' ho hjj m
    by_cases e : m = j
    · subst e
      rw [hjj]
      by_cases z : K m = 8 ∧ ¬ H1 m = 0
      · rw [if_pos z, if_pos ⟨hj, z.1, uj, z.2⟩]
      · rw [if_neg z, if_neg (fun y => z ⟨y.2.1, y.2.2.2⟩)]
    · rw [ho m e, a8 m]
      simp only [u1 m e]
  have b1 : ∀ x : Int32, x = 0 ∨ x = 1 → ∀ m, upd h j x m = 0 ∨ upd h j x m = 1 := by
    intro x hx m
    by_cases e : m = j
    · subst e; rw [pk_us]; exact hx
    · rw [pk_un e]; exact a1 m
  have b3 : ∀ x y : Int32, ¬ sg_ce (K j) → ∀ m, m < n → sg_ce (K m) → upd v j y m = V m ∧ upd h j x m = 0 := by
    intro x y hc m hm hcm
    have e : m ≠ j := by intro e; subst e; exact hc hcm
    rw [pk_un e, pk_un e]
    exact a3 m hm hcm
  have b6 : ∀ x y : Int32, ∀ m, n ≤ m → upd h j x m = H m ∧ upd v j y m = V m := by
    intro x y m hm
    rw [pk_un (by omega), pk_un (by omega)]
    exact a6 m hm
  have up : ∀ {f : Nat → Int32} {x : Int32}, ∀ m, m ≠ j → upd f j x m = f m := fun m hm => pk_un hm
  have keep7 : ¬ (K j = 12 ∧ ¬ H1 j = 0) → ∀ m, p m = if m < n ∧ K m = 12 ∧ ¬ upd d j 1 m = 0 ∧ ¬ H1 m = 0 then 1 else p0 m := fun z => o7 (fun _ _ => rfl) (by rw [if_neg z]; exact hpj)
  have keep8 : ¬ (K j = 8 ∧ ¬ H1 j = 0) → ∀ m, g m = if m < n ∧ K m = 8 ∧ ¬ upd d j 1 m = 0 ∧ ¬ H1 m = 0 then V1 m else g0 m := fun z => o8 (fun _ _ => rfl) (by rw [if_neg z]; exact hgj)
  refine sg_yWork hn hj hw a1 a2 ?_ ?_ ?_ ?_ ?_
  · intro hc
    refine hp _ _ _ _ _ ⟨a1, a2, a3, o4 (fun _ _ => ⟨rfl, rfl⟩) (fun z => absurd hc z), o5 up (fun _ => ?_), a6, keep7 (fun z => z.2 (hH1c hc)), keep8 (fun z => z.2 (hH1c hc))⟩
    rw [pk_us, e2]
  · intro hc hS
    rw [e1] at hS
    refine hp _ _ _ _ _ ⟨b1 0 (Or.inl rfl), a2, b3 0 0 hc, o4 (fun m hm => ⟨up m hm, up m hm⟩) (fun _ => ⟨?_, ?_⟩), o5 (fun _ _ => rfl) (fun z => absurd z hc), b6 0 0, keep7 (fun z => z.2 hS), keep8 (fun z => z.2 hS)⟩
    · rw [pk_us, hS]
    · rw [pk_us, hev hc, if_pos hS]
  · intro hc n8 n12 hS
    rw [e1] at hS
    have hne : ¬ H1 j = 0 := by rw [hS]; decide
    refine hp _ _ _ _ _ ⟨b1 1 (Or.inr rfl), a2, b3 1 _ hc, o4 (fun m hm => ⟨up m hm, up m hm⟩) (fun _ => ⟨?_, ?_⟩), o5 (fun _ _ => rfl) (fun z => absurd z hc), b6 1 _, keep7 (fun z => n12 z.1), keep8 (fun z => n8 z.1)⟩
    · rw [pk_us, hS]
    · rw [pk_us, hev hc, if_neg hne]
  · intro e8 hS
    rw [e1] at hS
    have hne : ¬ H1 j = 0 := by rw [hS]; decide
    have hc : ¬ sg_ce (K j) := by
      intro hc
      rw [e8] at hc
      rcases hc with z | z | z | z <;> exact absurd z (by decide)
    refine hp _ _ _ _ _ ⟨b1 1 (Or.inr rfl), a2, b3 1 _ hc, o4 (fun m hm => ⟨up m hm, up m hm⟩) (fun _ => ⟨?_, ?_⟩), o5 (fun _ _ => rfl) (fun z => absurd z hc), b6 1 _, keep7 (fun z => absurd (e8.symm.trans z.1) (by decide)), o8 up ?_⟩
    · rw [pk_us, hS]
    · rw [pk_us, hev hc, if_neg hne]
    · rw [pk_us, if_pos ⟨e8, hne⟩, hev hc, if_neg hne]
  · intro e12 hS
    rw [e1] at hS
    have hne : ¬ H1 j = 0 := by rw [hS]; decide
    have hc : ¬ sg_ce (K j) := by
      intro hc
      rw [e12] at hc
      rcases hc with z | z | z | z <;> exact absurd z (by decide)
    refine hp _ _ _ _ _ ⟨b1 1 (Or.inr rfl), ?_, b3 1 _ hc, o4 (fun m hm => ⟨up m hm, up m hm⟩) (fun _ => ⟨?_, ?_⟩), o5 (fun _ _ => rfl) (fun z => absurd z hc), b6 1 _, o7 up ?_, keep8 (fun z => absurd (e12.symm.trans z.1) (by decide))⟩
    · intro m
      by_cases e : m = j
      · subst e; exact Or.inr pk_us
      · rw [pk_un e]; exact a2 m
    · rw [pk_us, hS]
    · rw [pk_us, hev hc, if_neg hne]
    · rw [pk_us, if_pos ⟨e12, hne⟩]
theorem sg_y33 {post : Int32 → SY → Prop} {J : Int32 → Int32 → Int32 → (Nat → Int32) → (Nat → Int32) → (Nat → Int32) → (Nat → Int32) → (Nat → Int32) → (Nat → Int32) → (Nat → Int32) → (Nat → Int32) → (Nat → Int32) → (Nat → Int32) → (Nat → Int32) → Prop} {r : Nat} {rk : Nat → Nat} {H1 V1 p0 g0 : Nat → Int32} (hn : n ≤ 24) (hw : sg_wf n K A B C) (hrk : ∀ j m, sg_P n K A B C j m → rk m < rk j)
    (hloc : ∀ j, j < n → sg_Loc n K A B C H1 V1 D W T U S j) (hD : ∀ m, m < n → D m = V m)
    (hWU : ∀ j, j < n → (K j = 0 ∨ K j = 11) → p0 j = W j ∧ g0 j = U j) (hS8 : ∀ j, j < n → K j = 8 → g0 j = S j) (hT12 : ∀ j, j < n → K j = 12 → (p0 j = 0 ↔ T j = 0))
    (hH1c : ∀ j, j < n → sg_ce (K j) → H1 j = 0)
    (hI : sg_IY n K H V H1 V1 p0 g0 h v F d p g) (hr : ∀ j, j < n → rk j < r → ¬ d j = 0)
    (hJ : ∀ h' v' F' d' p' g', sg_IY n K H V H1 V1 p0 g0 h' v' F' d' p' g' → (∀ j, j < n → rk j < r + 1 → ¬ d' j = 0) → J (nI (r + 1)) (nI n) c K A B C h' v' F' T d' p' g') : ∃ f, wY_commit_33 post J (nI r) f 0 (nI n) c K A B C h v F T d p g := by
  refine loop_0 (σ := (Nat → Int32) × (Nat → Int32) × (Nat → Int32) × (Nat → Int32) × (Nat → Int32) × (Nat → Int32)) (fun f i s => wY_commit_33 post J (nI r) f (nI i) (nI n) c K A B C (s.1) (s.2.1) (s.2.2.1) T (s.2.2.2.1) (s.2.2.2.2.1) (s.2.2.2.2.2)) (fun i s => sg_IY n K H V H1 V1 p0 g0 s.1 s.2.1 s.2.2.1 s.2.2.2.1 s.2.2.2.2.1 s.2.2.2.2.2 ∧ (∀ j, ¬ d j = 0 → ¬ s.2.2.2.1 j = 0) ∧ (∀ j, j < i → rk j < r + 1 → ¬ s.2.2.2.1 j = 0)) n (h, v, F, d, p, g) ⟨hI, fun _ z => z, fun j hj => absurd hj (by omega)⟩ ?_ ?_
  · rintro f ⟨h1, v1, F1, d1, p1, g1⟩ ⟨a, b, q⟩
    exact br_t (nI_le (Nat.le_refl n) (by omega)) (nm_r (nI_1 r) (hJ h1 v1 F1 d1 p1 g1 a q))
  · rintro f i ⟨h1, v1, F1, d1, p1, g1⟩ hi ⟨a, b, q⟩ ih
    dsimp only at a b q ⊢
    have hin : vp_in (nI i) 24 := vp_in_nI (by omega) (by omega)
    have hcl : (nI i).toNatClampNeg = i := nI_clamp (by omega)
    refine br_f (nI_ge hi (by omega)) (sg_yReady hn hw hi (fun hready hdi => br_f (by decide) ?_) (fun hno => br_t rfl (nm_r (nI_1 i) (ih (h1, v1, F1, d1, p1, g1) ⟨a, b, ?_⟩))))
    · refine sg_yStep hn hw hi a (hloc i hi) hD (hWU i hi) (hS8 i hi) (hT12 i hi) (hH1c i hi) hready hdi ?_
      intro h' v' F' p' g' hI'
      refine ⟨hin, ?_⟩
      rw [hcl, sg_vb1]
      refine nm_e (nm_r (nI_1 i) (ih (h', v', F', upd d1 i 1, p', g') ⟨hI', ?_, ?_⟩))
      · intro j hj
        dsimp only
        by_cases e : j = i
        · subst e; rw [pk_us]; decide
        · rw [pk_un e]; exact b j hj
      · intro j hj hrj
        dsimp only
        by_cases e : j = i
        · subst e; rw [pk_us]; decide
        · rw [pk_un e]; exact q j (by omega) hrj
    · intro j hj hrj hz
      dsimp only at hz
      by_cases e : j = i
      · subst e
        refine hno ⟨fun m hm => ?_, hz⟩
        have := hrk j m hm
        exact b m (hr m (sg_P_lt hn hw hm) (by omega))
      · exact q j (by omega) hrj hz
theorem sg_y143 {post : Int32 → SY → Prop} {x1 : Int32} (hn : n ≤ 24) (hw : sg_wf n K A B C) (hh : ∀ j, h j = 0 ∨ h j = 1) (hp : post x1 (nI n, c + 1, K, A, B, C, h, v, F, T, d, sg_pw (sg_pW K A h p) p n, sg_pw (sg_pU K A v g) g n)) : ∃ f, wY_commit_143 post x1 (nI n) c f 0 K A B C h v F T d p g := by
  refine loop_0 (σ := (Nat → Int32) × (Nat → Int32)) (fun f i s => wY_commit_143 post x1 (nI n) c f (nI i) K A B C h v F T d (s.1) (s.2)) (fun i s => s.1 = sg_pw (sg_pW K A h p) p i ∧ s.2 = sg_pw (sg_pU K A v g) g i) n (p, g) ⟨sg_pw_0, sg_pw_0⟩ ?_ ?_
  · rintro f ⟨p1, g1⟩ ⟨e1, e2⟩
    dsimp only at e1 e2 ⊢
    subst e1 e2
    exact br_t (nI_le (Nat.le_refl n) (by omega)) (nm_e hp)
  · rintro f i ⟨p1, g1⟩ hi ⟨e1, e2⟩ ih
    dsimp only at e1 e2 ⊢
    have hin : vp_in (nI i) 24 := vp_in_nI (by omega) (by omega)
    have hcl : (nI i).toNatClampNeg = i := nI_clamp (by omega)
    refine br_f (nI_ge hi (by omega)) ⟨hin, ?_⟩
    rw [hcl]
    have kU : K i ≠ 11 → g1 = sg_pw (sg_pU K A v g) g (i + 1) := by
      intro y
      rw [e2]
      refine sg_pw_n ?_
      unfold sg_pU
      rw [if_neg y]
    refine br_c (fun z0 => ⟨hin, nm_e ?_⟩) (fun n0 => ?_)
    · unfold wY_commit_167
      rw [hcl]
      refine ⟨hin, br_f (by rw [z0]; decide) (nm_r (nI_1 i) (ih (upd p1 i (vp_nar .boolean 0), g1) ⟨?_, kU (by rw [z0]; decide)⟩))⟩
      dsimp only
      rw [e1, sg_vb0]
      refine sg_pw_s ?_
      unfold sg_pW
      rw [if_pos z0]
    · unfold wY_commit_167
      rw [hcl]
      refine ⟨hin, br_c (fun z11 => ?_) (fun n11 => nm_r (nI_1 i) (ih (p1, g1) ⟨?_, kU n11⟩))⟩
      · have hE := sg_E_in (sg_fD hw hi z11) hn
        refine ⟨hin, hE, hin, nm_e ⟨hin, hE, hin, nm_e (nm_r (nI_1 i) (ih (upd p1 i (vp_nar .boolean (h (A i).toNatClampNeg)), upd g1 i (v (A i).toNatClampNeg)) ⟨?_, ?_⟩))⟩⟩
        · dsimp only
          rw [e1, sg_vb (hh _)]
          refine sg_pw_s ?_
          unfold sg_pW
          rw [if_neg n0, if_pos z11]
        · dsimp only
          rw [e2]
          refine sg_pw_s ?_
          unfold sg_pU
          rw [if_pos z11]
      · dsimp only
        rw [e1]
        refine sg_pw_n ?_
        unfold sg_pW
        rw [if_neg n0, if_neg n11]
theorem sg_y77 {post : Int32 → SY → Prop} (hn : n ≤ 24) (hw : sg_wf n K A B C) (hh : ∀ j, h j = 0 ∨ h j = 1) (hc0 : ∀ j, j < n → sg_ce (K j) → h j = 0)
    (hp : ∀ v', v' = sg_pw (sg_VV K v F) v n → post (nI (sg_ct (sg_nz h) n)) (nI n, c + 1, K, A, B, C, h, v', F, sg_pw (sg_pT h T) T n, d, sg_pw (sg_pW K A h p) p n, sg_pw (sg_pU K A v' g) g n)) : ∃ f, wY_commit_77 post (nI n) c f 0 0 K A B C h v F T d p g := by
  refine loop_0 (σ := (Nat → Int32) × (Nat → Int32)) (fun f i s => wY_commit_77 post (nI n) c f (nI (sg_ct (sg_nz h) i)) (nI i) K A B C h (s.1) F (s.2) d p g) (fun i s => s.1 = sg_pw (sg_VV K v F) v i ∧ s.2 = sg_pw (sg_pT h T) T i) n (v, T) ⟨sg_pw_0, sg_pw_0⟩ ?_ ?_
  · rintro f ⟨v1, T1⟩ ⟨e1, e2⟩
    dsimp only at e1 e2 ⊢
    subst e2
    exact br_t (nI_le (Nat.le_refl n) (by omega)) (sg_y143 hn hw hh (hp v1 e1))
  · rintro f i ⟨v1, T1⟩ hi ⟨e1, e2⟩ ih
    dsimp only at e1 e2 ⊢
    have hin : vp_in (nI i) 24 := vp_in_nI (by omega) (by omega)
    have hcl : (nI i).toNatClampNeg = i := nI_clamp (by omega)
    refine br_f (nI_ge hi (by omega)) ⟨hin, ?_⟩
    rw [hcl]
    refine sg_yCk (fun hc => br_f (by decide) ⟨hin, hin, nm_e ?_⟩) (fun hc => br_t rfl ⟨hin, br_c (fun z => ?_) (fun z => ?_)⟩)
    · have z := hc0 i hi hc
      rw [sg_nz_0 z]
      refine nm_r (nI_1 i) (ih (upd v1 i (F i), T1) ⟨?_, ?_⟩)
      · dsimp only
        rw [e1]
        exact sg_pw_s (sg_VV_c hc).symm
      · dsimp only
        rw [e2]
        refine sg_pw_n ?_
        unfold sg_pT
        rw [if_pos z]
    · rw [sg_nz_0 z]
      refine nm_r (nI_1 i) (ih (v1, T1) ⟨?_, ?_⟩)
      · dsimp only
        rw [e1]
        exact sg_pw_n (sg_VV_e hc)
      · dsimp only
        rw [e2]
        refine sg_pw_n ?_
        unfold sg_pT
        rw [if_pos z]
    · refine nm_r (nI_1 _) ⟨hin, hin, nm_e ?_⟩
      rw [sg_nz_1 z]
      refine nm_r (nI_1 i) (ih (v1, upd T1 i (T1 i + 1)) ⟨?_, ?_⟩)
      · dsimp only
        rw [e1]
        exact sg_pw_n (sg_VV_e hc)
      · dsimp only
        rw [e2, sg_pw_i]
        refine sg_pw_s ?_
        unfold sg_pT
        rw [if_neg z]
/-- the reference's transaction -/
theorem sg_yCommit {post : Int32 → SY → Prop} {H1 V1 : Nat → Int32} (hn : n ≤ 24) (hw : sg_wf n K A B C) (hac : sg_ac n K A B C)
    (hloc : ∀ j, j < n → sg_Loc n K A B C H1 V1 D W T U S j) (hD : ∀ m, m < n → D m = V m)
    (hWU : ∀ j, j < n → (K j = 0 ∨ K j = 11) → p j = W j ∧ g j = U j) (hS8 : ∀ j, j < n → K j = 8 → g j = S j) (hT12 : ∀ j, j < n → K j = 12 → (p j = 0 ↔ T j = 0))
    (hH : ∀ j, H j = 0 ∨ H j = 1) (hpb : ∀ j, p j = 0 ∨ p j = 1) (hHc : ∀ j, j < n → sg_ce (K j) → H j = 0)
    (hH1c : ∀ j, j < n → sg_ce (K j) → H1 j = 0) (hout : ∀ j, n ≤ j → H1 j = H j ∧ V1 j = V j)
    (hp : ∀ F' d' p' g', (∀ j, p' j = 0 ∨ p' j = 1) → (∀ j, p' j = if j < n ∧ K j = 12 ∧ ¬ H1 j = 0 then 1 else p j) → (∀ j, g' j = if j < n ∧ K j = 8 ∧ ¬ H1 j = 0 then V1 j else g j) →
      post (nI (sg_ct (sg_nz H1) n)) (nI n, c + 1, K, A, B, C, H1, V1, F', sg_pw (sg_pT H1 T) T n, d', sg_pw (sg_pW K A H1 p') p' n, sg_pw (sg_pU K A V1 g') g' n)) : wpY_commit post (nI n, c, K, A, B, C, H, V, F, T, d, p, g) := by
  obtain ⟨rk, hb, hrk⟩ := sg_ac_b hn hw hac
  unfold wpY_commit
  dsimp only
  refine loop_0 (fun f i s => wY_commit_2 post (nI n) c f (nI i) K A B C H V F T s p g) (fun i s => s = sg_pw (fun _ => 0) d i) n d sg_pw_0 ?_ ?_
  · rintro f d0 ed0
    refine br_t (nI_le (Nat.le_refl n) (by omega)) ?_
    have hz : ∀ j, j < n → d0 j = 0 := by
      intro j hj
      rw [ed0, sg_pw_lt hj]
    refine loop_0 (σ := (Nat → Int32) × (Nat → Int32) × (Nat → Int32) × (Nat → Int32) × (Nat → Int32) × (Nat → Int32)) (fun f r s => wY_commit_25 post f (nI r) (nI n) c K A B C (s.1) (s.2.1) (s.2.2.1) T (s.2.2.2.1) (s.2.2.2.2.1) (s.2.2.2.2.2)) (fun r s => sg_IY n K H V H1 V1 p g s.1 s.2.1 s.2.2.1 s.2.2.2.1 s.2.2.2.2.1 s.2.2.2.2.2 ∧ (∀ j, j < n → rk j < r → ¬ s.2.2.2.1 j = 0)) 24 (H, V, F, d0, p, g) ⟨?_, fun j _ hj => absurd hj (by omega)⟩ ?_ ?_
    · refine ⟨hH, hpb, fun j hj hc => ⟨rfl, hHc j hj hc⟩, fun j hj z => absurd (hz j hj) z, fun j hj z => absurd (hz j hj) z, fun _ _ => ⟨rfl, rfl⟩, fun j => ?_, fun j => ?_⟩
      · dsimp only
        rw [if_neg (fun z => z.2.2.1 (hz j z.1))]
      · dsimp only
        rw [if_neg (fun z => z.2.2.1 (hz j z.1))]
    · rintro f ⟨h1, v1, F1, d1, p1, g1⟩ ⟨⟨a1, a2, a3, a4, a5, a6, a7, a8⟩, q⟩
      dsimp only at a1 a2 a3 a4 a5 a6 a7 a8 q ⊢
      have hdone : ∀ j, j < n → ¬ d1 j = 0 := fun j hj => q j hj (by have := hb j hj; omega)
      have eh : h1 = H1 := by
        funext j
        by_cases hj : j < n
        · by_cases hc : sg_ce (K j)
          · rw [(a3 j hj hc).2, hH1c j hj hc]
          · exact (a4 j hj (hdone j hj) hc).1
        · rw [(a6 j (by omega)).1, (hout j (by omega)).1]
      have evv : sg_pw (sg_VV K v1 F1) v1 n = V1 := by
        funext j
        by_cases hj : j < n
        · rw [sg_pw_lt hj]
          by_cases hc : sg_ce (K j)
          · rw [sg_VV_c hc]; exact a5 j hj (hdone j hj) hc
          · rw [sg_VV_e hc]; exact (a4 j hj (hdone j hj) hc).2
        · rw [sg_pw_ge (by omega), (a6 j (by omega)).2, (hout j (by omega)).2]
      subst eh
      refine br_t (nI_le (a := 24) (b := 24) (by omega) (by omega)) (sg_y77 hn hw a1 (fun j hj hc => (a3 j hj hc).2) ?_)
      intro v' ev'
      rw [evv] at ev'
      subst ev'
      refine hp F1 d1 p1 g1 a2 (fun j => ?_) (fun j => ?_)
      · rw [a7 j]
        by_cases z : j < n ∧ K j = 12 ∧ ¬ h1 j = 0
        · rw [if_pos z, if_pos ⟨z.1, z.2.1, hdone j z.1, z.2.2⟩]
        · rw [if_neg z, if_neg (fun y => z ⟨y.1, y.2.1, y.2.2.2⟩)]
      · rw [a8 j]
        by_cases z : j < n ∧ K j = 8 ∧ ¬ h1 j = 0
        · rw [if_pos z, if_pos ⟨z.1, z.2.1, hdone j z.1, z.2.2⟩]
        · rw [if_neg z, if_neg (fun y => z ⟨y.1, y.2.1, y.2.2.2⟩)]
    · rintro f r ⟨h1, v1, F1, d1, p1, g1⟩ hr ⟨a, q⟩ ih
      dsimp only at a q ⊢
      refine br_f (nI_ge (b := 24) hr (by omega)) (sg_y33 hn hw hrk hloc hD hWU hS8 hT12 hH1c a q ?_)
      intro h' v' F' d' p' g' hI' hq'
      exact ih (h', v', F', d', p', g') ⟨hI', hq'⟩
  · rintro f i s hi e ih
    have hin : vp_in (nI i) 24 := vp_in_nI (by omega) (by omega)
    have hcl : (nI i).toNatClampNeg = i := nI_clamp (by omega)
    refine br_f (nI_ge hi (by omega)) ⟨hin, ?_⟩
    rw [hcl, sg_vb0]
    refine nm_e (nm_r (nI_1 i) (ih _ ?_))
    rw [e]
    exact sg_pw_s rfl
end
theorem i_vc_commit {k : Nat} {u : SX} {v : SY} (I : i_Rel k u v) (hk : k + 5 ≤ 2560) : wpX_commit (fun r u' => wpY_commit (fun r' v' => r' = r ∧ i_Rel (k + 5) u' v') v) u := by
  obtain ⟨n, o, l, c, K, A, B, C, H, V, D, T, W, U, S, O, F, d, p, g, rfl, rfl, hn, hw, hac, ⟨s1, s2, s3, s4, s5, s6, s7, s8, s9⟩, ht⟩ := I
  refine sg_xCommit hn hw hac ht s1 s2 s4 ?_
  intro H1 V1 O1 hO1 b1 b2 b3 hloc
  refine sg_yCommit (D := sg_pw V D n) (W := W) (U := U) (S := S) hn hw hac hloc (fun m hm => sg_pw_lt hm) s5 s6 s7 s1 s3 s4 b2 b3 ?_
  intro F' d' p' g' q1 q2 q3
  refine ⟨rfl, n, 0, l, c + 1, K, A, B, C, H1, V1, sg_pw V D n, _, _, _, _, O1, F', d', _, _, rfl, rfl, hn, hw, hac, ⟨b1, ?_, ?_, b2, ?_, ?_, ?_, ?_, ?_⟩, fun _ => hO1⟩
  · intro j
    by_cases hj : j < n
    · rw [sg_pw_lt hj]
      unfold sg_pW
      exact sg_i01 (Or.inl rfl) (sg_i01 (b1 _) (s2 j))
    · rw [sg_pw_ge (by omega)]; exact s2 j
  · intro j
    by_cases hj : j < n
    · rw [sg_pw_lt hj]
      unfold sg_pW
      exact sg_i01 (Or.inl rfl) (sg_i01 (b1 _) (q1 j))
    · rw [sg_pw_ge (by omega)]; exact q1 j
  · intro j hj hkj
    have hp' : p' j = p j := by
      rw [q2 j, if_neg]
      rintro ⟨_, e, _⟩
      rcases hkj with z | z <;> exact absurd (e.symm.trans z) (by decide)
    have hg' : g' j = g j := by
      rw [q3 j, if_neg]
      rintro ⟨_, e, _⟩
      rcases hkj with z | z <;> exact absurd (e.symm.trans z) (by decide)
    rw [sg_pw_lt hj, sg_pw_lt hj, sg_pw_lt hj, sg_pw_lt hj]
    unfold sg_pW sg_pU
    rw [hp', hg', (s5 j hj hkj).1, (s5 j hj hkj).2]
    exact ⟨rfl, rfl⟩
  · intro j hj hkj
    rw [sg_pw_lt hj, sg_pw_lt hj]
    unfold sg_pU sg_pS
    rw [if_neg (by rw [hkj]; decide), if_pos hkj, q3 j]
    by_cases z : H1 j = 0
    · rw [if_pos z, if_neg (fun y => y.2.2 z)]
      exact s6 j hj hkj
    · rw [if_neg z, if_pos ⟨hj, hkj, z⟩]
  · intro j hj hkj
    rw [sg_pw_lt hj, sg_pw_lt hj]
    unfold sg_pW sg_pT
    rw [if_neg (by rw [hkj]; decide), if_neg (by rw [hkj]; decide), q2 j]
    by_cases z : H1 j = 0
    · rw [if_pos z, if_neg (fun y => y.2.2 z)]
      exact s7 j hj hkj
    · rw [if_neg z, if_pos ⟨hj, hkj, z⟩]
      obtain ⟨t, ht1, ht2⟩ := s8 j
      rw [ht2, nI_1]
      constructor
      · intro e
        exact absurd e (by decide)
      · intro e
        exact absurd e (nI_ne0 (by omega) (by omega))
  · intro j
    obtain ⟨t, ht1, ht2⟩ := s8 j
    by_cases hj : j < n
    · rw [sg_pw_lt hj]
      unfold sg_pT
      by_cases z : H1 j = 0
      · rw [if_pos z]; exact ⟨t, by omega, ht2⟩
      · rw [if_neg z, ht2, nI_1]; exact ⟨t + 1, by omega, rfl⟩
    · rw [sg_pw_ge (by omega)]; exact ⟨t, by omega, ht2⟩
  · intro j hj hd
    have h2 := (hloc j hj).2
    unfold sg_v at h2
    have n4 : K j ≠ 4 := by
      intro e
      rw [e] at hd
      rcases hd with z | z | z <;> exact absurd z (by decide)
    rw [if_neg n4] at h2
    rcases hd with e | e | e <;> simp (decide := true) only [e, if_true, if_false] at h2 <;> exact h2
end
