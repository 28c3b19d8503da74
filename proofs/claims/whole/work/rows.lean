section
/-! pasted rows of kit/rows -/
theorem pk_us {f : Nat → Int32} {k : Nat} {x : Int32} : upd f k x k = x := if_pos rfl
theorem pk_un {f : Nat → Int32} {k j : Nat} {x : Int32} (h : j ≠ k) : upd f k x j = f j := if_neg h
theorem pk_sub {a b : Nat} (h : b ≤ a) : nI a - nI b = nI (a - b) := by
  obtain ⟨c, rfl⟩ : ∃ c, a = c + b := ⟨a - b, by omega⟩
  rw [← nI_add, Int32.add_sub_cancel, Nat.add_sub_cancel]
theorem pk_mul (a b : Nat) : nI a * nI b = nI (a * b) := (Int32.ofNat_mul a b).symm
theorem pk_div {a d : Nat} (ha : a < 2 ^ 31) (h0 : 0 < d) (hd : d < 2 ^ 31) : nI a / nI d = nI (a / d) := by
  apply Int32.toInt_inj.mp
  rw [lg_idiv_nonneg (by rw [nI_toInt ha]; omega) (by rw [nI_toInt hd]; omega), nI_toInt ha, nI_toInt hd, nI_toInt (Nat.lt_of_le_of_lt (Nat.div_le_self a d) ha)]
  first | rfl | exact (Int.natCast_ediv _ _).symm
theorem pk_rem {a d : Nat} (ha : a < 2 ^ 31) (h0 : 0 < d) (hd : d < 2 ^ 31) : nI a - nI a / nI d * nI d = nI (a % d) := by
  rw [pk_div ha h0 hd, pk_mul, pk_sub (Nat.div_mul_le_self a d)]
  exact congrArg nI (by have := Nat.div_add_mod' a d; omega)
theorem pk_ix (x : Int32) {n : Nat} (hn : n < 2 ^ 31) : x < 0 ∨ nI n ≤ x ∨ ∃ j : Nat, j < n ∧ x = nI j := by
  by_cases h : x < 0
  · exact Or.inl h
  · obtain ⟨j, hj, rfl⟩ := nI_of h
    by_cases h2 : j < n
    · exact Or.inr (Or.inr ⟨j, h2, rfl⟩)
    · exact Or.inr (Or.inl (nI_le (by omega) hj))
theorem pk_le {x y : Int32} {A B : Prop} (a b : Nat) (f : a ≤ b → A) (g : b < a → B) (hx : x = nI a := by rfl) (hy : y = nI b := by rfl) (ha : a < 2 ^ 31 := by omega) (hb : b < 2 ^ 31 := by omega) : (x ≤ y → A) ∧ (¬ x ≤ y → B) := by
  subst hx hy
  rw [nI_leI ha hb]
  exact ⟨f, fun z => g (by omega)⟩
theorem pk_lt {x y : Int32} {A B : Prop} (a b : Nat) (f : a < b → A) (g : b ≤ a → B) (hx : x = nI a := by rfl) (hy : y = nI b := by rfl) (ha : a < 2 ^ 31 := by omega) (hb : b < 2 ^ 31 := by omega) : (x < y → A) ∧ (¬ x < y → B) := by
  subst hx hy
  rw [nI_ltI ha hb]
  exact ⟨f, fun z => g (by omega)⟩
theorem pk_eq {x y : Int32} {A B : Prop} (a b : Nat) (f : a = b → A) (g : a ≠ b → B) (hx : x = nI a := by rfl) (hy : y = nI b := by rfl) (ha : a < 2 ^ 31 := by omega) (hb : b < 2 ^ 31 := by omega) : (x = y → A) ∧ (¬ x = y → B) := by
  subst hx hy
  rw [nI_eq ha hb]
  exact ⟨f, g⟩
theorem pk_in {x : Int32} (n N : Nat) (h : n < N) (hx : x = nI n := by rfl) (hN : N < 2 ^ 31 := by omega) : vp_in x N := by
  subst hx
  exact vp_in_nI h hN
theorem pk_cl {x : Int32} (n : Nat) (hx : x = nI n := by rfl) (h : n < 2 ^ 31 := by omega) : x.toNatClampNeg = n := by
  subst hx
  exact nI_clamp h
def bt (x : Int32) (i : Nat) : Bool := x.toBitVec.getLsbD i
theorem b_ext {x y : Int32} (h : ∀ i, i < 32 → bt x i = bt y i) : x = y := Int32.toBitVec_inj.mp (BitVec.eq_of_getLsbD_eq (fun i hi => h i hi))
theorem b_or (x y : Int32) (i : Nat) : bt (x ||| y) i = (bt x i || bt y i) := by unfold bt; rw [Int32.toBitVec_or, BitVec.getLsbD_or]
theorem b_and (x y : Int32) (i : Nat) : bt (x &&& y) i = (bt x i && bt y i) := by unfold bt; rw [Int32.toBitVec_and, BitVec.getLsbD_and]
theorem b_xor (x y : Int32) (i : Nat) : bt (x ^^^ y) i = (bt x i ^^ bt y i) := by unfold bt; rw [Int32.toBitVec_xor, BitVec.getLsbD_xor]
theorem b_big {x : Int32} {i : Nat} (h : 32 ≤ i) : bt x i = false := BitVec.getLsbD_of_ge _ _ h
theorem b_m1 : ∀ i, i < 32 → bt (-1) i = true := by decide +kernel
theorem b_0 (i : Nat) : bt 0 i = false := BitVec.getLsbD_zero
theorem s_l : ∀ n, n < 32 → ((nI n &&& 31).toBitVec.smod 32).toNat = n := by decide +kernel
theorem b_shl (n : Nat) (hn : n < 32) (x : Int32) {i : Nat} (hi : i < 32) : bt (x <<< (nI n &&& 31)) i = (decide (n ≤ i) && bt x (i - n)) := by
  unfold bt
  rw [Int32.toBitVec_shiftLeft]
  show (x.toBitVec <<< ((nI n &&& 31).toBitVec.smod 32).toNat).getLsbD i = _
  rw [s_l n hn, BitVec.getLsbD_shiftLeft]
  rcases Nat.lt_or_ge i n with h | h
  · simp [h, Nat.not_le.mpr h]
  · simp [hi, h, Nat.not_lt.mpr h]
theorem b_sshr (n : Nat) (hn : n < 32) (x : Int32) {i : Nat} (hi : i < 32) : bt (x >>> (nI n &&& 31)) i = if n + i < 32 then bt x (n + i) else bt x 31 := by
  unfold bt
  rw [Int32.toBitVec_shiftRight]
  show (x.toBitVec.sshiftRight ((nI n &&& 31).toBitVec.smod 32).toNat).getLsbD i = _
  rw [s_l n hn, BitVec.getLsbD_sshiftRight, BitVec.msb_eq_getLsbD_last]
  simp [hi]
/-! bits of this claim -/
theorem sg_b1a : ∀ m, m < 32 → ∀ i, i < 32 → bt ((1 : Int32) <<< (nI m &&& 31)) i = decide (i = m) := by decide +kernel
theorem sg_b1 {m : Nat} (hm : m < 32) (i : Nat) : bt ((1 : Int32) <<< (nI m &&& 31)) i = decide (i = m) := by
  rcases Nat.lt_or_ge i 32 with h | h
  · exact sg_b1a m hm i h
  · rw [b_big h, decide_eq_false (by omega)]
theorem sg_one : ∀ i, i < 32 → bt 1 i = decide (i = 0) := by decide +kernel
theorem sg_shb (x : Int32) {m : Nat} (hm : m < 32) {i : Nat} (hi : i < 32) : bt ((x >>> (nI m &&& 31)) &&& 1) i = (decide (i = 0) && bt x m) := by
  rw [b_and, b_sshr m hm x hi, sg_one i hi]
  by_cases h : i = 0
  · subst h
    simp [hm]
  · simp [h]
theorem sg_sh0 (x : Int32) {m : Nat} (hm : m < 32) : ((x >>> (nI m &&& 31)) &&& 1) = 0 ↔ ¬ bt x m = true := by
  constructor
  · intro h e
    have h2 := sg_shb x hm (i := 0) (by omega)
    rw [h, b_0, e] at h2
    exact absurd h2 (by decide)
  · intro h
    apply b_ext
    intro i hi
    rw [sg_shb x hm hi, b_0]
    simp [h]
theorem sg_sh1 (x : Int32) {m : Nat} (hm : m < 32) : ((x >>> (nI m &&& 31)) &&& 1) = 1 ↔ bt x m = true := by
  constructor
  · intro h
    have h2 := sg_shb x hm (i := 0) (by omega)
    rw [h, sg_one 0 (by omega)] at h2
    simpa using h2.symm
  · intro h
    apply b_ext
    intro i hi
    rw [sg_shb x hm hi, sg_one i hi, h, Bool.and_true]
theorem sg_an0 (x : Int32) {m : Nat} (hm : m < 32) : (x &&& ((1 : Int32) <<< (nI m &&& 31))) = 0 ↔ ¬ bt x m = true := by
  constructor
  · intro h e
    have h2 := b_and x ((1 : Int32) <<< (nI m &&& 31)) m
    rw [h, b_0, e, sg_b1 hm] at h2
    simp at h2
  · intro h
    apply b_ext
    intro i hi
    rw [b_and, b_0, sg_b1 hm]
    by_cases e : i = m
    · subst e; simp [h]
    · simp [e]
theorem sg_dn0 (r x : Int32) : (r &&& (x ^^^ (-1))) = 0 ↔ ∀ i, i < 32 → bt r i = true → bt x i = true := by
  constructor
  · intro h i hi e
    have h2 := b_and r (x ^^^ (-1)) i
    rw [h, b_0, e, b_xor, b_m1 i hi] at h2
    simpa using h2.symm
  · intro h
    apply b_ext
    intro i hi
    rw [b_and, b_0, b_xor, b_m1 i hi]
    cases e : bt r i
    · rfl
    · rw [h i hi e]; rfl
theorem sg_or1 (x : Int32) {m : Nat} (hm : m < 32) (i : Nat) : bt (x ||| ((1 : Int32) <<< (nI m &&& 31))) i = true ↔ bt x i = true ∨ i = m := by
  rw [b_or, sg_b1 hm]
  simp
/-! counting -/
def sg_ct (P : Nat → Bool) : Nat → Nat
  | 0 => 0
  | n + 1 => sg_ct P n + (if P n = true then 1 else 0)
theorem sg_ct_le (P : Nat → Bool) : ∀ n, sg_ct P n ≤ n
  | 0 => Nat.le_refl 0
  | n + 1 => by
    have := sg_ct_le P n
    show sg_ct P n + (if P n = true then 1 else 0) ≤ n + 1
    split <;> omega
theorem sg_ct_miss (P : Nat → Bool) : ∀ n k, k < n → P k = false → sg_ct P n < n
  | 0, _, h, _ => absurd h (by omega)
  | n + 1, k, h, e => by
    show sg_ct P n + (if P n = true then 1 else 0) < n + 1
    by_cases hk : k = n
    · subst hk
      have := sg_ct_le P k
      rw [e]
      simp
      omega
    · have := sg_ct_miss P n k (by omega) e
      split <;> omega
theorem sg_ct_full {P : Nat → Bool} {n : Nat} (h : n ≤ sg_ct P n) {j : Nat} (hj : j < n) : P j = true := by
  cases e : P j
  · have := sg_ct_miss P n j hj e
    omega
  · rfl
theorem sg_ct_mono {P Q : Nat → Bool} : ∀ n, (∀ j, j < n → P j = true → Q j = true) → sg_ct P n ≤ sg_ct Q n
  | 0, _ => Nat.le_refl 0
  | n + 1, h => by
    have := sg_ct_mono n (fun j hj => h j (by omega))
    show sg_ct P n + (if P n = true then 1 else 0) ≤ sg_ct Q n + (if Q n = true then 1 else 0)
    by_cases e : P n = true
    · rw [if_pos e, if_pos (h n (by omega) e)]; omega
    · rw [if_neg e]; omega
theorem sg_ct_lt {P Q : Nat → Bool} {k : Nat} (hP : P k = false) (hQ : Q k = true) : ∀ n, k < n → (∀ j, j < n → P j = true → Q j = true) → sg_ct P n < sg_ct Q n
  | 0, hk, _ => absurd hk (by omega)
  | n + 1, hk, h => by
    show sg_ct P n + (if P n = true then 1 else 0) < sg_ct Q n + (if Q n = true then 1 else 0)
    by_cases e : k = n
    · subst e
      have := sg_ct_mono k (fun j hj => h j (by omega))
      rw [hP, hQ]
      simp
      omega
    · have := sg_ct_lt hP hQ n (by omega) (fun j hj => h j (by omega))
      by_cases e : P n = true
      · rw [if_pos e, if_pos (h n (by omega) e)]; omega
      · rw [if_neg e]; omega
theorem sg_ct_same {P Q : Nat → Bool} : ∀ n, (∀ j, j < n → Q j = P j) → sg_ct Q n = sg_ct P n
  | 0, _ => rfl
  | n + 1, h => by
    show sg_ct Q n + (if Q n = true then 1 else 0) = sg_ct P n + (if P n = true then 1 else 0)
    rw [sg_ct_same n (fun j hj => h j (by omega)), h n (by omega)]
theorem sg_ct_add {P Q : Nat → Bool} {k : Nat} (hP : P k = false) (hQ : Q k = true) : ∀ n, k < n → (∀ j, j ≠ k → Q j = P j) → sg_ct Q n = sg_ct P n + 1
  | 0, hk, _ => absurd hk (by omega)
  | n + 1, hk, h => by
    show sg_ct Q n + (if Q n = true then 1 else 0) = sg_ct P n + (if P n = true then 1 else 0) + 1
    by_cases e : k = n
    · subst e
      rw [sg_ct_same k (fun j hj => h j (by omega)), hP, hQ]
      simp
    · rw [sg_ct_add hP hQ n (by omega) h, h n (fun z => e z.symm)]
      omega
theorem sg_rank (rk : Nat → Nat) (n : Nat) : ∃ r : Nat → Nat, (∀ j, j < n → r j < n) ∧ ∀ i j, i < n → j < n → rk i < rk j → r i < r j := by
  refine ⟨fun j => sg_ct (fun i => decide (rk i < rk j)) n, fun j hj => sg_ct_miss _ n j hj (by simp), fun i j hi hj h => ?_⟩
  refine sg_ct_lt (k := i) (by simp) (by simpa using h) n hi ?_
  intro m _ hm
  simp at hm ⊢
  omega
/-! numbers -/
theorem sg_ne1 {a : Nat} (h : a < 2 ^ 31) : ¬ nI a = -1 := by
  intro e
  have := nI_pos (n := a) h
  rw [e] at this
  exact this (by decide)
theorem sg_vb0 : vp_nar .boolean 0 = 0 := by decide
theorem sg_vb1 : vp_nar .boolean 1 = 1 := by decide
theorem sg_vb {x : Int32} (h : x = 0 ∨ x = 1) : vp_nar .boolean x = x := by
  rcases h with h | h <;> rw [h] <;> decide
theorem sg_nb {x : Int32} (h : x = 0 ∨ x = 1) : narrow .boolean (.int x) = .int x := by
  rcases h with h | h <;> rw [h] <;> rfl
theorem sg_kinds {q : Int32} (h0 : ¬ q < 0) (h14 : ¬ 14 < q) : q = 0 ∨ q = 1 ∨ q = 2 ∨ q = 3 ∨ q = 4 ∨ q = 5 ∨ q = 6 ∨ q = 7 ∨ q = 8 ∨ q = 9 ∨ q = 10 ∨ q = 11 ∨ q = 12 ∨ q = 13 ∨ q = 14 := by
  obtain ⟨k, hk, rfl⟩ := nI_of2 (M := 14) (n := 14) (by decide) h0 (Int32.not_lt.mp h14)
  have h : k = 0 ∨ k = 1 ∨ k = 2 ∨ k = 3 ∨ k = 4 ∨ k = 5 ∨ k = 6 ∨ k = 7 ∨ k = 8 ∨ k = 9 ∨ k = 10 ∨ k = 11 ∨ k = 12 ∨ k = 13 ∨ k = 14 := by omega
  rcases h with h | h | h | h | h | h | h | h | h | h | h | h | h | h | h <;> subst h <;> decide
theorem sg_3 {f : Nat → Prop} : (∃ i, i < 3 ∧ f i) ↔ f 0 ∨ f 1 ∨ f 2 := by
  constructor
  · rintro ⟨i, hi, h⟩
    have : i = 0 ∨ i = 1 ∨ i = 2 := by omega
    rcases this with e | e | e <;> subst e
    · exact Or.inl h
    · exact Or.inr (Or.inl h)
    · exact Or.inr (Or.inr h)
  · rintro (h | h | h)
    · exact ⟨0, by omega, h⟩
    · exact ⟨1, by omega, h⟩
    · exact ⟨2, by omega, h⟩
end
section
/-! the graph -/
def sg_ce (k : Int32) : Prop := k = 4 ∨ k = 6 ∨ k = 13 ∨ k = 14
def sg_E (K : Nat → Int32) (b : Nat) (x : Int32) : Prop := ∃ a, a < b ∧ x = nI a ∧ ¬ sg_ce (K a)
def sg_L (K : Nat → Int32) (b : Nat) (x : Int32) : Prop := ∃ a, a < b ∧ x = nI a ∧ sg_ce (K a)
def sg_fit (K : Nat → Int32) (b : Nat) (q x y z : Int32) : Prop :=
  q = 0 ∨ ((q = 1 ∨ q = 2 ∨ q = 8 ∨ q = 11 ∨ q = 12) ∧ sg_E K b x) ∨ (q = 3 ∧ sg_E K b x ∧ sg_E K b y) ∨ (q = 4 ∧ (x = -1 ∨ sg_E K b x)) ∨ ((q = 5 ∨ q = 7) ∧ sg_E K b x ∧ sg_L K b y) ∨ (q = 6 ∧ sg_L K b x ∧ sg_L K b y) ∨ ((q = 9 ∨ q = 14) ∧ sg_L K b x) ∨ (q = 10 ∧ sg_L K b x ∧ sg_E K b y ∧ sg_E K b z) ∨ (q = 13 ∧ sg_L K b x ∧ sg_L K b y ∧ sg_L K b z)
theorem sg_E_le {K : Nat → Int32} {b c : Nat} {x : Int32} (h : sg_E K b x) (hb : b ≤ c) : sg_E K c x := by
  obtain ⟨a, ha, e, z⟩ := h
  exact ⟨a, by omega, e, z⟩
theorem sg_L_le {K : Nat → Int32} {b c : Nat} {x : Int32} (h : sg_L K b x) (hb : b ≤ c) : sg_L K c x := by
  obtain ⟨a, ha, e, z⟩ := h
  exact ⟨a, by omega, e, z⟩
theorem sg_E_cg {K K' : Nat → Int32} {b : Nat} {x : Int32} (hK : ∀ j, j < b → K' j = K j) (h : sg_E K b x) : sg_E K' b x := by
  obtain ⟨a, ha, e, z⟩ := h
  exact ⟨a, ha, e, by rw [hK a ha]; exact z⟩
theorem sg_L_cg {K K' : Nat → Int32} {b : Nat} {x : Int32} (hK : ∀ j, j < b → K' j = K j) (h : sg_L K b x) : sg_L K' b x := by
  obtain ⟨a, ha, e, z⟩ := h
  exact ⟨a, ha, e, by rw [hK a ha]; exact z⟩
theorem sg_fit_map {K K' : Nat → Int32} {b c : Nat} {q x y z : Int32} (hE : ∀ x, sg_E K b x → sg_E K' c x) (hL : ∀ x, sg_L K b x → sg_L K' c x) (h : sg_fit K b q x y z) : sg_fit K' c q x y z := by
  rcases h with h | ⟨h, hx⟩ | ⟨h, hx, hy⟩ | ⟨h, hx⟩ | ⟨h, hx, hy⟩ | ⟨h, hx, hy⟩ | ⟨h, hx⟩ | ⟨h, hx, hy, hz⟩ | ⟨h, hx, hy, hz⟩
  · exact Or.inl h
  · exact Or.inr (Or.inl ⟨h, hE _ hx⟩)
  · exact Or.inr (Or.inr (Or.inl ⟨h, hE _ hx, hE _ hy⟩))
  · exact Or.inr (Or.inr (Or.inr (Or.inl ⟨h, hx.imp id (hE _)⟩)))
  · exact Or.inr (Or.inr (Or.inr (Or.inr (Or.inl ⟨h, hE _ hx, hL _ hy⟩))))
  · exact Or.inr (Or.inr (Or.inr (Or.inr (Or.inr (Or.inl ⟨h, hL _ hx, hL _ hy⟩)))))
  · exact Or.inr (Or.inr (Or.inr (Or.inr (Or.inr (Or.inr (Or.inl ⟨h, hL _ hx⟩))))))
  · exact Or.inr (Or.inr (Or.inr (Or.inr (Or.inr (Or.inr (Or.inr (Or.inl ⟨h, hL _ hx, hE _ hy, hE _ hz⟩)))))))
  · exact Or.inr (Or.inr (Or.inr (Or.inr (Or.inr (Or.inr (Or.inr (Or.inr ⟨h, hL _ hx, hL _ hy, hL _ hz⟩)))))))
theorem sg_fit_le {K : Nat → Int32} {b c : Nat} {q x y z : Int32} (h : sg_fit K b q x y z) (hb : b ≤ c) : sg_fit K c q x y z := sg_fit_map (fun _ h => sg_E_le h hb) (fun _ h => sg_L_le h hb) h
theorem sg_fit_cg {K K' : Nat → Int32} {b : Nat} {q x y z : Int32} (hK : ∀ j, j < b → K' j = K j) (h : sg_fit K b q x y z) : sg_fit K' b q x y z := sg_fit_map (fun _ h => sg_E_cg hK h) (fun _ h => sg_L_cg hK h) h
/-- the fifteen kinds, one by one -/
theorem sg_fit_cases {K : Nat → Int32} {b : Nat} {q x y z : Int32} {G : Prop} (h : sg_fit K b q x y z)
    (c0 : q = 0 → G) (c1 : q = 1 → sg_E K b x → G) (c2 : q = 2 → sg_E K b x → G) (c3 : q = 3 → sg_E K b x → sg_E K b y → G)
    (c4 : q = 4 → x = -1 ∨ sg_E K b x → G) (c5 : q = 5 → sg_E K b x → sg_L K b y → G) (c6 : q = 6 → sg_L K b x → sg_L K b y → G)
    (c7 : q = 7 → sg_E K b x → sg_L K b y → G) (c8 : q = 8 → sg_E K b x → G) (c9 : q = 9 → sg_L K b x → G)
    (c10 : q = 10 → sg_L K b x → sg_E K b y → sg_E K b z → G) (c11 : q = 11 → sg_E K b x → G) (c12 : q = 12 → sg_E K b x → G)
    (c13 : q = 13 → sg_L K b x → sg_L K b y → sg_L K b z → G) (c14 : q = 14 → sg_L K b x → G) : G := by
  rcases h with h | ⟨h | h | h | h | h, hx⟩ | ⟨h, hx, hy⟩ | ⟨h, hx⟩ | ⟨h | h, hx, hy⟩ | ⟨h, hx, hy⟩ | ⟨h | h, hx⟩ | ⟨h, hx, hy, hz⟩ | ⟨h, hx, hy, hz⟩
  · exact c0 h
  · exact c1 h hx
  · exact c2 h hx
  · exact c8 h hx
  · exact c11 h hx
  · exact c12 h hx
  · exact c3 h hx hy
  · exact c4 h hx
  · exact c5 h hx hy
  · exact c7 h hx hy
  · exact c6 h hx hy
  · exact c9 h hx
  · exact c14 h hx
  · exact c10 h hx hy hz
  · exact c13 h hx hy hz
/-- part number i of a node -/
def sg_pt (q x y z : Int32) (i : Nat) : Int32 :=
  if q = 0 then -1 else if q = 11 then -1 else if q = 10 then (if i = 0 then y else if i = 1 then z else -1)
  else if i = 0 then x else if i = 1 then (if q = 3 then y else if q = 6 then y else if q = 13 then y else -1) else if q = 13 then z else -1
theorem sg_pt_r {K : Nat → Int32} {b : Nat} {q x y z : Int32} (h : sg_fit K b q x y z) (i : Nat) : sg_pt q x y z i = -1 ∨ ∃ a, a < b ∧ sg_pt q x y z i = nI a := by
  have hE : ∀ w, sg_E K b w → w = -1 ∨ ∃ a, a < b ∧ w = nI a := fun w ⟨a, ha, e, _⟩ => Or.inr ⟨a, ha, e⟩
  have hL : ∀ w, sg_L K b w → w = -1 ∨ ∃ a, a < b ∧ w = nI a := fun w ⟨a, ha, e, _⟩ => Or.inr ⟨a, ha, e⟩
  have hm : (-1 : Int32) = -1 ∨ ∃ a, a < b ∧ (-1 : Int32) = nI a := Or.inl rfl
  refine sg_fit_cases h ?_ ?_ ?_ ?_ ?_ ?_ ?_ ?_ ?_ ?_ ?_ ?_ ?_ ?_ ?_
  all_goals intro e; subst e; intros; unfold sg_pt; simp (decide := true) only [if_true, if_false]
  all_goals (repeat' split)
  all_goals first | exact hm | exact Or.inl trivial | (first | exact hE _ ‹_› | exact hL _ ‹_›) | skip
  all_goals first | (rename_i hh _; rcases hh with hh | hh; exact Or.inl hh; exact hE _ hh) | skip
def sg_P (n : Nat) (K A B C : Nat → Int32) (j m : Nat) : Prop := j < n ∧ m < 24 ∧ ∃ i, i < 3 ∧ sg_pt (K j) (A j) (B j) (C j) i = nI m
def sg_wf (n : Nat) (K A B C : Nat → Int32) : Prop := ∀ j, j < n → sg_fit K (if K j = 4 then n else j) (K j) (A j) (B j) (C j)
theorem sg_wf_n {n : Nat} {K A B C : Nat → Int32} (h : sg_wf n K A B C) {j : Nat} (hj : j < n) : sg_fit K n (K j) (A j) (B j) (C j) := by
  refine sg_fit_le (h j hj) ?_
  split <;> omega
theorem sg_P_lt {n : Nat} {K A B C : Nat → Int32} (hn : n ≤ 24) (h : sg_wf n K A B C) {j m : Nat} (hp : sg_P n K A B C j m) : m < n := by
  obtain ⟨hj, hm, i, hi, e⟩ := hp
  rcases sg_pt_r (sg_wf_n h hj) i with z | ⟨a, ha, z⟩
  · exact absurd (e.symm.trans z) (sg_ne1 (by omega))
  · rw [e, nI_eq (by omega) (by omega)] at z
    omega
def sg_ac (n : Nat) (K A B C : Nat → Int32) : Prop := ∃ rk : Nat → Nat, ∀ j m, sg_P n K A B C j m → rk m < rk j
theorem sg_ac_b {n : Nat} {K A B C : Nat → Int32} (hn : n ≤ 24) (hw : sg_wf n K A B C) (h : sg_ac n K A B C) : ∃ rk : Nat → Nat, (∀ j, j < n → rk j < n) ∧ ∀ j m, sg_P n K A B C j m → rk m < rk j := by
  obtain ⟨rk, h⟩ := h
  obtain ⟨r, h1, h2⟩ := sg_rank rk n
  exact ⟨r, h1, fun j m hp => h2 m j (sg_P_lt hn hw hp) hp.1 (h j m hp)⟩
/-- m is reached from e in t + 1 steps -/
def sg_pth (n : Nat) (K A B C : Nat → Int32) (e : Nat) : Nat → Nat → Prop
  | 0, m => sg_P n K A B C e m
  | t + 1, m => ∃ q, sg_pth n K A B C e t q ∧ sg_P n K A B C q m
def sg_R (n : Nat) (K A B C : Nat → Int32) (e m : Nat) : Prop := ∃ t, sg_pth n K A B C e t m
theorem sg_R_s {n : Nat} {K A B C : Nat → Int32} {e q m : Nat} (h : sg_R n K A B C e q) (hp : sg_P n K A B C q m) : sg_R n K A B C e m := by
  obtain ⟨t, h⟩ := h
  exact ⟨t + 1, q, h, hp⟩
theorem sg_R_0 {n : Nat} {K A B C : Nat → Int32} {e m : Nat} (hp : sg_P n K A B C e m) : sg_R n K A B C e m := ⟨0, hp⟩
theorem sg_pth_c {n : Nat} {K A B C : Nat → Int32} {j p : Nat} (hp : sg_P n K A B C j p) : ∀ t m, sg_pth n K A B C p t m → sg_pth n K A B C j (t + 1) m
  | 0, m, h => ⟨p, hp, h⟩
  | t + 1, m, ⟨q, hq, h⟩ => ⟨q, sg_pth_c hp t q hq, h⟩
theorem sg_R_c {n : Nat} {K A B C : Nat → Int32} {j p m : Nat} (hp : sg_P n K A B C j p) (h : sg_R n K A B C p m) : sg_R n K A B C j m := by
  obtain ⟨t, h⟩ := h
  exact ⟨t + 1, sg_pth_c hp t m h⟩
theorem sg_pth_rk {n : Nat} {K A B C : Nat → Int32} {rk : Nat → Nat} (hr : ∀ j m, sg_P n K A B C j m → rk m < rk j) {e : Nat} : ∀ t m, sg_pth n K A B C e t m → rk m + t + 1 ≤ rk e
  | 0, m, h => by have := hr e m h; omega
  | t + 1, m, ⟨q, hq, h⟩ => by
    have := sg_pth_rk hr t q hq
    have := hr q m h
    omega
/-- no path is longer than there are nodes -/
theorem sg_R_n {n : Nat} {K A B C : Nat → Int32} (hn : n ≤ 24) (hw : sg_wf n K A B C) (h : sg_ac n K A B C) {e m : Nat} (he : e < n) (hR : sg_R n K A B C e m) : ∃ t, t < n ∧ sg_pth n K A B C e t m := by
  obtain ⟨rk, h1, h2⟩ := sg_ac_b hn hw h
  obtain ⟨t, ht⟩ := hR
  have := sg_pth_rk h2 t m ht
  have := h1 e he
  exact ⟨t, by omega, ht⟩
/-- a new tie of h to e, where e doesn't come to h, keeps it so -/
theorem sg_ac_tie {n : Nat} {K A B C : Nat → Int32} {h e : Nat} {x : Int32} (hk : K h = 4) (hac : sg_ac n K A B C) (hx : x = nI e) (he : e < 24) (hne : e ≠ h) (hR : ¬ sg_R n K A B C e h) : sg_ac n K (upd A h x) B C := by
  obtain ⟨rk, hr⟩ := hac
  have hd : ∀ j, Decidable (j = h ∨ sg_R n K A B C j h) := fun j => Classical.propDecidable _
  refine ⟨fun j => @ite _ (j = h ∨ sg_R n K A B C j h) (hd j) (rk j + rk e + 1) (rk j), ?_⟩
  intro j m hp
  dsimp only
  by_cases ej : j = h
  · subst ej
    obtain ⟨hj, hm, i, hi, z⟩ := hp
    rw [hk] at z
    rw [pk_us] at z
    have hm2 : m = e := by
      unfold sg_pt at z
      simp (decide := true) only [if_true, if_false] at z
      by_cases i0 : i = 0
      · rw [if_pos i0, hx, nI_eq (by omega) (by omega)] at z
        exact z.symm
      · rw [if_neg i0] at z
        by_cases i1 : i = 1
        · rw [if_pos i1] at z
          exact absurd z.symm (sg_ne1 (by omega))
        · rw [if_neg i1] at z
          exact absurd z.symm (sg_ne1 (by omega))
    subst hm2
    rw [if_neg (by intro z; rcases z with z | z; exact hne z; exact hR z), if_pos (Or.inl rfl)]
    omega
  · have hp' : sg_P n K A B C j m := by
      obtain ⟨hj, hm, i, hi, z⟩ := hp
      rw [pk_un ej] at z
      exact ⟨hj, hm, i, hi, z⟩
    have := hr j m hp'
    by_cases z : m = h ∨ sg_R n K A B C m h
    · have z2 : j = h ∨ sg_R n K A B C j h := by
        rcases z with z | z
        · subst z; exact Or.inr (sg_R_0 hp')
        · exact Or.inr (sg_R_c hp' z)
      rw [if_pos z, if_pos z2]
      omega
    · rw [if_neg z]
      split <;> omega
theorem sg_ac_sub {n n' : Nat} {K A B C K' A' B' C' : Nat → Int32} (hac : sg_ac n K A B C) (h : ∀ j m, sg_P n' K' A' B' C' j m → sg_P n K A B C j m) : sg_ac n' K' A' B' C' := by
  obtain ⟨rk, hr⟩ := hac
  exact ⟨rk, fun j m hp => hr j m (h j m hp)⟩
theorem sg_ac_un {n : Nat} {K A B C : Nat → Int32} {h : Nat} (hk : K h = 4) (hac : sg_ac n K A B C) : sg_ac n K (upd A h (-1)) B C := by
  refine sg_ac_sub hac ?_
  rintro j m ⟨hj, hm, i, hi, z⟩
  by_cases ej : j = h
  · subst ej
    rw [hk, pk_us] at z
    unfold sg_pt at z
    simp (decide := true) only [if_true, if_false, ite_self] at z
    exact absurd z.symm (sg_ne1 (by omega))
  · rw [pk_un ej] at z
    exact ⟨hj, hm, i, hi, z⟩
/-! the order -/
def sg_top (n : Nat) (K A B C O : Nat → Int32) : Prop := (∀ j, j < n → ∃ a, a < n ∧ O a = nI j) ∧ (∀ a, a < n → ∃ j, j < n ∧ O a = nI j ∧ ∀ m, sg_P n K A B C j m → ∃ b, b < a ∧ O b = nI m) ∧ (∀ a b, a < n → b < n → O a = O b → a = b)
/-! a transaction's values -/
def sg_dc (K A B C V : Nat → Int32) (j : Nat) : Int32 :=
  if K j = 6 then V (A j).toNatClampNeg + V (B j).toNatClampNeg else if K j = 13 then (if V (A j).toNatClampNeg = 0 then V (C j).toNatClampNeg else V (B j).toNatClampNeg) else V (A j).toNatClampNeg * B j + C j
def sg_dv (k : Int32) : Prop := k = 6 ∨ k = 13 ∨ k = 14
def sg_h (K A B H V Z wt on C : Nat → Int32) (j : Nat) : Int32 :=
  if K j = 0 then wt j else if K j = 11 then wt j
  else if K j = 2 then (if H (A j).toNatClampNeg = 0 then 0 else if V (A j).toNatClampNeg < B j then 0 else 1)
  else if K j = 3 then (if H (A j).toNatClampNeg = 0 then (if H (B j).toNatClampNeg = 0 then 0 else 1) else 1)
  else if K j = 7 then (if H (A j).toNatClampNeg = 0 then 0 else if Z (B j).toNatClampNeg = 0 then 0 else 1)
  else if K j = 9 then (if V (A j).toNatClampNeg = Z (A j).toNatClampNeg then 0 else 1)
  else if K j = 10 then (if Z (A j).toNatClampNeg = 0 then H (C j).toNatClampNeg else H (B j).toNatClampNeg)
  else if K j = 12 then (if H (A j).toNatClampNeg = 0 then 0 else if on j = 0 then 1 else 0)
  else if K j = 4 then 0 else if K j = 6 then 0 else if K j = 13 then 0 else if K j = 14 then 0
  else H (A j).toNatClampNeg
def sg_w (K A B V Z wv cs C : Nat → Int32) (j : Nat) : Int32 :=
  if K j = 0 then wv j else if K j = 11 then wv j
  else if K j = 1 then V (A j).toNatClampNeg * B j + C j
  else if K j = 3 then V (A j).toNatClampNeg + V (B j).toNatClampNeg
  else if K j = 5 then V (A j).toNatClampNeg + Z (B j).toNatClampNeg
  else if K j = 8 then cs j + V (A j).toNatClampNeg
  else if K j = 10 then (if Z (A j).toNatClampNeg = 0 then V (C j).toNatClampNeg else V (B j).toNatClampNeg)
  else V (A j).toNatClampNeg
def sg_v (K A B H V Z wt on wv cs C : Nat → Int32) (j : Nat) : Int32 :=
  if K j = 4 then (if A j = -1 then Z j else if H (A j).toNatClampNeg = 0 then Z j else V (A j).toNatClampNeg)
  else if K j = 6 then sg_dc K A B C V j else if K j = 13 then sg_dc K A B C V j else if K j = 14 then sg_dc K A B C V j
  else if sg_h K A B H V Z wt on C j = 0 then 0 else sg_w K A B V Z wv cs C j
/-! the relation -/
def sg_S (n : Nat) (K A B C H V T W U S p g : Nat → Int32) (k : Nat) : Prop :=
  (∀ j, H j = 0 ∨ H j = 1) ∧ (∀ j, W j = 0 ∨ W j = 1) ∧ (∀ j, p j = 0 ∨ p j = 1) ∧ (∀ j, j < n → sg_ce (K j) → H j = 0)
  ∧ (∀ j, j < n → (K j = 0 ∨ K j = 11) → p j = W j ∧ g j = U j) ∧ (∀ j, j < n → K j = 8 → g j = S j)
  ∧ (∀ j, j < n → K j = 12 → (p j = 0 ↔ T j = 0)) ∧ (∀ j, ∃ t, t ≤ k ∧ T j = nI t)
  ∧ (∀ j, j < n → sg_dv (K j) → V j = sg_dc K A B C V j)
def i_Rel (k : Nat) (u : SX) (v : SY) : Prop := ∃ (n : Nat) (o l c : Int32) (K A B C H V D T W U S O F d p g : Nat → Int32),
  u = (nI n, o, l, c, K, A, B, C, H, V, D, T, W, U, S, O) ∧ v = (nI n, c, K, A, B, C, H, V, F, T, d, p, g) ∧ n ≤ 24 ∧ sg_wf n K A B C ∧ sg_ac n K A B C ∧ sg_S n K A B C H V T W U S p g k ∧ (o = 0 → sg_top n K A B C O)
theorem i_up {k : Nat} {u : SX} {v : SY} (h : i_Rel k u v) : i_Rel (k + 5) u v := by
  obtain ⟨n, o, l, c, K, A, B, C, H, V, D, T, W, U, S, O, F, d, p, g, e1, e2, hn, hw, ha, ⟨s1, s2, s3, s4, s5, s6, s7, s8, s9⟩, ht⟩ := h
  refine ⟨n, o, l, c, K, A, B, C, H, V, D, T, W, U, S, O, F, d, p, g, e1, e2, hn, hw, ha, ⟨s1, s2, s3, s4, s5, s6, s7, ?_, s9⟩, ht⟩
  intro j
  obtain ⟨t, h1, h2⟩ := s8 j
  exact ⟨t, by omega, h2⟩
theorem i_vc0 : wpX_init (fun u => wpY_init (fun v => i_Rel 0 u v)) := by
  refine ⟨0, 0, 1, 0, _, _, _, _, _, _, _, _, _, _, _, _, _, _, _, _, rfl, rfl, by omega, ?_, ?_, ⟨?_, ?_, ?_, ?_, ?_, ?_, ?_, ?_, ?_⟩, ?_⟩
  · intro j hj; omega
  · exact ⟨fun _ => 0, fun j m hp => absurd hp.1 (by omega)⟩
  · exact fun _ => Or.inl rfl
  · exact fun _ => Or.inl rfl
  · exact fun _ => Or.inl rfl
  · intro j hj; omega
  · intro j hj; omega
  · intro j hj; omega
  · intro j hj; omega
  · exact fun _ => ⟨0, by omega, rfl⟩
  · intro j hj; omega
  · exact fun _ => ⟨fun j hj => absurd hj (by omega), fun j hj => absurd hj (by omega), fun j _ hj => absurd hj (by omega)⟩
end
