/-! pasted rows of kit/rows -/
theorem pk_us {f : Nat → Int32} {k : Nat} {x : Int32} : upd f k x k = x := if_pos rfl
theorem pk_un {f : Nat → Int32} {k j : Nat} {x : Int32} (h : j ≠ k) : upd f k x j = f j := if_neg h
theorem pk_sub {a b : Nat} (h : b ≤ a) : nI a - nI b = nI (a - b) := by
  obtain ⟨c, rfl⟩ : ∃ c, a = c + b := ⟨a - b, by omega⟩
  rw [← nI_add, Int32.add_sub_cancel, Nat.add_sub_cancel]
theorem pk_mul (a b : Nat) : nI a * nI b = nI (a * b) := (Int32.ofNat_mul a b).symm
theorem pk_div {a d : Nat} (ha : a < 2 ^ 31) (h0 : 0 < d) (hd : d < 2 ^ 31) : nI a / nI d = nI (a / d) := by
  apply Int32.toInt_inj.mp
  rw [lg_idiv_nonneg (by rw [nI_toInt ha]; omega) (by rw [nI_toInt hd]; omega), nI_toInt ha, nI_toInt hd, nI_toInt (Nat.lt_of_le_of_lt (Nat.div_le_self a d) ha)]
  first | rfl | exact (Int.natCast_ediv _ _).symm
theorem pk_rem {a d : Nat} (ha : a < 2 ^ 31) (h0 : 0 < d) (hd : d < 2 ^ 31) : nI a - nI a / nI d * nI d = nI (a % d) := by
  rw [pk_div ha h0 hd, pk_mul, pk_sub (Nat.div_mul_le_self a d)]
  exact congrArg nI (by have := Nat.div_add_mod' a d; omega)
theorem pk_ix (x : Int32) {n : Nat} (hn : n < 2 ^ 31) : x < 0 ∨ nI n ≤ x ∨ ∃ j : Nat, j < n ∧ x = nI j := by
  by_cases h : x < 0
  · exact Or.inl h
  · obtain ⟨j, hj, rfl⟩ := nI_of h
    by_cases h2 : j < n
    · exact Or.inr (Or.inr ⟨j, h2, rfl⟩)
    · exact Or.inr (Or.inl (nI_le (by omega) hj))
theorem pk_le {x y : Int32} {A B : Prop} (a b : Nat) (f : a ≤ b → A) (g : b < a → B) (hx : x = nI a := by rfl) (hy : y = nI b := by rfl) (ha : a < 2 ^ 31 := by omega) (hb : b < 2 ^ 31 := by omega) : (x ≤ y → A) ∧ (¬ x ≤ y → B) := by
  subst hx hy
  rw [nI_leI ha hb]
  exact ⟨f, fun z => g (by omega)⟩
theorem pk_lt {x y : Int32} {A B : Prop} (a b : Nat) (f : a < b → A) (g : b ≤ a → B) (hx : x = nI a := by rfl) (hy : y = nI b := by rfl) (ha : a < 2 ^ 31 := by omega) (hb : b < 2 ^ 31 := by omega) : (x < y → A) ∧ (¬ x < y → B) := by
  subst hx hy
  rw [nI_ltI ha hb]
  exact ⟨f, fun z => g (by omega)⟩
theorem pk_eq {x y : Int32} {A B : Prop} (a b : Nat) (f : a = b → A) (g : a ≠ b → B) (hx : x = nI a := by rfl) (hy : y = nI b := by rfl) (ha : a < 2 ^ 31 := by omega) (hb : b < 2 ^ 31 := by omega) : (x = y → A) ∧ (¬ x = y → B) := by
  subst hx hy
  rw [nI_eq ha hb]
  exact ⟨f, g⟩
theorem pk_in {x : Int32} (n N : Nat) (h : n < N) (hx : x = nI n := by rfl) (hN : N < 2 ^ 31 := by omega) : vp_in x N := by
  subst hx
  exact vp_in_nI h hN
theorem pk_cl {x : Int32} (n : Nat) (hx : x = nI n := by rfl) (h : n < 2 ^ 31 := by omega) : x.toNatClampNeg = n := by
  subst hx
  exact nI_clamp h
def bt (x : Int32) (i : Nat) : Bool := x.toBitVec.getLsbD i
theorem b_ext {x y : Int32} (h : ∀ i, i < 32 → bt x i = bt y i) : x = y := Int32.toBitVec_inj.mp (BitVec.eq_of_getLsbD_eq (fun i hi => h i hi))
theorem b_or (x y : Int32) (i : Nat) : bt (x ||| y) i = (bt x i || bt y i) := by unfold bt; rw [Int32.toBitVec_or, BitVec.getLsbD_or]
theorem b_and (x y : Int32) (i : Nat) : bt (x &&& y) i = (bt x i && bt y i) := by unfold bt; rw [Int32.toBitVec_and, BitVec.getLsbD_and]
theorem b_xor (x y : Int32) (i : Nat) : bt (x ^^^ y) i = (bt x i ^^ bt y i) := by unfold bt; rw [Int32.toBitVec_xor, BitVec.getLsbD_xor]
theorem b_big {x : Int32} {i : Nat} (h : 32 ≤ i) : bt x i = false := BitVec.getLsbD_of_ge _ _ h
theorem b_m1 : ∀ i, i < 32 → bt (-1) i = true := by decide +kernel
theorem b_0 (i : Nat) : bt 0 i = false := BitVec.getLsbD_zero
theorem s_l : ∀ n, n < 32 → ((nI n &&& 31).toBitVec.smod 32).toNat = n := by decide +kernel
theorem b_shl (n : Nat) (hn : n < 32) (x : Int32) {i : Nat} (hi : i < 32) : bt (x <<< (nI n &&& 31)) i = (decide (n ≤ i) && bt x (i - n)) := by
  unfold bt
  rw [Int32.toBitVec_shiftLeft]
  show (x.toBitVec <<< ((nI n &&& 31).toBitVec.smod 32).toNat).getLsbD i = _
  rw [s_l n hn, BitVec.getLsbD_shiftLeft]
  rcases Nat.lt_or_ge i n with h | h
  · simp [h, Nat.not_le.mpr h]
  · simp [hi, h, Nat.not_lt.mpr h]
theorem b_sshr (n : Nat) (hn : n < 32) (x : Int32) {i : Nat} (hi : i < 32) : bt (x >>> (nI n &&& 31)) i = if n + i < 32 then bt x (n + i) else bt x 31 := by
  unfold bt
  rw [Int32.toBitVec_shiftRight]
  show (x.toBitVec.sshiftRight ((nI n &&& 31).toBitVec.smod 32).toNat).getLsbD i = _
  rw [s_l n hn, BitVec.getLsbD_sshiftRight, BitVec.msb_eq_getLsbD_last]
  simp [hi]
/-! bits of this claim -/
theorem sg_b1a : ∀ m, m < 32 → ∀ i, i < 32 → bt ((1 : Int32) <<< (nI m &&& 31)) i = decide (i = m) := by decide +kernel
theorem sg_b1 {m : Nat} (hm : m < 32) (i : Nat) : bt ((1 : Int32) <<< (nI m &&& 31)) i = decide (i = m) := by
  rcases Nat.lt_or_ge i 32 with h | h
  · exact sg_b1a m hm i h
  · rw [b_big h, decide_eq_false (by omega)]
theorem sg_one : ∀ i, i < 32 → bt 1 i = decide (i = 0) := by decide +kernel
theorem sg_shb (x : Int32) {m : Nat} (hm : m < 32) {i : Nat} (hi : i < 32) : bt ((x >>> (nI m &&& 31)) &&& 1) i = (decide (i = 0) && bt x m) := by
  rw [b_and, b_sshr m hm x hi, sg_one i hi]
  by_cases h : i = 0
  · subst h
    simp [hm]
  · simp [h]
theorem sg_sh0 (x : Int32) {m : Nat} (hm : m < 32) : ((x >>> (nI m &&& 31)) &&& 1) = 0 ↔ ¬ bt x m = true := by
  constructor
  · intro h e
    have h2 := sg_shb x hm (i := 0) (by omega)
    rw [h, b_0, e] at h2
    exact absurd h2 (by decide)
  · intro h
    apply b_ext
    intro i hi
    rw [sg_shb x hm hi, b_0]
    simp [h]
theorem sg_sh1 (x : Int32) {m : Nat} (hm : m < 32) : ((x >>> (nI m &&& 31)) &&& 1) = 1 ↔ bt x m = true := by
  constructor
  · intro h
    have h2 := sg_shb x hm (i := 0) (by omega)
    rw [h, sg_one 0 (by omega)] at h2
    simpa using h2.symm
  · intro h
    apply b_ext
    intro i hi
    rw [sg_shb x hm hi, sg_one i hi, h, Bool.and_true]
theorem sg_an0 (x : Int32) {m : Nat} (hm : m < 32) : (x &&& ((1 : Int32) <<< (nI m &&& 31))) = 0 ↔ ¬ bt x m = true := by
  constructor
  · intro h e
    have h2 := b_and x ((1 : Int32) <<< (nI m &&& 31)) m
    rw [h, b_0, e, sg_b1 hm] at h2
    simp at h2
  · intro h
    apply b_ext
    intro i hi
    rw [b_and, b_0, sg_b1 hm]
    by_cases e : i = m
    · subst e; simp [h]
    · simp [e]
theorem sg_dn0 (r x : Int32) : (r &&& (x ^^^ (-1))) = 0 ↔ ∀ i, i < 32 → bt r i = true → bt x i = true := by
  constructor
  · intro h i hi e
    have h2 := b_and r (x ^^^ (-1)) i
    rw [h, b_0, e, b_xor, b_m1 i hi] at h2
    simpa using h2.symm
  · intro h
    apply b_ext
    intro i hi
    rw [b_and, b_0, b_xor, b_m1 i hi]
    cases e : bt r i
    · rfl
    · rw [h i hi e]; rfl
theorem sg_or1 (x : Int32) {m : Nat} (hm : m < 32) (i : Nat) : bt (x ||| ((1 : Int32) <<< (nI m &&& 31))) i = true ↔ bt x i = true ∨ i = m := by
  rw [b_or, sg_b1 hm]
  simp
/-! counting -/
def sg_ct (P : Nat → Bool) : Nat → Nat
  | 0 => 0
  | n + 1 => sg_ct P n + (if P n = true then 1 else 0)
theorem sg_ct_le (P : Nat → Bool) : ∀ n, sg_ct P n ≤ n
  | 0 => Nat.le_refl 0
  | n + 1 => by
    have := sg_ct_le P n
    show sg_ct P n + (if P n = true then 1 else 0) ≤ n + 1
    split <;> omega
theorem sg_ct_miss (P : Nat → Bool) : ∀ n k, k < n → P k = false → sg_ct P n < n
  | 0, _, h, _ => absurd h (by omega)
  | n + 1, k, h, e => by
    show sg_ct P n + (if P n = true then 1 else 0) < n + 1
    by_cases hk : k = n
    · subst hk
      have := sg_ct_le P k
      rw [e]
      simp
      omega
    · have := sg_ct_miss P n k (by omega) e
      split <;> omega
theorem sg_ct_full {P : Nat → Bool} {n : Nat} (h : n ≤ sg_ct P n) {j : Nat} (hj : j < n) : P j = true := by
  cases e : P j
  · have := sg_ct_miss P n j hj e
    omega
  · rfl
theorem sg_ct_mono {P Q : Nat → Bool} : ∀ n, (∀ j, j < n → P j = true → Q j = true) → sg_ct P n ≤ sg_ct Q n
  | 0, _ => Nat.le_refl 0
  | n + 1, h => by
    have := sg_ct_mono n (fun j hj => h j (by omega))
    show sg_ct P n + (if P n = true then 1 else 0) ≤ sg_ct Q n + (if Q n = true then 1 else 0)
    by_cases e : P n = true
    · rw [if_pos e, if_pos (h n (by omega) e)]; omega
    · rw [if_neg e]; omega
theorem sg_ct_lt {P Q : Nat → Bool} {k : Nat} (hP : P k = false) (hQ : Q k = true) : ∀ n, k < n → (∀ j, j < n → P j = true → Q j = true) → sg_ct P n < sg_ct Q n
  | 0, hk, _ => absurd hk (by omega)
  | n + 1, hk, h => by
    show sg_ct P n + (if P n = true then 1 else 0) < sg_ct Q n + (if Q n = true then 1 else 0)
    by_cases e : k = n
    · subst e
      have := sg_ct_mono k (fun j hj => h j (by omega))
      rw [hP, hQ]
      simp
      omega
    · have := sg_ct_lt hP hQ n (by omega) (fun j hj => h j (by omega))
      by_cases e : P n = true
      · rw [if_pos e, if_pos (h n (by omega) e)]; omega
      · rw [if_neg e]; omega
theorem sg_ct_same {P Q : Nat → Bool} : ∀ n, (∀ j, j < n → Q j = P j) → sg_ct Q n = sg_ct P n
  | 0, _ => rfl
  | n + 1, h => by
    show sg_ct Q n + (if Q n = true then 1 else 0) = sg_ct P n + (if P n = true then 1 else 0)
    rw [sg_ct_same n (fun j hj => h j (by omega)), h n (by omega)]
theorem sg_ct_add {P Q : Nat → Bool} {k : Nat} (hP : P k = false) (hQ : Q k = true) : ∀ n, k < n → (∀ j, j ≠ k → Q j = P j) → sg_ct Q n = sg_ct P n + 1
  | 0, hk, _ => absurd hk (by omega)
  | n + 1, hk, h => by
    show sg_ct Q n + (if Q n = true then 1 else 0) = sg_ct P n + (if P n = true then 1 else 0) + 1
    by_cases e : k = n
    · subst e
      rw [sg_ct_same k (fun j hj => h j (by omega)), hP, hQ]
      simp
    · rw [sg_ct_add hP hQ n (by omega) h, h n (fun z => e z.symm)]
      omega
theorem sg_rank (rk : Nat → Nat) (n : Nat) : ∃ r : Nat → Nat, (∀ j, j < n → r j < n) ∧ ∀ i j, i < n → j < n → rk i < rk j → r i < r j := by
  refine ⟨fun j => sg_ct (fun i => decide (rk i < rk j)) n, fun j hj => sg_ct_miss _ n j hj (by simp), fun i j hi hj h => ?_⟩
  refine sg_ct_lt (k := i) (by simp) (by simpa using h) n hi ?_
  intro m _ hm
  simp at hm ⊢
  omega
/-! numbers -/
theorem sg_ne1 {a : Nat} (h : a < 2 ^ 31) : ¬ nI a = -1 := by
  intro e
  have := nI_pos (n := a) h
  rw [e] at this
  exact this (by decide)
theorem sg_vb0 : vp_nar .boolean 0 = 0 := by decide
theorem sg_vb1 : vp_nar .boolean 1 = 1 := by decide
theorem sg_vb {x : Int32} (h : x = 0 ∨ x = 1) : vp_nar .boolean x = x := by
  rcases h with h | h <;> rw [h] <;> decide
theorem sg_nb {x : Int32} (h : x = 0 ∨ x = 1) : narrow .boolean (.int x) = .int x := by
  rcases h with h | h <;> rw [h] <;> rfl
theorem sg_kinds {q : Int32} (h0 : ¬ q < 0) (h14 : ¬ 14 < q) : q = 0 ∨ q = 1 ∨ q = 2 ∨ q = 3 ∨ q = 4 ∨ q = 5 ∨ q = 6 ∨ q = 7 ∨ q = 8 ∨ q = 9 ∨ q = 10 ∨ q = 11 ∨ q = 12 ∨ q = 13 ∨ q = 14 := by
  obtain ⟨k, hk, rfl⟩ := nI_of2 (M := 14) (n := 14) (by decide) h0 (Int32.not_lt.mp h14)
  have h : k = 0 ∨ k = 1 ∨ k = 2 ∨ k = 3 ∨ k = 4 ∨ k = 5 ∨ k = 6 ∨ k = 7 ∨ k = 8 ∨ k = 9 ∨ k = 10 ∨ k = 11 ∨ k = 12 ∨ k = 13 ∨ k = 14 := by omega
  rcases h with h | h | h | h | h | h | h | h | h | h | h | h | h | h | h <;> subst h <;> decide
theorem sg_3 {f : Nat → Prop} : (∃ i, i < 3 ∧ f i) ↔ f 0 ∨ f 1 ∨ f 2 := by
  constructor
  · rintro ⟨i, hi, h⟩
    have : i = 0 ∨ i = 1 ∨ i = 2 := by omega
    rcases this with e | e | e <;> subst e
    · exact Or.inl h
    · exact Or.inr (Or.inl h)
    · exact Or.inr (Or.inr h)
  · rintro (h | h | h)
    · exact ⟨0, by omega, h⟩
    · exact ⟨1, by omega, h⟩
    · exact ⟨2, by omega, h⟩
