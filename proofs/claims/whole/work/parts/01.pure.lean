theorem pk_us {f : Nat → Int32} {k : Nat} {x : Int32} : upd f k x k = x := if_pos rfl
theorem pk_un {f : Nat → Int32} {k j : Nat} {x : Int32} (h : j ≠ k) : upd f k x j = f j := if_neg h
theorem pk_uLs {f : Nat → Int64} {k : Nat} {x : Int64} : vp_updL f k x k = x := if_pos rfl
theorem pk_uLn {f : Nat → Int64} {k j : Nat} {x : Int64} (h : j ≠ k) : vp_updL f k x j = f j := if_neg h
theorem pk_sub {a b : Nat} (h : b ≤ a) : nI a - nI b = nI (a - b) := by
  obtain ⟨c, rfl⟩ : ∃ c, a = c + b := ⟨a - b, by omega⟩
  rw [← nI_add, Int32.add_sub_cancel, Nat.add_sub_cancel]
theorem pk_mul (a b : Nat) : nI a * nI b = nI (a * b) := (Int32.ofNat_mul a b).symm
theorem pk_div {a d : Nat} (ha : a < 2 ^ 31) (h0 : 0 < d) (hd : d < 2 ^ 31) : nI a / nI d = nI (a / d) := by
  apply Int32.toInt_inj.mp
  rw [lg_idiv_nonneg (by rw [nI_toInt ha]; omega) (by rw [nI_toInt hd]; omega), nI_toInt ha, nI_toInt hd, nI_toInt (Nat.lt_of_le_of_lt (Nat.div_le_self a d) ha)]
  first | rfl | exact (Int.natCast_ediv _ _).symm
theorem pk_rem {a d : Nat} (ha : a < 2 ^ 31) (h0 : 0 < d) (hd : d < 2 ^ 31) : nI a - nI a / nI d * nI d = nI (a % d) := by
  rw [pk_div ha h0 hd, pk_mul, pk_sub (Nat.div_mul_le_self a d)]
  exact congrArg nI (by have := Nat.div_add_mod' a d; omega)
theorem pk_ix (x : Int32) {n : Nat} (hn : n < 2 ^ 31) : x < 0 ∨ nI n ≤ x ∨ ∃ j : Nat, j < n ∧ x = nI j := by
  by_cases h : x < 0
  · exact Or.inl h
  · obtain ⟨j, hj, rfl⟩ := nI_of h
    by_cases h2 : j < n
    · exact Or.inr (Or.inr ⟨j, h2, rfl⟩)
    · exact Or.inr (Or.inl (nI_le (by omega) hj))
theorem pk_le {x y : Int32} {A B : Prop} (a b : Nat) (f : a ≤ b → A) (g : b < a → B) (hx : x = nI a := by rfl) (hy : y = nI b := by rfl) (ha : a < 2 ^ 31 := by omega) (hb : b < 2 ^ 31 := by omega) : (x ≤ y → A) ∧ (¬ x ≤ y → B) := by
  subst hx hy
  rw [nI_leI ha hb]
  exact ⟨f, fun z => g (by omega)⟩
theorem pk_lt {x y : Int32} {A B : Prop} (a b : Nat) (f : a < b → A) (g : b ≤ a → B) (hx : x = nI a := by rfl) (hy : y = nI b := by rfl) (ha : a < 2 ^ 31 := by omega) (hb : b < 2 ^ 31 := by omega) : (x < y → A) ∧ (¬ x < y → B) := by
  subst hx hy
  rw [nI_ltI ha hb]
  exact ⟨f, fun z => g (by omega)⟩
theorem pk_eq {x y : Int32} {A B : Prop} (a b : Nat) (f : a = b → A) (g : a ≠ b → B) (hx : x = nI a := by rfl) (hy : y = nI b := by rfl) (ha : a < 2 ^ 31 := by omega) (hb : b < 2 ^ 31 := by omega) : (x = y → A) ∧ (¬ x = y → B) := by
  subst hx hy
  rw [nI_eq ha hb]
  exact ⟨f, g⟩
theorem pk_in {x : Int32} (n N : Nat) (h : n < N) (hx : x = nI n := by rfl) (hN : N < 2 ^ 31 := by omega) : vp_in x N := by
  subst hx
  exact vp_in_nI h hN
theorem pk_cl {x : Int32} (n : Nat) (hx : x = nI n := by rfl) (h : n < 2 ^ 31 := by omega) : x.toNatClampNeg = n := by
  subst hx
  exact nI_clamp h
theorem pk_lT {n : Nat} (h : n < 2 ^ 63) : (lN n).toInt = (n : Int) := lg_ofNat_toInt h
theorem pk_lLT {a b : Nat} (ha : a < 2 ^ 63) (hb : b < 2 ^ 63) : lN a < lN b ↔ a < b := by
  rw [Int64.lt_iff_toInt_lt, pk_lT ha, pk_lT hb]; omega
theorem pk_lLE {a b : Nat} (ha : a < 2 ^ 63) (hb : b < 2 ^ 63) : lN a ≤ lN b ↔ a ≤ b := by
  rw [Int64.le_iff_toInt_le, pk_lT ha, pk_lT hb]; omega
theorem pk_lEQ {a b : Nat} (ha : a < 2 ^ 63) (hb : b < 2 ^ 63) : lN a = lN b ↔ a = b := by
  rw [← Int64.toInt_inj, pk_lT ha, pk_lT hb]; omega
theorem pk_least (P : Nat → Prop) (h : ∃ k, P k) : ∃ k, P k ∧ ∀ j, j < k → ¬ P j := by
  obtain ⟨k, hk⟩ := h
  induction k using Nat.strongRecOn with
  | ind k ih =>
    by_cases e : ∃ j, j < k ∧ P j
    · obtain ⟨j, hj, pj⟩ := e
      exact ih j hj pj
    · exact ⟨k, hk, fun j hj pj => e ⟨j, hj, pj⟩⟩
theorem bh_n0 : vp_nar .boolean 0 = 0 := by decide
theorem bh_n1 : vp_nar .boolean 1 = 1 := by decide
def bh_one (c : Nat → Nat) (j : Nat) : Nat := if c j = 0 then 0 else c j + 1
def bh_sum (c : Nat → Nat) : Nat → Nat
  | 0 => 0
  | n + 1 => bh_sum c n + bh_one c n
def bh_upd (c : Nat → Nat) (i x : Nat) : Nat → Nat := fun j => if j = i then x else c j
theorem bh_us {c : Nat → Nat} {i x : Nat} : bh_upd c i x i = x := if_pos rfl
theorem bh_un {c : Nat → Nat} {i x j : Nat} (h : j ≠ i) : bh_upd c i x j = c j := if_neg h
theorem bh_sum_ge {c : Nat → Nat} : ∀ n, (∀ j, j < n → c j ≠ 0) → 2 * n ≤ bh_sum c n := by
  intro n
  induction n with
  | zero => intro _; exact Nat.le_refl _
  | succ n ih =>
    intro h
    have h1 := ih (fun j hj => h j (by omega))
    have h2 := h n (by omega)
    have e : bh_sum c (n + 1) = bh_sum c n + bh_one c n := rfl
    have o : bh_one c n = c n + 1 := if_neg h2
    omega
theorem bh_sum_eq {c d : Nat → Nat} : ∀ n, (∀ j, j < n → c j = d j) → bh_sum c n = bh_sum d n := by
  intro n
  induction n with
  | zero => intro _; rfl
  | succ n ih =>
    intro h
    show bh_sum c n + bh_one c n = bh_sum d n + bh_one d n
    rw [ih (fun j hj => h j (by omega))]
    unfold bh_one
    rw [h n (by omega)]
theorem bh_one_us (c : Nat → Nat) (i x : Nat) : bh_one (bh_upd c i x) i = if x = 0 then 0 else x + 1 := by
  unfold bh_one
  rw [bh_us]
theorem bh_one_un (c : Nat → Nat) {i x j : Nat} (h : j ≠ i) : bh_one (bh_upd c i x) j = bh_one c j := by
  unfold bh_one
  rw [bh_un h]
theorem bh_sum_upd (c : Nat → Nat) (i x : Nat) : ∀ n, i < n → bh_sum (bh_upd c i x) n + bh_one c i = bh_sum c n + (if x = 0 then 0 else x + 1) := by
  intro n
  induction n with
  | zero => intro h; omega
  | succ n ih =>
    intro h
    show bh_sum (bh_upd c i x) n + bh_one (bh_upd c i x) n + bh_one c i = bh_sum c n + bh_one c n + _
    by_cases e : n = i
    · subst e
      rw [bh_one_us, bh_sum_eq (c := bh_upd c n x) (d := c) n (fun j hj => bh_un (by omega))]
      omega
    · have := ih (by omega)
      rw [bh_one_un c e]
      omega
theorem bh_sum_le {c d : Nat → Nat} : ∀ n, (∀ j, j < n → c j ≤ d j) → bh_sum c n ≤ bh_sum d n := by
  intro n
  induction n with
  | zero => intro _; exact Nat.le_refl _
  | succ n ih =>
    intro h
    have h1 := ih (fun j hj => h j (by omega))
    have h2 := h n (by omega)
    show bh_sum c n + bh_one c n ≤ bh_sum d n + bh_one d n
    have h3 : bh_one c n ≤ bh_one d n := by
      unfold bh_one
      split <;> split <;> omega
    omega
def bh_cnt (M : Nat → Int32) : Nat → Nat
  | 0 => 0
  | n + 1 => bh_cnt M n + (if M n = 0 then 0 else 1)
theorem bh_cnt_le (M : Nat → Int32) : ∀ n, bh_cnt M n ≤ n := by
  intro n
  induction n with
  | zero => exact Nat.le_refl _
  | succ n ih =>
    show bh_cnt M n + _ ≤ n + 1
    split <;> omega
theorem bh_cnt_0 {M : Nat → Int32} : ∀ n, (∀ j, j < n → M j = 0) → bh_cnt M n = 0 := by
  intro n
  induction n with
  | zero => intro _; rfl
  | succ n ih =>
    intro h
    show bh_cnt M n + _ = 0
    rw [ih (fun j hj => h j (by omega)), if_pos (h n (by omega))]
theorem bh_cnt_eq {M K : Nat → Int32} : ∀ n, (∀ j, j < n → M j = K j) → bh_cnt M n = bh_cnt K n := by
  intro n
  induction n with
  | zero => intro _; rfl
  | succ n ih =>
    intro h
    show bh_cnt M n + _ = bh_cnt K n + _
    rw [ih (fun j hj => h j (by omega)), h n (by omega)]
theorem bh_cnt_upd {M : Nat → Int32} {i : Nat} (h : M i = 0) : ∀ n, i < n → bh_cnt (upd M i 1) n = bh_cnt M n + 1 := by
  intro n
  induction n with
  | zero => intro h; omega
  | succ n ih =>
    intro hi
    show bh_cnt (upd M i 1) n + (if upd M i 1 n = 0 then 0 else 1) = bh_cnt M n + (if M n = 0 then 0 else 1) + 1
    by_cases e : n = i
    · subst e
      rw [pk_us, h, if_pos rfl, if_neg (by decide), bh_cnt_eq (M := upd M n 1) (K := M) n (fun j hj => pk_un (by omega))]
    · rw [pk_un e, ih (by omega)]
      omega
def bh_Cl (c : Nat → Nat) (E : Nat → Nat → Prop) (S : Nat → Prop) : Prop :=
  (∀ p, p < 6 → ∀ i, E p i → S i) ∧ (∀ j, j < 36 → S j → ∀ f, f < c j → ∀ i, E (6 + 6 * j + f) i → S i)
def bh_Mk (c : Nat → Nat) (E : Nat → Nat → Prop) (M : Nat → Int32) : Prop :=
  (∀ S, bh_Cl c E S → ∀ i, i < 36 → M i ≠ 0 → S i) ∧ bh_Cl c E (fun i => M i ≠ 0)
theorem bh_Mk_iff {c : Nat → Nat} {E : Nat → Nat → Prop} {M K : Nat → Int32} (hM : bh_Mk c E M) (hK : bh_Mk c E K) {i : Nat} (hi : i < 36) : M i = 0 ↔ K i = 0 := by
  constructor
  · intro h
    by_cases e : K i = 0
    · exact e
    · exact absurd h (hK.1 _ hM.2 i hi e)
  · intro h
    by_cases e : M i = 0
    · exact e
    · exact absurd h (hM.1 _ hK.2 i hi e)
def bh_keep (n : Nat) (M : Nat → Int32) (c : Nat → Nat) : Nat → Nat := fun j => if j < n ∧ M j = 0 then 0 else c j
theorem bh_keep_0 (M : Nat → Int32) (c : Nat → Nat) : bh_keep 0 M c = c := by
  funext j
  exact if_neg (by omega)
theorem bh_keep_t {n : Nat} {M : Nat → Int32} (c : Nat → Nat) (h : M n = 0) : bh_keep (n + 1) M c = bh_upd (bh_keep n M c) n 0 := by
  funext j
  unfold bh_keep bh_upd
  by_cases e : j = n
  · subst e
    rw [if_pos ⟨by omega, h⟩, if_pos rfl]
  · rw [if_neg e]
    dsimp only
    by_cases g : j < n ∧ M j = 0
    · rw [if_pos g, if_pos ⟨by omega, g.2⟩]
    · rw [if_neg g, if_neg (fun z => g ⟨by omega, z.2⟩)]
theorem bh_keep_f {n : Nat} {M : Nat → Int32} (c : Nat → Nat) (h : ¬ M n = 0) : bh_keep (n + 1) M c = bh_keep n M c := by
  funext j
  unfold bh_keep
  by_cases e : j = n
  · subst e
    rw [if_neg (fun z => h z.2), if_neg (fun z => h z.2)]
  · by_cases g : j < n ∧ M j = 0
    · rw [if_pos g, if_pos ⟨by omega, g.2⟩]
    · rw [if_neg g, if_neg (fun z => g ⟨by omega, z.2⟩)]
theorem bh_keep_at (n : Nat) (M : Nat → Int32) (c : Nat → Nat) : bh_keep n M c n = c n := if_neg (by omega)
theorem bh_upd_same {c : Nat → Nat} {i : Nat} : bh_upd c i (c i) = c := by
  funext j
  unfold bh_upd
  by_cases e : j = i
  · subst e
    exact if_pos rfl
  · exact if_neg e
theorem bh_keep_le (n : Nat) (M : Nat → Int32) (c : Nat → Nat) (j : Nat) : bh_keep n M c j ≤ c j := by
  unfold bh_keep
  split <;> omega
theorem bh_keep_Mk {c : Nat → Nat} {E : Nat → Nat → Prop} {M K : Nat → Int32} (hM : bh_Mk c E M) (hK : bh_Mk c E K) : bh_keep 36 M c = bh_keep 36 K c := by
  funext j
  unfold bh_keep
  by_cases e : j < 36
  · have := bh_Mk_iff hM hK e
    by_cases g : M j = 0
    · rw [if_pos ⟨e, g⟩, if_pos ⟨e, this.mp g⟩]
    · rw [if_neg (fun z => g z.2), if_neg (fun z => g (this.mpr z.2))]
  · rw [if_neg (fun z => e z.1), if_neg (fun z => e z.1)]
def bh_A (c : Nat → Nat) : Nat → Int32 := fun j => nI (c j)
theorem bh_A_upd (c : Nat → Nat) (i x : Nat) : upd (bh_A c) i (nI x) = bh_A (bh_upd c i x) := by
  funext j
  unfold upd bh_A bh_upd
  by_cases e : j = i
  · rw [if_pos e, if_pos e]
  · rw [if_neg e, if_neg e]
