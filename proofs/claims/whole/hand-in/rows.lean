section
theorem pk_us {f : Nat → Int32} {k : Nat} {x : Int32} : upd f k x k = x := if_pos rfl
theorem pk_un {f : Nat → Int32} {k j : Nat} {x : Int32} (h : j ≠ k) : upd f k x j = f j := if_neg h
theorem pk_uLs {f : Nat → Int64} {k : Nat} {x : Int64} : vp_updL f k x k = x := if_pos rfl
theorem pk_uLn {f : Nat → Int64} {k j : Nat} {x : Int64} (h : j ≠ k) : vp_updL f k x j = f j := if_neg h
theorem pk_sub {a b : Nat} (h : b ≤ a) : nI a - nI b = nI (a - b) := by
  obtain ⟨c, rfl⟩ : ∃ c, a = c + b := ⟨a - b, by omega⟩
  rw [← nI_add, Int32.add_sub_cancel, Nat.add_sub_cancel]
theorem pk_mul (a b : Nat) : nI a * nI b = nI (a * b) := (Int32.ofNat_mul a b).symm
theorem pk_div {a d : Nat} (ha : a < 2 ^ 31) (h0 : 0 < d) (hd : d < 2 ^ 31) : nI a / nI d = nI (a / d) := by
  apply Int32.toInt_inj.mp
  rw [lg_idiv_nonneg (by rw [nI_toInt ha]; omega) (by rw [nI_toInt hd]; omega), nI_toInt ha, nI_toInt hd, nI_toInt (Nat.lt_of_le_of_lt (Nat.div_le_self a d) ha)]
  first | rfl | exact (Int.natCast_ediv _ _).symm
theorem pk_rem {a d : Nat} (ha : a < 2 ^ 31) (h0 : 0 < d) (hd : d < 2 ^ 31) : nI a - nI a / nI d * nI d = nI (a % d) := by
  rw [pk_div ha h0 hd, pk_mul, pk_sub (Nat.div_mul_le_self a d)]
  exact congrArg nI (by have := Nat.div_add_mod' a d; omega)
theorem pk_ix (x : Int32) {n : Nat} (hn : n < 2 ^ 31) : x < 0 ∨ nI n ≤ x ∨ ∃ j : Nat, j < n ∧ x = nI j := by
  by_cases h : x < 0
  · exact Or.inl h
  · obtain ⟨j, hj, rfl⟩ := nI_of h
    by_cases h2 : j < n
    · exact Or.inr (Or.inr ⟨j, h2, rfl⟩)
    · exact Or.inr (Or.inl (nI_le (by omega) hj))
theorem pk_le {x y : Int32} {A B : Prop} (a b : Nat) (f : a ≤ b → A) (g : b < a → B) (hx : x = nI a := by rfl) (hy : y = nI b := by rfl) (ha : a < 2 ^ 31 := by omega) (hb : b < 2 ^ 31 := by omega) : (x ≤ y → A) ∧ (¬ x ≤ y → B) := by
  subst hx hy
  rw [nI_leI ha hb]
  exact ⟨f, fun z => g (by omega)⟩
theorem pk_lt {x y : Int32} {A B : Prop} (a b : Nat) (f : a < b → A) (g : b ≤ a → B) (hx : x = nI a := by rfl) (hy : y = nI b := by rfl) (ha : a < 2 ^ 31 := by omega) (hb : b < 2 ^ 31 := by omega) : (x < y → A) ∧ (¬ x < y → B) := by
  subst hx hy
  rw [nI_ltI ha hb]
  exact ⟨f, fun z => g (by omega)⟩
theorem pk_eq {x y : Int32} {A B : Prop} (a b : Nat) (f : a = b → A) (g : a ≠ b → B) (hx : x = nI a := by rfl) (hy : y = nI b := by rfl) (ha : a < 2 ^ 31 := by omega) (hb : b < 2 ^ 31 := by omega) : (x = y → A) ∧ (¬ x = y → B) := by
  subst hx hy
  rw [nI_eq ha hb]
  exact ⟨f, g⟩
theorem pk_in {x : Int32} (n N : Nat) (h : n < N) (hx : x = nI n := by rfl) (hN : N < 2 ^ 31 := by omega) : vp_in x N := by
  subst hx
  exact vp_in_nI h hN
theorem pk_cl {x : Int32} (n : Nat) (hx : x = nI n := by rfl) (h : n < 2 ^ 31 := by omega) : x.toNatClampNeg = n := by
  subst hx
  exact nI_clamp h
theorem pk_lT {n : Nat} (h : n < 2 ^ 63) : (lN n).toInt = (n : Int) := lg_ofNat_toInt h
theorem pk_lLT {a b : Nat} (ha : a < 2 ^ 63) (hb : b < 2 ^ 63) : lN a < lN b ↔ a < b := by
  rw [Int64.lt_iff_toInt_lt, pk_lT ha, pk_lT hb]; omega
theorem pk_lLE {a b : Nat} (ha : a < 2 ^ 63) (hb : b < 2 ^ 63) : lN a ≤ lN b ↔ a ≤ b := by
  rw [Int64.le_iff_toInt_le, pk_lT ha, pk_lT hb]; omega
theorem pk_lEQ {a b : Nat} (ha : a < 2 ^ 63) (hb : b < 2 ^ 63) : lN a = lN b ↔ a = b := by
  rw [← Int64.toInt_inj, pk_lT ha, pk_lT hb]; omega
theorem pk_least (P : Nat → Prop) (h : ∃ k, P k) : ∃ k, P k ∧ ∀ j, j < k → ¬ P j := by
  obtain ⟨k, hk⟩ := h
  induction k using Nat.strongRecOn with
  | ind k ih =>
    by_cases e : ∃ j, j < k ∧ P j
    · obtain ⟨j, hj, pj⟩ := e
      exact ih j hj pj
    · exact ⟨k, hk, fun j hj pj => e ⟨j, hj, pj⟩⟩
theorem bh_n0 : vp_nar .boolean 0 = 0 := by decide
theorem bh_n1 : vp_nar .boolean 1 = 1 := by decide
def bh_one (c : Nat → Nat) (j : Nat) : Nat := if c j = 0 then 0 else c j + 1
def bh_sum (c : Nat → Nat) : Nat → Nat
  | 0 => 0
  | n + 1 => bh_sum c n + bh_one c n
def bh_upd (c : Nat → Nat) (i x : Nat) : Nat → Nat := fun j => if j = i then x else c j
theorem bh_us {c : Nat → Nat} {i x : Nat} : bh_upd c i x i = x := if_pos rfl
theorem bh_un {c : Nat → Nat} {i x j : Nat} (h : j ≠ i) : bh_upd c i x j = c j := if_neg h
theorem bh_sum_ge {c : Nat → Nat} : ∀ n, (∀ j, j < n → c j ≠ 0) → 2 * n ≤ bh_sum c n := by
  intro n
  induction n with
  | zero => intro _; exact Nat.le_refl _
  | succ n ih =>
    intro h
    have h1 := ih (fun j hj => h j (by omega))
    have h2 := h n (by omega)
    have e : bh_sum c (n + 1) = bh_sum c n + bh_one c n := rfl
    have o : bh_one c n = c n + 1 := if_neg h2
    omega
theorem bh_sum_eq {c d : Nat → Nat} : ∀ n, (∀ j, j < n → c j = d j) → bh_sum c n = bh_sum d n := by
  intro n
  induction n with
  | zero => intro _; rfl
  | succ n ih =>
    intro h
    show bh_sum c n + bh_one c n = bh_sum d n + bh_one d n
    rw [ih (fun j hj => h j (by omega))]
    unfold bh_one
    rw [h n (by omega)]
theorem bh_one_us (c : Nat → Nat) (i x : Nat) : bh_one (bh_upd c i x) i = if x = 0 then 0 else x + 1 := by
  unfold bh_one
  rw [bh_us]
theorem bh_one_un (c : Nat → Nat) {i x j : Nat} (h : j ≠ i) : bh_one (bh_upd c i x) j = bh_one c j := by
  unfold bh_one
  rw [bh_un h]
theorem bh_sum_upd (c : Nat → Nat) (i x : Nat) : ∀ n, i < n → bh_sum (bh_upd c i x) n + bh_one c i = bh_sum c n + (if x = 0 then 0 else x + 1) := by
  intro n
  induction n with
  | zero => intro h; omega
  | succ n ih =>
    intro h
    show bh_sum (bh_upd c i x) n + bh_one (bh_upd c i x) n + bh_one c i = bh_sum c n + bh_one c n + _
    by_cases e : n = i
    · subst e
      rw [bh_one_us, bh_sum_eq (c := bh_upd c n x) (d := c) n (fun j hj => bh_un (by omega))]
      omega
    · have := ih (by omega)
      rw [bh_one_un c e]
      omega
theorem bh_sum_le {c d : Nat → Nat} : ∀ n, (∀ j, j < n → c j ≤ d j) → bh_sum c n ≤ bh_sum d n := by
  intro n
  induction n with
  | zero => intro _; exact Nat.le_refl _
  | succ n ih =>
    intro h
    have h1 := ih (fun j hj => h j (by omega))
    have h2 := h n (by omega)
    show bh_sum c n + bh_one c n ≤ bh_sum d n + bh_one d n
    have h3 : bh_one c n ≤ bh_one d n := by
      unfold bh_one
      split <;> split <;> omega
    omega
def bh_cnt (M : Nat → Int32) : Nat → Nat
  | 0 => 0
  | n + 1 => bh_cnt M n + (if M n = 0 then 0 else 1)
theorem bh_cnt_le (M : Nat → Int32) : ∀ n, bh_cnt M n ≤ n := by
  intro n
  induction n with
  | zero => exact Nat.le_refl _
  | succ n ih =>
    show bh_cnt M n + _ ≤ n + 1
    split <;> omega
theorem bh_cnt_0 {M : Nat → Int32} : ∀ n, (∀ j, j < n → M j = 0) → bh_cnt M n = 0 := by
  intro n
  induction n with
  | zero => intro _; rfl
  | succ n ih =>
    intro h
    show bh_cnt M n + _ = 0
    rw [ih (fun j hj => h j (by omega)), if_pos (h n (by omega))]
theorem bh_cnt_eq {M K : Nat → Int32} : ∀ n, (∀ j, j < n → M j = K j) → bh_cnt M n = bh_cnt K n := by
  intro n
  induction n with
  | zero => intro _; rfl
  | succ n ih =>
    intro h
    show bh_cnt M n + _ = bh_cnt K n + _
    rw [ih (fun j hj => h j (by omega)), h n (by omega)]
theorem bh_cnt_upd {M : Nat → Int32} {i : Nat} (h : M i = 0) : ∀ n, i < n → bh_cnt (upd M i 1) n = bh_cnt M n + 1 := by
  intro n
  induction n with
  | zero => intro h; omega
  | succ n ih =>
    intro hi
    show bh_cnt (upd M i 1) n + (if upd M i 1 n = 0 then 0 else 1) = bh_cnt M n + (if M n = 0 then 0 else 1) + 1
    by_cases e : n = i
    · subst e
      rw [pk_us, h, if_pos rfl, if_neg (by decide), bh_cnt_eq (M := upd M n 1) (K := M) n (fun j hj => pk_un (by omega))]
    · rw [pk_un e, ih (by omega)]
      omega
def bh_Cl (c : Nat → Nat) (E : Nat → Nat → Prop) (S : Nat → Prop) : Prop :=
  (∀ p, p < 6 → ∀ i, E p i → S i) ∧ (∀ j, j < 36 → S j → ∀ f, f < c j → ∀ i, E (6 + 6 * j + f) i → S i)
def bh_Mk (c : Nat → Nat) (E : Nat → Nat → Prop) (M : Nat → Int32) : Prop :=
  (∀ S, bh_Cl c E S → ∀ i, i < 36 → M i ≠ 0 → S i) ∧ bh_Cl c E (fun i => M i ≠ 0)
theorem bh_Mk_iff {c : Nat → Nat} {E : Nat → Nat → Prop} {M K : Nat → Int32} (hM : bh_Mk c E M) (hK : bh_Mk c E K) {i : Nat} (hi : i < 36) : M i = 0 ↔ K i = 0 := by
  constructor
  · intro h
    by_cases e : K i = 0
    · exact e
    · exact absurd h (hK.1 _ hM.2 i hi e)
  · intro h
    by_cases e : M i = 0
    · exact e
    · exact absurd h (hM.1 _ hK.2 i hi e)
def bh_keep (n : Nat) (M : Nat → Int32) (c : Nat → Nat) : Nat → Nat := fun j => if j < n ∧ M j = 0 then 0 else c j
theorem bh_keep_0 (M : Nat → Int32) (c : Nat → Nat) : bh_keep 0 M c = c := by
  funext j
  exact if_neg (by omega)
theorem bh_keep_t {n : Nat} {M : Nat → Int32} (c : Nat → Nat) (h : M n = 0) : bh_keep (n + 1) M c = bh_upd (bh_keep n M c) n 0 := by
  funext j
  unfold bh_keep bh_upd
  by_cases e : j = n
  · subst e
    rw [if_pos ⟨by omega, h⟩, if_pos rfl]
  · rw [if_neg e]
    dsimp only
    by_cases g : j < n ∧ M j = 0
    · rw [if_pos g, if_pos ⟨by omega, g.2⟩]
    · rw [if_neg g, if_neg (fun z => g ⟨by omega, z.2⟩)]
theorem bh_keep_f {n : Nat} {M : Nat → Int32} (c : Nat → Nat) (h : ¬ M n = 0) : bh_keep (n + 1) M c = bh_keep n M c := by
  funext j
  unfold bh_keep
  by_cases e : j = n
  · subst e
    rw [if_neg (fun z => h z.2), if_neg (fun z => h z.2)]
  · by_cases g : j < n ∧ M j = 0
    · rw [if_pos g, if_pos ⟨by omega, g.2⟩]
    · rw [if_neg g, if_neg (fun z => g ⟨by omega, z.2⟩)]
theorem bh_keep_at (n : Nat) (M : Nat → Int32) (c : Nat → Nat) : bh_keep n M c n = c n := if_neg (by omega)
theorem bh_upd_same {c : Nat → Nat} {i : Nat} : bh_upd c i (c i) = c := by
  funext j
  unfold bh_upd
  by_cases e : j = i
  · subst e
    exact if_pos rfl
  · exact if_neg e
theorem bh_keep_le (n : Nat) (M : Nat → Int32) (c : Nat → Nat) (j : Nat) : bh_keep n M c j ≤ c j := by
  unfold bh_keep
  split <;> omega
theorem bh_keep_Mk {c : Nat → Nat} {E : Nat → Nat → Prop} {M K : Nat → Int32} (hM : bh_Mk c E M) (hK : bh_Mk c E K) : bh_keep 36 M c = bh_keep 36 K c := by
  funext j
  unfold bh_keep
  by_cases e : j < 36
  · have := bh_Mk_iff hM hK e
    by_cases g : M j = 0
    · rw [if_pos ⟨e, g⟩, if_pos ⟨e, this.mp g⟩]
    · rw [if_neg (fun z => g z.2), if_neg (fun z => g (this.mpr z.2))]
  · rw [if_neg (fun z => e z.1), if_neg (fun z => e z.1)]
def bh_A (c : Nat → Nat) : Nat → Int32 := fun j => nI (c j)
theorem bh_A_upd (c : Nat → Nat) (i x : Nat) : upd (bh_A c) i (nI x) = bh_A (bh_upd c i x) := by
  funext j
  unfold upd bh_A bh_upd
  by_cases e : j = i
  · rw [if_pos e, if_pos e]
  · rw [if_neg e, if_neg e]
end
section
def bh_Tm (c : Nat → Nat) (t : Int64) (r x : Int32) : Prop :=
  (r = 0 ∧ t = x.toInt64) ∨ (r = 1 ∧ ∃ i, i < 36 ∧ c i ≠ 0 ∧ x = nI i ∧ t = lN (4294967296 + i))
def bh_R (c : Nat → Nat) (rt ft : Nat → Int64) (rf ct : Nat → Int32) : Prop :=
  (∀ j, c j ≤ 6) ∧ bh_sum c 36 ≤ 72 ∧ (∀ p, p < 6 → bh_Tm c (rt p) (rf p) (ct p)) ∧
  (∀ j f, j < 36 → f < c j → bh_Tm c (ft (j * 6 + f)) (rf (6 + 6 * j + f)) (ct (6 + 6 * j + f)))
/-- rows of both sides are the same rows; c j is the count of fields of row j, 0 where none is there -/
def i_Rel (_ : Nat) (u : SX) (v : SY) : Prop :=
  ∃ (c : Nat → Nat) (rc : Int32) (rt ft : Nat → Int64) (rd ro rf ct rd' : Nat → Int32),
    u = (rc, nI (bh_sum c 36), rt, ft, bh_A c, rd, ro) ∧ v = (rf, ct, bh_A c, rd') ∧ bh_R c rt ft rf ct
theorem i_up {k : Nat} {u : SX} {v : SY} (h : i_Rel k u v) : i_Rel (k + 4) u v := h
theorem bh_mk {k : Nat} {c : Nat → Nat} {rt ft : Nat → Int64} {rf ct : Nat → Int32} (h : bh_R c rt ft rf ct) (rc : Int32) (rd ro rd' : Nat → Int32) :
    i_Rel k (rc, nI (bh_sum c 36), rt, ft, bh_A c, rd, ro) (rf, ct, bh_A c, rd') :=
  ⟨c, rc, rt, ft, rd, ro, rf, ct, rd', rfl, rfl, h⟩
theorem i_vc0 : wpX_init (fun u => wpY_init (fun v => i_Rel 0 u v)) := by
  have hs : bh_sum (fun _ => 0) 36 = 0 := by decide
  refine ⟨fun _ => 0, 0, fun _ => 0, fun _ => 0, fun _ => 0, fun _ => 0, fun _ => 0, fun _ => 0, fun _ => 0, ?_, rfl, ?_⟩
  · rw [hs]
    rfl
  · refine ⟨fun _ => Nat.zero_le _, by omega, fun p _ => Or.inl ⟨rfl, (by decide : (0 : Int64) = (0 : Int32).toInt64)⟩, fun j f _ h => absurd h (Nat.not_lt_zero f)⟩
theorem bh_ix (v : Int32) : (v < 0 ∨ nI 6 ≤ v) ∨ ∃ j, j < 6 ∧ v = nI j := by
  rcases pk_ix v (n := 6) (by omega) with h | h | h
  · exact Or.inl (Or.inl h)
  · exact Or.inl (Or.inr h)
  · exact Or.inr h
theorem bh_regB {post : Int32 → Prop} {v : Int32} (h : v < 0 ∨ nI 6 ≤ v) (hp : post 0) : wpX_isRegister post v := by
  by_cases h0 : v < 0
  · exact br_t h0 hp
  · have h6 : (6 : Int32) ≤ v := h.resolve_left h0
    exact br_f h0 (br_t h6 hp)
theorem bh_regO {post : Int32 → Prop} {j : Nat} (h : j < 6) (hp : post 1) : wpX_isRegister post (nI j) :=
  br_f (nI_pos (by omega)) (br_f (nI_ge (b := 6) h (by omega)) hp)
theorem bh_badB {post : Int32 → Prop} {v : Int32} (h : v < 0 ∨ nI 6 ≤ v) (hp : post 1) : wpY_bad post v := by
  by_cases h0 : v < 0
  · exact br_t h0 hp
  · have h6 : nI 6 ≤ v := h.resolve_left h0
    have h5 : ¬ v ≤ 5 := by
      obtain ⟨j, hj, rfl⟩ := nI_of h0
      rw [nI_leI (by omega) hj] at h6
      exact nI_ge (a := 5) (b := j) (by omega) hj
    exact br_f h0 (br_f h5 hp)
theorem bh_badO {post : Int32 → Prop} {j : Nat} (h : j < 6) (hp : post 0) : wpY_bad post (nI j) :=
  br_f (nI_pos (by omega)) (br_t (nI_le (a := j) (b := 5) (by omega) (by omega)) hp)
theorem bh_lt64 (x : Int32) : x.toInt64 < 4294967296 := by
  rw [Int64.lt_iff_toInt_lt, Int32.toInt_toInt64]
  have h := Int32.toInt_lt x
  have e : (4294967296 : Int64).toInt = 4294967296 := by decide
  omega
theorem bh_nlt64 {i : Nat} (h : i < 36) : ¬ lN (4294967296 + i) < 4294967296 := by
  have : ¬ lN (4294967296 + i) < lN 4294967296 := by
    rw [pk_lLT (by omega) (by omega)]
    omega
  exact this
theorem bh_sub64 (i : Nat) : (lN (4294967296 + i) - 4294967296).toInt32 = nI i := by
  have h : lN (4294967296 + i) - lN 4294967296 = lN i := by
    rw [lN_sub (by omega)]
    exact congrArg lN (by omega)
  have e : lN (4294967296 + i) - 4294967296 = lN i := h
  rw [e, lN_i]
theorem bh_recI {post : Int32 → Prop} (x : Int32) (hp : post (-1)) : wpX_recordOf post x.toInt64 := br_t (bh_lt64 x) hp
theorem bh_recR {post : Int32 → Prop} {i : Nat} (h : i < 36) (hp : post (nI i)) : wpX_recordOf post (lN (4294967296 + i)) :=
  br_f (bh_nlt64 h) (by rw [bh_sub64]; exact hp)
theorem bh_nm1 {i : Nat} (h : i < 36) : ¬ nI i = -1 := by
  intro e
  have h0 : ¬ nI i < 0 := nI_pos (by omega)
  rw [e] at h0
  exact h0 (by decide)
theorem bh_inj64 {x y : Int32} (h : x.toInt64 = y.toInt64) : x = y := by
  rw [← Int64.toInt_inj, Int32.toInt_toInt64, Int32.toInt_toInt64] at h
  exact Int32.toInt_inj.mp h
theorem bh_i32 (x : Int32) : x.toInt64.toInt32 = x := by
  simp
theorem bh_setO {post : SY → Prop} {rf ct fo rd : Nat → Int32} {p : Nat} {b x : Int32} (h : p < 222) (hb : b = 0 ∨ b = 1) (hp : post (upd rf p b, upd ct p x, fo, rd)) : wpY_set post (rf, ct, fo, rd) (nI p) b x := by
  have hn : vp_nar .boolean b = b := by
    rcases hb with rfl | rfl
    · exact bh_n0
    · exact bh_n1
  refine ⟨vp_in_nI h (by omega), fun a ea => ⟨vp_in_nI h (by omega), fun a' ea' => ?_⟩⟩
  rw [ea, ea', hn, nI_clamp (by omega)]
  exact hp
theorem bh_Tm01 {c : Nat → Nat} {t : Int64} {r x : Int32} (h : bh_Tm c t r x) : r = 0 ∨ r = 1 := h.imp (fun z => z.1) (fun z => z.1)
theorem bh_takeO {post : SY → Prop} {rf ct fo rd : Nat → Int32} {p q : Nat} (h : p < 222) (hq : q < 222) (hb : rf q = 0 ∨ rf q = 1) (hp : post (upd rf p (rf q), upd ct p (ct q), fo, rd)) : wpY_take post (rf, ct, fo, rd) (nI p) (nI q) := by
  refine ⟨vp_in_nI hq (by omega), vp_in_nI hq (by omega), ?_⟩
  rw [nI_clamp (by omega)]
  exact bh_setO h hb hp
theorem bh_R_reg {c : Nat → Nat} {rt ft : Nat → Int64} {rf ct : Nat → Int32} (h : bh_R c rt ft rf ct) {j : Nat} {t : Int64} {r x : Int32} (hj : j < 6) (ht : bh_Tm c t r x) : bh_R c (vp_updL rt j t) ft (upd rf j r) (upd ct j x) := by
  refine ⟨h.1, h.2.1, fun p hp => ?_, fun i f hi hf => ?_⟩
  · by_cases e : p = j
    · subst e
      rw [pk_uLs, pk_us, pk_us]
      exact ht
    · rw [pk_uLn e, pk_un e, pk_un e]
      exact h.2.2.1 p hp
  · rw [pk_un (by omega), pk_un (by omega)]
    exact h.2.2.2 i f hi hf
theorem bh_R_fld {c : Nat → Nat} {rt ft : Nat → Int64} {rf ct : Nat → Int32} (h : bh_R c rt ft rf ct) {j f : Nat} {t : Int64} {r x : Int32} (hf : f < c j) (ht : bh_Tm c t r x) : bh_R c rt (vp_updL ft (j * 6 + f) t) (upd rf (6 + 6 * j + f) r) (upd ct (6 + 6 * j + f) x) := by
  refine ⟨h.1, h.2.1, fun p hp => ?_, fun i g hi hg => ?_⟩
  · rw [pk_un (by omega), pk_un (by omega)]
    exact h.2.2.1 p hp
  · by_cases e : i * 6 + g = j * 6 + f
    · rw [e, show 6 + 6 * i + g = 6 + 6 * j + f by omega, pk_uLs, pk_us, pk_us]
      exact ht
    · rw [pk_uLn e, pk_un (by omega), pk_un (by omega)]
      exact h.2.2.2 i g hi hg
theorem bh_used4 {post : Int32 → Prop} {rf ct rd : Nat → Int32} {c : Nat → Nat} (hc : ∀ j, c j ≤ 6) (hp : post (nI (bh_sum c 36))) : ∀ d i, i + d = 36 → wY_used_4 post rf ct (bh_A c) rd (d + 1) (nI (bh_sum c i)) (nI i) := by
  intro d
  induction d with
  | zero =>
    intro i hi
    obtain rfl : i = 36 := by omega
    exact br_t (nI_le (a := 36) (b := 36) (by omega) (by omega)) hp
  | succ d ih =>
    intro i hi
    have hin : vp_in (nI i) 36 := vp_in_nI (by omega) (by omega)
    have h6 := hc i
    refine br_f (nI_ge (b := 36) (by omega) (by omega)) ⟨hin, ?_⟩
    have e : bh_A c (nI i).toNatClampNeg = nI (c i) := by rw [nI_clamp (by omega)]; rfl
    rw [e]
    have es : bh_sum c (i + 1) = bh_sum c i + bh_one c i := rfl
    by_cases z : c i = 0
    · have o : bh_one c i = 0 := if_pos z
      refine br_t (nI_le (a := c i) (b := 0) (by omega) (by omega)) (fun x ex => ?_)
      rw [ex, nI_1, show bh_sum c i = bh_sum c (i + 1) by omega]
      exact ih (i + 1) (by omega)
    · have o : bh_one c i = c i + 1 := if_neg z
      refine br_f (nI_ge (a := 0) (b := c i) (by omega) (by omega)) ⟨hin, fun y ey x ex => ?_⟩
      rw [ex, ey, nI_1, nI_1, nI_add, show bh_sum c i + (c i + 1) = bh_sum c (i + 1) by omega]
      exact ih (i + 1) (by omega)
theorem bh_usedY {post : Int32 → Prop} {rf ct rd : Nat → Int32} {c : Nat → Nat} (hc : ∀ j, c j ≤ 6) (hp : post (nI (bh_sum c 36))) : wpY_used post (rf, ct, bh_A c, rd) :=
  ⟨37, bh_used4 hc hp 36 0 rfl⟩
theorem i_vc_used {k : Nat} {u : SX} {v : SY} (I : i_Rel k u v) (hk : k + 4 ≤ 2048) : wpX_used (fun r => wpY_used (fun r' => r' = r ∧ i_Rel (k + 4) u v) v) u := by
  obtain ⟨c, rc, rt, ft, rd, ro, rf, ct, rd', rfl, rfl, h⟩ := I
  exact bh_usedY h.1 ⟨rfl, bh_mk h rc rd ro rd'⟩
theorem i_vc_number {k : Nat} {u : SX} {v : SY} (I : i_Rel k u v) (hk : k + 4 ≤ 2048) (v1 : Int32) (v2 : Int32) : wpX_number (fun r u' => wpY_number (fun r' v' => r' = r ∧ i_Rel (k + 4) u' v') v v1 v2) u v1 v2 := by
  obtain ⟨c, rc, rt, ft, rd, ro, rf, ct, rd', rfl, rfl, h⟩ := I
  unfold wpX_number wpY_number
  dsimp only
  rcases bh_ix v1 with hb | ⟨j, hj, rfl⟩
  · exact bh_regB hb (br_t rfl (bh_badB hb (br_f (by decide) ⟨rfl, bh_mk h rc rd ro rd'⟩)))
  · refine bh_regO hj (br_f (by decide) ⟨vp_in_nI hj (by omega), fun a ea => ?_⟩)
    rw [nI_clamp (by omega)] at ea
    subst ea
    refine bh_badO hj (br_t rfl (bh_setO (by omega) (Or.inl rfl) ?_))
    exact ⟨rfl, bh_mk (bh_R_reg h hj (Or.inl ⟨rfl, rfl⟩)) rc rd ro rd'⟩
theorem i_vc_move {k : Nat} {u : SX} {v : SY} (I : i_Rel k u v) (hk : k + 4 ≤ 2048) (v1 : Int32) (v2 : Int32) : wpX_move (fun r u' => wpY_move (fun r' v' => r' = r ∧ i_Rel (k + 4) u' v') v v1 v2) u v1 v2 := by
  obtain ⟨c, rc, rt, ft, rd, ro, rf, ct, rd', rfl, rfl, h⟩ := I
  unfold wpX_move wpY_move
  dsimp only
  rcases bh_ix v1 with hb | ⟨j, hj, rfl⟩
  · exact bh_regB hb (br_t rfl (bh_badB hb (br_f (by decide) ⟨rfl, bh_mk h rc rd ro rd'⟩)))
  · refine bh_regO hj (br_f (by decide) ?_)
    rcases bh_ix v2 with hb | ⟨i, hi, rfl⟩
    · exact bh_regB hb (br_t rfl (bh_badO hj (br_t rfl (bh_badB hb (br_f (by decide) ⟨rfl, bh_mk h rc rd ro rd'⟩)))))
    · refine bh_regO hi (br_f (by decide) ⟨vp_in_nI hi (by omega), vp_in_nI hj (by omega), fun a ea => ?_⟩)
      rw [nI_clamp (by omega), nI_clamp (by omega)] at ea
      subst ea
      have ht := h.2.2.1 i hi
      refine bh_badO hj (br_t rfl (bh_badO hi (br_t rfl (bh_takeO (by omega) (by omega) (bh_Tm01 ht) ?_))))
      exact ⟨rfl, bh_mk (bh_R_reg h hj ht) rc rd ro rd'⟩
end
section
theorem i_vc_value {k : Nat} {u : SX} {v : SY} (I : i_Rel k u v) (hk : k + 4 ≤ 2048) (v1 : Int32) : wpX_value (fun r => wpY_value (fun r' => r' = r ∧ i_Rel (k + 4) u v) v v1) u v1 := by
  obtain ⟨c, rc, rt, ft, rd, ro, rf, ct, rd', rfl, rfl, h⟩ := I
  have G := bh_mk (k := k + 4) h rc rd ro rd'
  unfold wpX_value wpY_value
  dsimp only
  rcases bh_ix v1 with hb | ⟨j, hj, rfl⟩
  · exact bh_regB hb (br_t rfl (bh_badB hb (br_f (by decide) ⟨rfl, G⟩)))
  · refine bh_regO hj (br_f (by decide) ⟨vp_in_nI hj (by omega), fun t et => ?_⟩)
    rw [nI_clamp (by omega)] at et
    subst et
    have hin : vp_in (nI j) 222 := vp_in_nI (by omega) (by omega)
    rcases h.2.2.1 j hj with ⟨hr, ht⟩ | ⟨hr, i, hi, hc, hx, ht⟩
    · rw [ht]
      refine br_t (bh_lt64 _) (bh_badO hj (br_t rfl ⟨hin, ?_⟩))
      rw [nI_clamp (by omega)]
      exact br_t hr ⟨hin, (bh_i32 _).symm, G⟩
    · rw [ht]
      refine br_f (bh_nlt64 hi) (bh_badO hj (br_t rfl ⟨hin, ?_⟩))
      rw [nI_clamp (by omega)]
      exact br_f (by rw [hr]; decide) ⟨rfl, G⟩
theorem bh_Tm_eq {c : Nat → Nat} {t s : Int64} {r x q y : Int32} (h1 : bh_Tm c t r x) (h2 : bh_Tm c s q y) : t = s ↔ r = q ∧ x = y := by
  rcases h1 with ⟨hr, ht⟩ | ⟨hr, i, hi, hc, hx, ht⟩
  · rcases h2 with ⟨hq, hs⟩ | ⟨hq, j, hj, hd, hy, hs⟩
    · subst hr hq ht hs
      exact ⟨fun z => ⟨rfl, bh_inj64 z⟩, fun z => by rw [z.2]⟩
    · subst hr hq ht hs
      refine ⟨fun z => absurd (bh_lt64 x) (by rw [z]; exact bh_nlt64 hj), fun z => absurd z.1 (by decide)⟩
  · rcases h2 with ⟨hq, hs⟩ | ⟨hq, j, hj, hd, hy, hs⟩
    · subst hr hq ht hs
      refine ⟨fun z => absurd (bh_lt64 y) (by rw [← z]; exact bh_nlt64 hi), fun z => absurd z.1 (by decide)⟩
    · subst hr hq ht hs hx hy
      rw [pk_lEQ (by omega) (by omega), nI_eq (by omega) (by omega)]
      exact ⟨fun z => ⟨rfl, by omega⟩, fun z => by omega⟩
theorem i_vc_same {k : Nat} {u : SX} {v : SY} (I : i_Rel k u v) (hk : k + 4 ≤ 2048) (v1 : Int32) (v2 : Int32) : wpX_same (fun r => wpY_same (fun r' => r' = r ∧ i_Rel (k + 4) u v) v v1 v2) u v1 v2 := by
  obtain ⟨c, rc, rt, ft, rd, ro, rf, ct, rd', rfl, rfl, h⟩ := I
  have G := bh_mk (k := k + 4) h rc rd ro rd'
  unfold wpX_same wpY_same
  dsimp only
  rcases bh_ix v1 with hb | ⟨j, hj, rfl⟩
  · exact bh_regB hb (br_t rfl (bh_badB hb (br_f (by decide) ⟨rfl, G⟩)))
  · refine bh_regO hj (br_f (by decide) ?_)
    rcases bh_ix v2 with hb | ⟨i, hi, rfl⟩
    · exact bh_regB hb (br_t rfl (bh_badO hj (br_t rfl (bh_badB hb (br_f (by decide) ⟨rfl, G⟩)))))
    · refine bh_regO hi (br_f (by decide) ⟨vp_in_nI hj (by omega), vp_in_nI hi (by omega), ?_⟩)
      have hin : vp_in (nI j) 222 := vp_in_nI (by omega) (by omega)
      have hin2 : vp_in (nI i) 222 := vp_in_nI (by omega) (by omega)
      have e := bh_Tm_eq (h.2.2.1 j hj) (h.2.2.1 i hi)
      have cj : (nI j).toNatClampNeg = j := nI_clamp (by omega)
      have ci : (nI i).toNatClampNeg = i := nI_clamp (by omega)
      rw [cj, ci]
      by_cases z : rt j = rt i
      · refine br_t z (bh_badO hj (br_t rfl (bh_badO hi (br_t rfl ⟨hin, hin2, ?_⟩))))
        exact br_t (e.mp z).1 ⟨hin, hin2, br_t (e.mp z).2 ⟨rfl, G⟩⟩
      · refine br_f z (bh_badO hj (br_t rfl (bh_badO hi (br_t rfl ⟨hin, hin2, ?_⟩))))
        by_cases w : rf j = rf i
        · exact br_t w ⟨hin, hin2, br_f (fun y => z (e.mpr ⟨w, y⟩)) ⟨rfl, G⟩⟩
        · exact br_f w ⟨rfl, G⟩
theorem i_vc_fields {k : Nat} {u : SX} {v : SY} (I : i_Rel k u v) (hk : k + 4 ≤ 2048) (v1 : Int32) : wpX_fields (fun r => wpY_fields (fun r' => r' = r ∧ i_Rel (k + 4) u v) v v1) u v1 := by
  obtain ⟨c, rc, rt, ft, rd, ro, rf, ct, rd', rfl, rfl, h⟩ := I
  have G := bh_mk (k := k + 4) h rc rd ro rd'
  unfold wpX_fields wpY_fields
  dsimp only
  rcases bh_ix v1 with hb | ⟨j, hj, rfl⟩
  · exact bh_regB hb (br_t rfl (bh_badB hb (br_f (by decide) ⟨rfl, G⟩)))
  · refine bh_regO hj (br_f (by decide) ⟨vp_in_nI hj (by omega), ?_⟩)
    have hin : vp_in (nI j) 222 := vp_in_nI (by omega) (by omega)
    have cj : (nI j).toNatClampNeg = j := nI_clamp (by omega)
    rw [cj]
    rcases h.2.2.1 j hj with ⟨hr, ht⟩ | ⟨hr, i, hi, hc, hx, ht⟩
    · rw [ht]
      refine bh_recI _ (br_t rfl (bh_badO hj (br_t rfl ⟨hin, ?_⟩)))
      exact br_t hr ⟨rfl, G⟩
    · rw [ht]
      refine bh_recR hi (br_f (bh_nm1 hi) ⟨vp_in_nI hi (by omega), bh_badO hj (br_t rfl ⟨hin, ?_⟩)⟩)
      rw [hx]
      exact br_f (by rw [hr]; decide) ⟨hin, vp_in_nI hi (by omega), rfl, G⟩
theorem bh_fldI {post : Int32 → Prop} (u : SX) (f : Int32) (hp : post 0) : wpX_hasField post u (-1) f := by
  obtain ⟨a, b, c, d, e, g, h⟩ := u
  exact br_t rfl hp
theorem bh_fldN {post : Int32 → Prop} {c : Nat → Nat} {rc uw : Int32} {rt ft : Nat → Int64} {rd ro : Nat → Int32} {i : Nat} {f : Int32} (hi : i < 36) (hc : c i ≤ 6) (hf : f < 0 ∨ nI (c i) ≤ f) (hp : post 0) : wpX_hasField post (rc, uw, rt, ft, bh_A c, rd, ro) (nI i) f := by
  refine br_f (bh_nm1 hi) ?_
  by_cases h0 : f < 0
  · exact br_t h0 hp
  · refine br_f h0 ⟨vp_in_nI hi (by omega), ?_⟩
    rw [nI_clamp (by omega)]
    exact br_t (hf.resolve_left h0) hp
theorem bh_fldO {post : Int32 → Prop} {c : Nat → Nat} {rc uw : Int32} {rt ft : Nat → Int64} {rd ro : Nat → Int32} {i f : Nat} (hi : i < 36) (hc : c i ≤ 6) (hf : f < c i) (hp : post 1) : wpX_hasField post (rc, uw, rt, ft, bh_A c, rd, ro) (nI i) (nI f) := by
  refine br_f (bh_nm1 hi) (br_f (nI_pos (by omega)) ⟨vp_in_nI hi (by omega), ?_⟩)
  rw [nI_clamp (by omega)]
  exact br_f (nI_ge hf (by omega)) hp
theorem bh_plcI {post : Int32 → Prop} {rf ct fo rd : Nat → Int32} {j : Nat} {f : Int32} (hj : j < 6) (hr : rf j = 0) (hp : post (-1)) : wpY_place post (rf, ct, fo, rd) (nI j) f := by
  refine ⟨vp_in_nI (by omega) (by omega), ?_⟩
  rw [nI_clamp (by omega)]
  exact br_t hr hp
theorem bh_plcN {post : Int32 → Prop} {rf ct rd : Nat → Int32} {c : Nat → Nat} {j i : Nat} {f : Int32} (hj : j < 6) (hr : rf j = 1) (hi : i < 36) (hx : ct j = nI i) (hc : c i ≤ 6) (hf : f < 0 ∨ nI (c i) ≤ f) (hp : post (-1)) : wpY_place post (rf, ct, bh_A c, rd) (nI j) f := by
  have hin : vp_in (nI j) 222 := vp_in_nI (by omega) (by omega)
  refine ⟨hin, ?_⟩
  rw [nI_clamp (by omega), hx]
  refine br_f (by rw [hr]; decide) ?_
  by_cases h0 : f < 0
  · exact br_t h0 hp
  · refine br_f h0 ⟨hin, vp_in_nI hi (by omega), ?_⟩
    rw [nI_clamp (by omega)]
    exact br_f (Int32.not_lt.mpr (hf.resolve_left h0)) hp
theorem bh_plcO {post : Int32 → Prop} {rf ct rd : Nat → Int32} {c : Nat → Nat} {j i f : Nat} (hj : j < 6) (hr : rf j = 1) (hi : i < 36) (hx : ct j = nI i) (hc : c i ≤ 6) (hf : f < c i) (hp : post (nI (6 + 6 * i + f))) : wpY_place post (rf, ct, bh_A c, rd) (nI j) (nI f) := by
  have hin : vp_in (nI j) 222 := vp_in_nI (by omega) (by omega)
  refine ⟨hin, ?_⟩
  rw [nI_clamp (by omega), hx]
  refine br_f (by rw [hr]; decide) (br_f (nI_pos (by omega)) ⟨hin, vp_in_nI hi (by omega), ?_⟩)
  rw [nI_clamp (by omega)]
  refine br_t (nI_lt hf (by omega)) ⟨hin, ?_⟩
  have e : (6 : Int32) + 6 * nI i + nI f = nI (6 + 6 * i + f) := by
    rw [← nI_add, ← nI_add, ← pk_mul]
    rfl
  rw [e]
  exact hp
theorem bh_fx (v : Int32) (n : Nat) (hn : n ≤ 6) : (v < 0 ∨ nI n ≤ v) ∨ ∃ j, j < n ∧ v = nI j := by
  rcases pk_ix v (n := n) (by omega) with h | h | h
  · exact Or.inl (Or.inl h)
  · exact Or.inl (Or.inr h)
  · exact Or.inr h
theorem bh_xf (i f : Nat) : nI i * 6 + nI f = nI (i * 6 + f) := by
  rw [← nI_add, ← pk_mul]
  rfl
theorem i_vc_store {k : Nat} {u : SX} {v : SY} (I : i_Rel k u v) (hk : k + 4 ≤ 2048) (v1 : Int32) (v2 : Int32) (v3 : Int32) : wpX_store (fun r u' => wpY_store (fun r' v' => r' = r ∧ i_Rel (k + 4) u' v') v v1 v2 v3) u v1 v2 v3 := by
  obtain ⟨c, rc, rt, ft, rd, ro, rf, ct, rd', rfl, rfl, h⟩ := I
  have G := bh_mk (k := k + 4) h rc rd ro rd'
  unfold wpX_store wpY_store
  dsimp only
  rcases bh_ix v1 with hb | ⟨j, hj, rfl⟩
  · exact bh_regB hb (br_t rfl (bh_badB hb (br_f (by decide) ⟨rfl, G⟩)))
  · refine bh_regO hj (br_f (by decide) ?_)
    rcases bh_ix v3 with hb | ⟨s, hs, rfl⟩
    · exact bh_regB hb (br_t rfl (bh_badO hj (br_t rfl (bh_badB hb (br_f (by decide) ⟨rfl, G⟩)))))
    · refine bh_regO hs (br_f (by decide) ⟨vp_in_nI hj (by omega), ?_⟩)
      rw [nI_clamp (show j < 2 ^ 31 by omega)]
      rcases h.2.2.1 j hj with ⟨hr, ht⟩ | ⟨hr, i, hi, hc, hx, ht⟩
      · rw [ht]
        refine bh_recI _ (bh_fldI _ _ (br_t rfl (bh_badO hj (br_t rfl (bh_badO hs (br_t rfl ?_))))))
        exact bh_plcI hj hr (br_f (by decide) ⟨rfl, G⟩)
      · rw [ht]
        have h6 := h.1 i
        refine bh_recR hi ?_
        rcases bh_fx v2 (c i) h6 with hb | ⟨f, hf, rfl⟩
        · refine bh_fldN hi h6 hb (br_t rfl (bh_badO hj (br_t rfl (bh_badO hs (br_t rfl ?_)))))
          exact bh_plcN hj hr hi hx h6 hb (br_f (by decide) ⟨rfl, G⟩)
        · refine bh_fldO hi h6 hf (br_f (by decide) ⟨vp_in_nI hs (by omega), ?_⟩)
          rw [bh_xf]
          refine ⟨vp_in_nI (by omega) (by omega), fun a ea => ?_⟩
          rw [nI_clamp (by omega), nI_clamp (by omega)] at ea
          subst ea
          have hT := h.2.2.1 s hs
          refine bh_badO hj (br_t rfl (bh_badO hs (br_t rfl ?_)))
          refine bh_plcO hj hr hi hx h6 hf (br_t (nI_pos' (by omega)) (bh_takeO (by omega) (by omega) (bh_Tm01 hT) ?_))
          exact ⟨rfl, bh_mk (bh_R_fld h hf hT) rc rd ro rd'⟩
theorem i_vc_load {k : Nat} {u : SX} {v : SY} (I : i_Rel k u v) (hk : k + 4 ≤ 2048) (v1 : Int32) (v2 : Int32) (v3 : Int32) : wpX_load (fun r u' => wpY_load (fun r' v' => r' = r ∧ i_Rel (k + 4) u' v') v v1 v2 v3) u v1 v2 v3 := by
  obtain ⟨c, rc, rt, ft, rd, ro, rf, ct, rd', rfl, rfl, h⟩ := I
  have G := bh_mk (k := k + 4) h rc rd ro rd'
  unfold wpX_load wpY_load
  dsimp only
  rcases bh_ix v1 with hb | ⟨s, hs, rfl⟩
  · exact bh_regB hb (br_t rfl (bh_badB hb (br_f (by decide) ⟨rfl, G⟩)))
  · refine bh_regO hs (br_f (by decide) ?_)
    rcases bh_ix v2 with hb | ⟨j, hj, rfl⟩
    · exact bh_regB hb (br_t rfl (bh_badO hs (br_t rfl (bh_badB hb (br_f (by decide) ⟨rfl, G⟩)))))
    · refine bh_regO hj (br_f (by decide) ⟨vp_in_nI hj (by omega), ?_⟩)
      rw [nI_clamp (show j < 2 ^ 31 by omega)]
      rcases h.2.2.1 j hj with ⟨hr, ht⟩ | ⟨hr, i, hi, hc, hx, ht⟩
      · rw [ht]
        refine bh_recI _ (bh_fldI _ _ (br_t rfl (bh_badO hs (br_t rfl (bh_badO hj (br_t rfl ?_))))))
        exact bh_plcI hj hr (br_f (by decide) ⟨rfl, G⟩)
      · rw [ht]
        have h6 := h.1 i
        refine bh_recR hi ?_
        rcases bh_fx v3 (c i) h6 with hb | ⟨f, hf, rfl⟩
        · refine bh_fldN hi h6 hb (br_t rfl (bh_badO hs (br_t rfl (bh_badO hj (br_t rfl ?_)))))
          exact bh_plcN hj hr hi hx h6 hb (br_f (by decide) ⟨rfl, G⟩)
        · refine bh_fldO hi h6 hf (br_f (by decide) ?_)
          rw [bh_xf]
          refine ⟨vp_in_nI (by omega) (by omega), vp_in_nI hs (by omega), fun a ea => ?_⟩
          rw [nI_clamp (by omega), nI_clamp (by omega)] at ea
          subst ea
          have hT := h.2.2.2 i f hi hf
          refine bh_badO hs (br_t rfl (bh_badO hj (br_t rfl ?_)))
          refine bh_plcO hj hr hi hx h6 hf (br_t (nI_pos' (by omega)) (bh_takeO (by omega) (by omega) (bh_Tm01 hT) ?_))
          exact ⟨rfl, bh_mk (bh_R_reg h hs hT) rc rd ro rd'⟩
end
section
def bh_E (rf ct : Nat → Int32) (p i : Nat) : Prop := rf p ≠ 0 ∧ i < 36 ∧ ct p = nI i
def bh_I (c : Nat → Nat) (E : Nat → Nat → Prop) (n : Nat) (rd ro : Nat → Int32) : Prop :=
  n = bh_cnt rd 36 ∧ (∀ q, q < n → ∃ i, i < 36 ∧ ro q = nI i ∧ rd i ≠ 0) ∧
  (∀ i, i < 36 → rd i ≠ 0 → ∃ q, q < n ∧ ro q = nI i) ∧ (∀ S, bh_Cl c E S → ∀ i, i < 36 → rd i ≠ 0 → S i)
def bh_G (n : Nat) (rd ro : Nat → Int32) (m : Nat) (sd so : Nat → Int32) : Prop :=
  n ≤ m ∧ (∀ i, rd i ≠ 0 → sd i ≠ 0) ∧ (∀ q, q < n → so q = ro q)
theorem bh_G_rfl (n : Nat) (rd ro : Nat → Int32) : bh_G n rd ro n rd ro := ⟨Nat.le_refl _, fun _ h => h, fun _ _ => rfl⟩
theorem bh_G_tr {n m l : Nat} {rd ro sd so td to : Nat → Int32} (h : bh_G n rd ro m sd so) (g : bh_G m sd so l td to) : bh_G n rd ro l td to :=
  ⟨Nat.le_trans h.1 g.1, fun i hi => g.2.1 i (h.2.1 i hi), fun q hq => (g.2.2 q (Nat.lt_of_lt_of_le hq h.1)).trans (h.2.2 q hq)⟩
theorem bh_upd_ne {rd : Nat → Int32} {i j : Nat} (h : rd j ≠ 0) : upd rd i 1 j ≠ 0 := by
  by_cases e : j = i
  · subst e
    rw [pk_us]
    decide
  · rw [pk_un e]
    exact h
theorem bh_I_add {c : Nat → Nat} {E : Nat → Nat → Prop} {n : Nat} {rd ro : Nat → Int32} (h : bh_I c E n rd ro) {i : Nat} (hi : i < 36) (h0 : rd i = 0) (hS : ∀ S, bh_Cl c E S → S i) :
    n < 36 ∧ bh_I c E (n + 1) (upd rd i 1) (upd ro n (nI i)) ∧ bh_G n rd ro (n + 1) (upd rd i 1) (upd ro n (nI i)) := by
  have hc := bh_cnt_upd h0 36 hi
  have hl := bh_cnt_le (upd rd i 1) 36
  have hn := h.1
  refine ⟨by omega, ⟨by omega, fun q hq => ?_, fun j hj hd => ?_, fun S hC j hj hd => ?_⟩, by omega, fun j hj => bh_upd_ne hj, fun q hq => pk_un (by omega)⟩
  · by_cases e : q = n
    · subst e
      exact ⟨i, hi, pk_us, by rw [pk_us]; decide⟩
    · obtain ⟨j, hj, hq, hd⟩ := h.2.1 q (by omega)
      exact ⟨j, hj, (pk_un e).trans hq, bh_upd_ne hd⟩
  · by_cases e : j = i
    · subst e
      exact ⟨n, by omega, pk_us⟩
    · rw [pk_un e] at hd
      obtain ⟨q, hq, e2⟩ := h.2.2.1 j hj hd
      exact ⟨q, by omega, (pk_un (by omega)).trans e2⟩
  · by_cases e : j = i
    · subst e
      exact hS S hC
    · rw [pk_un e] at hd
      exact h.2.2.2 S hC j hj hd
theorem bh_reach {post : SX → Prop} {c : Nat → Nat} {rf ct : Nat → Int32} {p : Nat} {t : Int64} {n : Nat} {rd ro : Nat → Int32} (uw : Int32) (rt ft : Nat → Int64) (fc : Nat → Int32) (ht : bh_Tm c t (rf p) (ct p)) (h : bh_I c (bh_E rf ct) n rd ro)
    (hS : ∀ S, bh_Cl c (bh_E rf ct) S → ∀ i, bh_E rf ct p i → S i)
    (k : ∀ m sd so, bh_I c (bh_E rf ct) m sd so → bh_G n rd ro m sd so → (∀ i, bh_E rf ct p i → sd i ≠ 0) → post (nI m, uw, rt, ft, fc, sd, so)) : wpX_reach post (nI n, uw, rt, ft, fc, rd, ro) t := by
  unfold wpX_reach
  dsimp only
  have hl := bh_cnt_le rd 36
  have hn := h.1
  rcases ht with ⟨hr, ht⟩ | ⟨hr, i, hi, hc, hx, ht⟩
  · rw [ht]
    exact bh_recI _ (br_t rfl (k n rd ro h (bh_G_rfl n rd ro) (fun i hE => absurd hr hE.1)))
  · rw [ht]
    have hin : vp_in (nI i) 36 := vp_in_nI hi (by omega)
    refine bh_recR hi (br_f (bh_nm1 hi) ⟨hin, ?_⟩)
    have ci : (nI i).toNatClampNeg = i := nI_clamp (by omega)
    have hu : ∀ j, bh_E rf ct p j → j = i := by
      intro j hE
      have := hE.2.2.symm.trans hx
      exact (nI_eq (by have := hE.2.1; omega) (by omega)).mp this
    have hE : bh_E rf ct p i := ⟨by rw [hr]; decide, hi, hx⟩
    rw [ci]
    by_cases z : rd i = 0
    · obtain ⟨hlt, hI, hG⟩ := bh_I_add h hi z (fun S hC => hS S hC i hE)
      refine br_t z ⟨hin, fun a ea => ⟨vp_in_nI hlt (by omega), fun b eb m em => ?_⟩⟩
      rw [bh_n1] at ea
      rw [nI_clamp (by omega)] at eb
      rw [nI_1] at em
      subst ea eb em
      refine k (n + 1) _ _ hI hG (fun j hj => ?_)
      rw [hu j hj, pk_us]
      decide
    · exact br_f z (k n rd ro h (bh_G_rfl n rd ro) (fun j hj => by rw [hu j hj]; exact z))
theorem bh_forget {post : SX → Prop} {rc uw : Int32} {rt ft : Nat → Int64} {fc ro : Nat → Int32} (k : ∀ sd, (∀ j, j < 36 → sd j = 0) → post (rc, uw, rt, ft, fc, sd, ro)) : ∀ d i rd, i + d = 36 → (∀ j, j < i → rd j = 0) → wX_forgetReached_7 post rc uw (d + 1) (nI i) rt ft fc rd ro := by
  intro d
  induction d with
  | zero =>
    intro i rd hi h
    obtain rfl : i = 36 := by omega
    exact br_t (nI_le (a := 36) (b := 36) (by omega) (by omega)) (k rd h)
  | succ d ih =>
    intro i rd hi h
    refine br_f (nI_ge (b := 36) (by omega) (by omega)) ⟨vp_in_nI (by omega) (by omega), fun a ea x ex => ?_⟩
    rw [bh_n0, nI_clamp (by omega)] at ea
    rw [nI_1] at ex
    subst ea ex
    refine ih (i + 1) _ (by omega) (fun j hj => ?_)
    by_cases e : j = i
    · subst e
      exact pk_us
    · rw [pk_un e]
      exact h j (by omega)
theorem bh_regs {post : SX → Prop} {c : Nat → Nat} {rf ct : Nat → Int32} {uw : Int32} {rt ft : Nat → Int64} {fc : Nat → Int32} (ht : ∀ p, p < 6 → bh_Tm c (rt p) (rf p) (ct p))
    (k : ∀ m sd so, bh_I c (bh_E rf ct) m sd so → (∀ p, p < 6 → ∀ i, bh_E rf ct p i → sd i ≠ 0) → post (nI m, uw, rt, ft, fc, sd, so)) :
    ∀ d i n rd ro, i + d = 6 → bh_I c (bh_E rf ct) n rd ro → (∀ p, p < i → ∀ j, bh_E rf ct p j → rd j ≠ 0) → wX_reachFromRegisters_2 post (d + 1) (nI i) (nI n) uw rt ft fc rd ro := by
  intro d
  induction d with
  | zero =>
    intro i n rd ro hi h hp
    obtain rfl : i = 6 := by omega
    exact br_t (nI_le (a := 6) (b := 6) (by omega) (by omega)) (k n rd ro h hp)
  | succ d ih =>
    intro i n rd ro hi h hp
    refine br_f (nI_ge (b := 6) (by omega) (by omega)) ⟨vp_in_nI (by omega) (by omega), ?_⟩
    rw [nI_clamp (by omega)]
    refine bh_reach (rf := rf) (ct := ct) (p := i) uw rt ft fc (ht i (by omega)) h (fun S hC j hE => hC.1 i (by omega) j hE) ?_
    intro m sd so hI hG hN x ex
    rw [nI_1] at ex
    subst ex
    refine ih (i + 1) m sd so (by omega) hI (fun p hpi j hE => ?_)
    by_cases e : p = i
    · subst e
      exact hN j hE
    · exact hG.2.1 j (hp p (by omega) j hE)
theorem bh_rec39 {post : SX → Prop} {J2 : Int32 → Int32 → Int32 → (Nat → Int64) → (Nat → Int64) → (Nat → Int32) → (Nat → Int32) → (Nat → Int32) → Prop} {c : Nat → Nat} {rf ct : Nat → Int32} {uw x1 : Int32} {rt ft : Nat → Int64} {fc : Nat → Int32} {r n0 : Nat} {rd0 ro0 : Nat → Int32}
    (hr : r < 36) (hc : c r ≤ 6) (h0 : rd0 r ≠ 0) (ht : ∀ f, f < c r → bh_Tm c (ft (r * 6 + f)) (rf (6 + 6 * r + f)) (ct (6 + 6 * r + f)))
    (k : ∀ m sd so, bh_I c (bh_E rf ct) m sd so → bh_G n0 rd0 ro0 m sd so → (∀ f, f < c r → ∀ i, bh_E rf ct (6 + 6 * r + f) i → sd i ≠ 0) → J2 (x1 + 1) (nI m) uw rt ft fc sd so) :
    ∀ d f n rd ro, f + d = c r → bh_I c (bh_E rf ct) n rd ro → bh_G n0 rd0 ro0 n rd ro → (∀ g, g < f → ∀ i, bh_E rf ct (6 + 6 * r + g) i → rd i ≠ 0) → wX_reachFromRecords_39 post J2 x1 (nI (r * 6)) (nI (c r)) (d + 1) (nI f) (nI n) uw rt ft fc rd ro := by
  intro d
  induction d with
  | zero =>
    intro f n rd ro hf h hG hp
    obtain rfl : f = c r := by omega
    exact br_t (nI_le (by omega) (by omega)) (nm_e (k n rd ro h hG hp))
  | succ d ih =>
    intro f n rd ro hf h hG hp
    refine br_f (nI_ge (by omega) (by omega)) ?_
    rw [nI_add]
    refine ⟨vp_in_nI (by omega) (by omega), ?_⟩
    rw [nI_clamp (by omega)]
    refine bh_reach (rf := rf) (ct := ct) (p := 6 + 6 * r + f) uw rt ft fc (ht f (by omega)) h (fun S hC j hE => hC.2 r hr (h.2.2.2 S hC r hr (hG.2.1 r h0)) f (by omega) j hE) ?_
    intro m sd so hI hG2 hN x ex
    rw [nI_1] at ex
    subst ex
    refine ih (f + 1) m sd so (by omega) hI (bh_G_tr hG hG2) (fun g hg j hE => ?_)
    by_cases e : g = f
    · subst e
      exact hN j hE
    · exact hG2.2.1 j (hp g (by omega) j hE)
theorem bh_recs {post : SX → Prop} {c : Nat → Nat} {rf ct : Nat → Int32} {uw : Int32} {rt ft : Nat → Int64} (h6 : ∀ j, c j ≤ 6)
    (ht : ∀ j f, j < 36 → f < c j → bh_Tm c (ft (j * 6 + f)) (rf (6 + 6 * j + f)) (ct (6 + 6 * j + f)))
    (k : ∀ m sd so, bh_Mk c (bh_E rf ct) sd → post (nI m, uw, rt, ft, bh_A c, sd, so)) :
    ∀ d i n rd ro, i + d = 36 → i ≤ n → bh_I c (bh_E rf ct) n rd ro → (∀ p, p < 6 → ∀ j, bh_E rf ct p j → rd j ≠ 0) →
      (∀ q, q < i → ∀ r, r < 36 → ro q = nI r → ∀ f, f < c r → ∀ j, bh_E rf ct (6 + 6 * r + f) j → rd j ≠ 0) → wX_reachFromRecords_2 post (d + 1) (nI i) (nI n) uw rt ft (bh_A c) rd ro := by
  have fin : ∀ i n rd ro, n ≤ i → bh_I c (bh_E rf ct) n rd ro → (∀ p, p < 6 → ∀ j, bh_E rf ct p j → rd j ≠ 0) →
      (∀ q, q < i → ∀ r, r < 36 → ro q = nI r → ∀ f, f < c r → ∀ j, bh_E rf ct (6 + 6 * r + f) j → rd j ≠ 0) → bh_Mk c (bh_E rf ct) rd := by
    intro i n rd ro hi h hp hq
    refine ⟨h.2.2.2, hp, fun r hr hd f hf j hE => ?_⟩
    obtain ⟨q, hqn, e⟩ := h.2.2.1 r hr hd
    exact hq q (by omega) r hr e f hf j hE
  intro d
  induction d with
  | zero =>
    intro i n rd ro hi hin h hp hq
    obtain rfl : i = 36 := by omega
    have hl := bh_cnt_le rd 36
    have hn := h.1
    exact br_t (nI_le (a := 36) (b := 36) (by omega) (by omega)) (k n rd ro (fin 36 n rd ro (by omega) h hp hq))
  | succ d ih =>
    intro i n rd ro hi hin h hp hq
    have hl := bh_cnt_le rd 36
    have hn := h.1
    refine br_f (nI_ge (b := 36) (by omega) (by omega)) ?_
    by_cases z : n ≤ i
    · exact br_t (nI_le z (by omega)) (k n rd ro (fin i n rd ro z h hp hq))
    · refine br_f (nI_ge (by omega) (by omega)) ⟨vp_in_nI (by omega) (by omega), fun x2 e2 x3 e3 => ?_⟩
      obtain ⟨r, hr, er, hd⟩ := h.2.1 i (by omega)
      rw [nI_clamp (by omega), er] at e2
      subst e2
      have e6 : nI r * 6 = nI (r * 6) := pk_mul r 6
      rw [e6] at e3
      subst e3
      refine ⟨vp_in_nI hr (by omega), fun x4 e4 => ?_⟩
      rw [nI_clamp (by omega)] at e4
      have e4' : x4 = nI (c r) := e4
      subst e4'
      refine ⟨c r + 1, bh_rec39 (n0 := n) (rd0 := rd) (ro0 := ro) hr (h6 r) hd (fun f hf => ht r f hr hf) ?_ (c r) 0 n rd ro (by omega) h (bh_G_rfl n rd ro) (fun g hg => absurd hg (Nat.not_lt_zero g))⟩
      intro m sd so hI hG hN
      rw [nI_1]
      refine ih (i + 1) m sd so (by omega) (by have := hG.1; omega) hI (fun p hp2 j hE => hG.2.1 j (hp p hp2 j hE)) (fun q hq2 s hs es f hf j hE => ?_)
      rw [hG.2.2 q (by omega)] at es
      by_cases e : q = i
      · subst e
        have : s = r := (nI_eq (by omega) (by omega)).mp (es.symm.trans er)
        subst this
        exact hN f hf j hE
      · exact hG.2.1 j (hq q (by omega) s hs es f hf j hE)
theorem bh_rem14 {post : SX → Prop} {c : Nat → Nat} {rc : Int32} {rt ft : Nat → Int64} {M ro : Nat → Int32} (h6 : ∀ j, c j ≤ 6)
    (k : post (rc, nI (bh_sum (bh_keep 36 M c) 36), rt, ft, bh_A (bh_keep 36 M c), M, ro)) :
    ∀ d i, i + d = 36 → wX_removeUnreached_14 post rc (d + 1) (nI i) (nI (bh_sum (bh_keep i M c) 36)) rt ft (bh_A (bh_keep i M c)) M ro := by
  intro d
  induction d with
  | zero =>
    intro i hi
    obtain rfl : i = 36 := by omega
    exact br_t (nI_le (a := 36) (b := 36) (by omega) (by omega)) k
  | succ d ih =>
    intro i hi
    have hin : vp_in (nI i) 36 := vp_in_nI (by omega) (by omega)
    have h6i := h6 i
    have I := ih (i + 1) (by omega)
    refine br_f (nI_ge (b := 36) (by omega) (by omega)) ⟨hin, ?_⟩
    have e : bh_A (bh_keep i M c) (nI i).toNatClampNeg = nI (c i) := by
      rw [nI_clamp (by omega)]
      exact congrArg nI (bh_keep_at i M c)
    rw [e, nI_clamp (by omega)]
    have hsum := bh_sum_upd (bh_keep i M c) i 0 36 (by omega)
    rw [if_pos rfl] at hsum
    by_cases z : c i = 0
    · have ek : bh_keep (i + 1) M c = bh_keep i M c := by
        by_cases g : M i = 0
        · have := bh_upd_same (c := bh_keep i M c) (i := i)
          rw [bh_keep_at, z] at this
          rw [bh_keep_t c g, this]
        · exact bh_keep_f c g
      rw [ek] at I
      refine br_t (nI_le (a := c i) (b := 0) (by omega) (by omega)) (nm_r (nI_1 i) I)
    · refine br_f (nI_ge (a := 0) (b := c i) (by omega) (by omega)) ⟨hin, ?_⟩
      by_cases g : M i = 0
      · have ho : bh_one (bh_keep i M c) i = c i + 1 := by
          unfold bh_one
          rw [bh_keep_at, if_neg z]
        rw [bh_keep_t c g] at I
        refine br_t g ⟨hin, fun w ew => ⟨hin, fun a ea x ex => ?_⟩⟩
        rw [nI_1, pk_sub (by omega)] at ew
        have ea' : a = upd (bh_A (bh_keep i M c)) i (nI 0) := ea
        rw [bh_A_upd] at ea'
        rw [nI_1] at ex
        subst ew ea' ex
        rw [show bh_sum (bh_keep i M c) 36 - (c i + 1) = bh_sum (bh_upd (bh_keep i M c) i 0) 36 by omega]
        exact I
      · rw [bh_keep_f c g] at I
        exact br_f g (nm_r (nI_1 i) I)
theorem bh_removeX {post : SX → Prop} {c : Nat → Nat} {rf ct : Nat → Int32} {rc : Int32} {rt ft : Nat → Int64} {rd ro : Nat → Int32} (h : bh_R c rt ft rf ct)
    (k : ∀ rc M so, bh_Mk c (bh_E rf ct) M → post (rc, nI (bh_sum (bh_keep 36 M c) 36), rt, ft, bh_A (bh_keep 36 M c), M, so)) : wpX_removeUnreached post (rc, nI (bh_sum c 36), rt, ft, bh_A c, rd, ro) := by
  unfold wpX_removeUnreached
  dsimp only
  refine ⟨37, bh_forget ?_ 36 0 rd rfl (fun j hj => absurd hj (Nat.not_lt_zero j))⟩
  intro sd hsd
  dsimp only
  have hI : bh_I c (bh_E rf ct) 0 sd ro := ⟨(bh_cnt_0 36 hsd).symm, fun q hq => absurd hq (Nat.not_lt_zero q), fun i hi hd => absurd (hsd i hi) hd, fun S _ i hi hd => absurd (hsd i hi) hd⟩
  refine ⟨7, bh_regs h.2.2.1 ?_ 6 0 0 sd ro rfl hI (fun p hp => absurd hp (Nat.not_lt_zero p))⟩
  intro m sd so hI hp
  dsimp only
  refine ⟨37, bh_recs h.1 h.2.2.2 ?_ 36 0 m sd so rfl (Nat.zero_le m) hI hp (fun q hq => absurd hq (Nat.not_lt_zero q))⟩
  intro m M so hM
  dsimp only
  refine ⟨37, ?_⟩
  have := bh_rem14 (post := post) (rc := nI m) (rt := rt) (ft := ft) (M := M) (ro := so) h.1 (k (nI m) M so hM) 36 0 rfl
  rw [bh_keep_0] at this
  exact this
end
section
def bh_W (c : Nat → Nat) (rf ct : Nat → Int32) : Prop := ∀ p, p < 222 → (p < 6 ∨ (p - 6) % 6 < c ((p - 6) / 6)) → rf p = 0 ∨ ∃ i, i < 36 ∧ ct p = nI i
theorem bh_R_W {c : Nat → Nat} {rt ft : Nat → Int64} {rf ct : Nat → Int32} (h : bh_R c rt ft rf ct) : bh_W c rf ct := by
  have g : ∀ {t : Int64} {r x : Int32}, bh_Tm c t r x → r = 0 ∨ ∃ i, i < 36 ∧ x = nI i := by
    intro t r x ht
    rcases ht with ⟨hr, _⟩ | ⟨_, i, hi, _, hx, _⟩
    · exact Or.inl hr
    · exact Or.inr ⟨i, hi, hx⟩
  intro p hp hh
  by_cases h6 : p < 6
  · exact g (h.2.2.1 p h6)
  · have hf := hh.resolve_left h6
    have ht := h.2.2.2 ((p - 6) / 6) ((p - 6) % 6) (by omega) hf
    rw [show 6 + 6 * ((p - 6) / 6) + (p - 6) % 6 = p by omega] at ht
    exact g ht
def bh_Cp (c : Nat → Nat) (rf ct M : Nat → Int32) (p : Nat) : Prop :=
  (p < 6 ∨ (M ((p - 6) / 6) ≠ 0 ∧ (p - 6) % 6 < c ((p - 6) / 6))) → ∀ i, bh_E rf ct p i → M i ≠ 0
theorem bh_Cp_Cl {c : Nat → Nat} {rf ct M : Nat → Int32} (h6 : ∀ j, c j ≤ 6) (h : ∀ p, p < 222 → bh_Cp c rf ct M p) : bh_Cl c (bh_E rf ct) (fun i => M i ≠ 0) := by
  refine ⟨fun p hp i hE => h p (by omega) (Or.inl hp) i hE, fun j hj hd f hf i hE => ?_⟩
  have h6j := h6 j
  refine h (6 + 6 * j + f) (by omega) (Or.inr ?_) i hE
  rw [show (6 + 6 * j + f - 6) / 6 = j by omega, show (6 + 6 * j + f - 6) % 6 = f by omega]
  exact ⟨hd, hf⟩
def bh_So (c : Nat → Nat) (rf ct M : Nat → Int32) : Prop := ∀ S, bh_Cl c (bh_E rf ct) S → ∀ i, i < 36 → M i ≠ 0 → S i
def bh_P (c : Nat → Nat) (rf ct : Nat → Int32) (rnd : Nat) (more : Int32) (p : Nat) (M : Nat → Int32) : Prop :=
  bh_So c rf ct M ∧ ((more = 0 ∧ rnd ≤ bh_cnt M 36 ∧ ∀ q, q < p → bh_Cp c rf ct M q) ∨ (more = 1 ∧ rnd + 1 ≤ bh_cnt M 36))
theorem bh_m93 {post : SY → Prop} {J25 J39 : Int32 → Int32 → (Nat → Int32) → (Nat → Int32) → (Nat → Int32) → (Nat → Int32) → Prop} {x1 x2 : Int32} {p : Nat} {rf ct fo M : Nat → Int32} (k : J39 x1 (nI (p + 1)) rf ct fo M) : wY_mark_93 post J25 J39 x1 x2 (nI p) rf ct fo M :=
  br_t rfl (nm_r (nI_1 p) k)
theorem bh_m89 {post : SY → Prop} {J25 J39 : Int32 → Int32 → (Nat → Int32) → (Nat → Int32) → (Nat → Int32) → (Nat → Int32) → Prop} {x1 x2 : Int32} {p : Nat} {rf ct fo M : Nat → Int32} (hp : p < 222) (hW : rf p = 0 ∨ ∃ i, i < 36 ∧ ct p = nI i)
    (k0 : (∀ i, bh_E rf ct p i → M i ≠ 0) → J39 x1 (nI (p + 1)) rf ct fo M)
    (k1 : ∀ i, bh_E rf ct p i → M i = 0 → J39 1 (nI (p + 1)) rf ct fo (upd M i 1)) : wY_mark_89 post J25 J39 x1 x2 (nI p) rf ct fo M := by
  have hin : vp_in (nI p) 222 := vp_in_nI hp (by omega)
  unfold wY_mark_89
  refine br_f (by decide) ⟨hin, ?_⟩
  rw [nI_clamp (by omega)]
  by_cases z : rf p = 0
  · exact br_t z (nm_r (nI_1 p) (k0 (fun i hE => absurd z hE.1)))
  · obtain ⟨i, hi, hx⟩ := hW.resolve_left z
    have hu : ∀ j, bh_E rf ct p j → j = i := by
      intro j hE
      exact (nI_eq (by have := hE.2.1; omega) (by omega)).mp (hE.2.2.symm.trans hx)
    have h36 : vp_in (nI i) 36 := vp_in_nI hi (by omega)
    rw [hx]
    refine br_f z ⟨hin, h36, ?_⟩
    rw [nI_clamp (by omega)]
    by_cases m : M i = 0
    · refine br_t m ⟨hin, h36, fun a ea => nm_r (nI_1 p) ?_⟩
      rw [bh_n1] at ea
      subst ea
      exact k1 i ⟨z, hi, hx⟩ m
    · exact br_f m (nm_r (nI_1 p) (k0 (fun j hE => by rw [hu j hE]; exact m)))
theorem bh_P_keep {c : Nat → Nat} {rf ct : Nat → Int32} {rnd : Nat} {more : Int32} {p : Nat} {M : Nat → Int32} (h : bh_P c rf ct rnd more p M) (hp : bh_Cp c rf ct M p) : bh_P c rf ct rnd more (p + 1) M := by
  refine ⟨h.1, ?_⟩
  rcases h.2 with ⟨e, hr, hq⟩ | h2
  · refine Or.inl ⟨e, hr, fun q hqp => ?_⟩
    by_cases eq : q = p
    · subst eq
      exact hp
    · exact hq q (by omega)
  · exact Or.inr h2
theorem bh_P_add {c : Nat → Nat} {rf ct : Nat → Int32} {rnd : Nat} {more : Int32} {p : Nat} {M : Nat → Int32} (h : bh_P c rf ct rnd more p M) {i : Nat} (hi : i < 36) (h0 : M i = 0) (hS : ∀ S, bh_Cl c (bh_E rf ct) S → S i) : bh_P c rf ct rnd 1 (p + 1) (upd M i 1) := by
  have hc := bh_cnt_upd h0 36 hi
  refine ⟨fun S hC j hj hd => ?_, Or.inr ⟨rfl, ?_⟩⟩
  · by_cases e : j = i
    · subst e
      exact hS S hC
    · rw [pk_un e] at hd
      exact h.1 S hC j hj hd
  · rcases h.2 with ⟨_, hr, _⟩ | ⟨_, hr⟩ <;> omega
theorem bh_m39 {post : SY → Prop} {J25 : Int32 → Int32 → (Nat → Int32) → (Nat → Int32) → (Nat → Int32) → (Nat → Int32) → Prop} {c : Nat → Nat} {rf ct : Nat → Int32} {rnd : Nat} (h6 : ∀ j, c j ≤ 6) (hW : bh_W c rf ct)
    (k : ∀ more M, bh_P c rf ct rnd more 222 M → J25 more (nI (rnd + 1)) rf ct (bh_A c) M) :
    ∀ d p more M, p + d = 222 → bh_P c rf ct rnd more p M → wY_mark_39 post J25 (nI rnd) (d + 1) more (nI p) rf ct (bh_A c) M := by
  intro d
  induction d with
  | zero =>
    intro p more M hp h
    obtain rfl : p = 222 := by omega
    exact br_t (nI_le (a := 222) (b := 222) (by omega) (by omega)) (nm_r (nI_1 rnd) (k more M h))
  | succ d ih =>
    intro p more M hp h
    refine br_f (nI_ge (b := 222) (by omega) (by omega)) ?_
    by_cases hl : p < 6
    · refine br_t (nI_lt (b := 6) hl (by omega)) (bh_m89 (by omega) (hW p (by omega) (Or.inl hl)) (fun hE => ih (p + 1) more M (by omega) (bh_P_keep h (fun _ => hE))) (fun i hE h0 => ih (p + 1) 1 _ (by omega) (bh_P_add h hE.2.1 h0 (fun S hC => hC.1 p hl i hE))))
    · obtain ⟨s, rfl⟩ : ∃ s, p = s + 6 := ⟨p - 6, by omega⟩
      have es : nI (s + 6) - 6 = nI s := by
        have := pk_sub (a := s + 6) (b := 6) (by omega)
        rw [Nat.add_sub_cancel] at this
        exact this
      have ed : nI s / 6 = nI (s / 6) := pk_div (a := s) (d := 6) (by omega) (by omega) (by omega)
      have er : nI s - nI (s / 6) * 6 = nI (s % 6) := by
        rw [← ed]
        exact pk_rem (a := s) (d := 6) (by omega) (by omega) (by omega)
      have hin : vp_in (nI (s / 6)) 36 := vp_in_nI (by omega) (by omega)
      have n6 : ¬ (6 : Int32) = 0 := by decide
      have e1 : (s + 6 - 6) / 6 = s / 6 := by omega
      have e2 : (s + 6 - 6) % 6 = s % 6 := by omega
      refine br_f (nI_nlt (b := 6) (by omega) (by omega)) ⟨n6, ?_⟩
      rw [es, ed]
      refine ⟨hin, ?_⟩
      have cl : (nI (s / 6)).toNatClampNeg = s / 6 := nI_clamp (by omega)
      rw [cl]
      by_cases m : M (s / 6) = 0
      · refine br_t m (bh_m93 (ih (s + 6 + 1) more M (by omega) (bh_P_keep h (fun hh => ?_))))
        rw [e1] at hh
        exact absurd m (hh.resolve_left hl).1
      · refine br_f m ⟨n6, n6, hin, ?_⟩
        rw [er]
        have h6s := h6 (s / 6)
        by_cases g : c (s / 6) ≤ s % 6
        · refine br_t (nI_le g (by omega)) (bh_m93 (ih (s + 6 + 1) more M (by omega) (bh_P_keep h (fun hh => ?_))))
          rw [e1, e2] at hh
          have := (hh.resolve_left hl).2
          omega
        · refine br_f (nI_ge (by omega) (by omega)) (bh_m89 (by omega) (hW (s + 6) (by omega) (Or.inr (by rw [e1, e2]; omega))) (fun hE => ih (s + 6 + 1) more M (by omega) (bh_P_keep h (fun _ => hE))) (fun i hE h0 => ih (s + 6 + 1) 1 _ (by omega) (bh_P_add h hE.2.1 h0 (fun S hC => ?_))))
          refine hC.2 (s / 6) (by omega) (h.1 S hC (s / 6) (by omega) m) (s % 6) (by omega) i ?_
          rw [show 6 + 6 * (s / 6) + s % 6 = s + 6 by omega]
          exact hE
theorem bh_m25 {post : SY → Prop} {c : Nat → Nat} {rf ct : Nat → Int32} (h6 : ∀ j, c j ≤ 6) (hW : bh_W c rf ct)
    (k : ∀ M, bh_Mk c (bh_E rf ct) M → post (rf, ct, bh_A c, M)) :
    ∀ d rnd more M, rnd + d = 37 → bh_So c rf ct M → ((more = 0 ∧ bh_Mk c (bh_E rf ct) M) ∨ (more = 1 ∧ rnd ≤ bh_cnt M 36)) → wY_mark_25 post (d + 1) more (nI rnd) rf ct (bh_A c) M := by
  intro d
  induction d with
  | zero =>
    intro rnd more M hr hS h
    obtain rfl : rnd = 37 := by omega
    refine br_t (nI_le (a := 37) (b := 37) (by omega) (by omega)) ?_
    rcases h with ⟨_, h⟩ | ⟨_, h⟩
    · exact k M h
    · have := bh_cnt_le M 36
      omega
  | succ d ih =>
    intro rnd more M hr hS h
    refine br_f (nI_ge (b := 37) (by omega) (by omega)) ?_
    rcases h with ⟨e, h⟩ | ⟨e, h⟩
    · exact br_t e (k M h)
    · subst e
      refine br_f (by decide) ⟨223, bh_m39 h6 hW ?_ 222 0 0 M rfl ⟨hS, Or.inl ⟨rfl, h, fun q hq => absurd hq (Nat.not_lt_zero q)⟩⟩⟩
      intro more K hP
      refine ih (rnd + 1) more K (by omega) hP.1 ?_
      rcases hP.2 with ⟨e, _, hq⟩ | h2
      · exact Or.inl ⟨e, hP.1, bh_Cp_Cl h6 hq⟩
      · exact Or.inr h2
theorem bh_m2 {post : SY → Prop} {c : Nat → Nat} {rf ct : Nat → Int32} (h6 : ∀ j, c j ≤ 6) (hW : bh_W c rf ct)
    (k : ∀ M, bh_Mk c (bh_E rf ct) M → post (rf, ct, bh_A c, M)) :
    ∀ d i M, i + d = 36 → (∀ j, j < i → M j = 0) → wY_mark_2 post (d + 1) (nI i) rf ct (bh_A c) M := by
  intro d
  induction d with
  | zero =>
    intro i M hi h
    obtain rfl : i = 36 := by omega
    refine br_t (nI_le (a := 36) (b := 36) (by omega) (by omega)) ⟨38, ?_⟩
    exact bh_m25 h6 hW k 37 0 1 M rfl (fun S _ i hi hd => absurd (h i hi) hd) (Or.inr ⟨rfl, Nat.zero_le _⟩)
  | succ d ih =>
    intro i M hi h
    refine br_f (nI_ge (b := 36) (by omega) (by omega)) ⟨vp_in_nI (by omega) (by omega), fun a ea x ex => ?_⟩
    rw [bh_n0, nI_clamp (by omega)] at ea
    rw [nI_1] at ex
    subst ea ex
    refine ih (i + 1) _ (by omega) (fun j hj => ?_)
    by_cases e : j = i
    · subst e
      exact pk_us
    · rw [pk_un e]
      exact h j (by omega)
theorem bh_c6 {post : Int32 → SY → Prop} {c : Nat → Nat} {rf ct M : Nat → Int32} (h6 : ∀ j, c j ≤ 6)
    (k : post (nI (bh_sum (bh_keep 36 M c) 36)) (rf, ct, bh_A (bh_keep 36 M c), M)) :
    ∀ d i, i + d = 36 → wY_collect_6 post (d + 1) (nI i) rf ct (bh_A (bh_keep i M c)) M := by
  intro d
  induction d with
  | zero =>
    intro i hi
    obtain rfl : i = 36 := by omega
    refine br_t (nI_le (a := 36) (b := 36) (by omega) (by omega)) ?_
    exact bh_usedY (fun j => Nat.le_trans (bh_keep_le 36 M c j) (h6 j)) k
  | succ d ih =>
    intro i hi
    have hin : vp_in (nI i) 36 := vp_in_nI (by omega) (by omega)
    have I := ih (i + 1) (by omega)
    refine br_f (nI_ge (b := 36) (by omega) (by omega)) ⟨hin, ?_⟩
    rw [nI_clamp (by omega)]
    by_cases g : M i = 0
    · rw [bh_keep_t c g] at I
      refine br_t g ⟨hin, fun a ea => nm_r (nI_1 i) ?_⟩
      have ea' : a = upd (bh_A (bh_keep i M c)) i (nI 0) := ea
      rw [bh_A_upd] at ea'
      subst ea'
      exact I
    · rw [bh_keep_f c g] at I
      exact br_f g (nm_r (nI_1 i) I)
theorem bh_collectY {post : Int32 → SY → Prop} {c : Nat → Nat} {rt ft : Nat → Int64} {rf ct rd : Nat → Int32} (h : bh_R c rt ft rf ct)
    (k : ∀ M, bh_Mk c (bh_E rf ct) M → post (nI (bh_sum (bh_keep 36 M c) 36)) (rf, ct, bh_A (bh_keep 36 M c), M)) : wpY_collect post (rf, ct, bh_A c, rd) := by
  unfold wpY_collect
  dsimp only
  refine ⟨37, bh_m2 h.1 (bh_R_W h) ?_ 36 0 rd rfl (fun j hj => absurd hj (Nat.not_lt_zero j))⟩
  intro M hM
  dsimp only
  refine ⟨37, ?_⟩
  have := bh_c6 (post := post) (rf := rf) (ct := ct) (M := M) h.1 (k M hM) 36 0 rfl
  rw [bh_keep_0] at this
  exact this
theorem bh_R_keep {c : Nat → Nat} {rt ft : Nat → Int64} {rf ct M : Nat → Int32} (h : bh_R c rt ft rf ct) (hM : bh_Mk c (bh_E rf ct) M) : bh_R (bh_keep 36 M c) rt ft rf ct := by
  have T : ∀ {p : Nat} {t : Int64}, bh_Tm c t (rf p) (ct p) → (∀ i, bh_E rf ct p i → M i ≠ 0) → bh_Tm (bh_keep 36 M c) t (rf p) (ct p) := by
    intro p t ht hE
    rcases ht with h0 | ⟨hr, i, hi, hc, hx, ht⟩
    · exact Or.inl h0
    · have hm := hE i ⟨by rw [hr]; decide, hi, hx⟩
      refine Or.inr ⟨hr, i, hi, ?_, hx, ht⟩
      have e : bh_keep 36 M c i = c i := if_neg (fun z => hm z.2)
      rw [e]
      exact hc
  refine ⟨fun j => Nat.le_trans (bh_keep_le 36 M c j) (h.1 j), Nat.le_trans (bh_sum_le 36 (fun j _ => bh_keep_le 36 M c j)) h.2.1, fun p hp => T (h.2.2.1 p hp) (hM.2.1 p hp), fun j f hj hf => ?_⟩
  by_cases m : M j = 0
  · have e : bh_keep 36 M c j = 0 := if_pos ⟨hj, m⟩
    omega
  · have e : bh_keep 36 M c j = c j := if_neg (fun z => m z.2)
    rw [e] at hf
    exact T (h.2.2.2 j f hj hf) (hM.2.2 j hj m f hf)
theorem i_vc_collect {k : Nat} {u : SX} {v : SY} (I : i_Rel k u v) (hk : k + 4 ≤ 2048) : wpX_collect (fun r u' => wpY_collect (fun r' v' => r' = r ∧ i_Rel (k + 4) u' v') v) u := by
  obtain ⟨c, rc, rt, ft, rd, ro, rf, ct, rd', rfl, rfl, h⟩ := I
  unfold wpX_collect
  dsimp only
  refine bh_removeX h ?_
  intro rc' M so hM
  refine bh_collectY h ?_
  intro K hK
  rw [bh_keep_Mk hK hM]
  exact ⟨rfl, bh_mk (bh_R_keep h hM) rc' M so K⟩
end
section
theorem bh_roomN {post : Int32 → Prop} {rc : Int32} {rt ft : Nat → Int64} {fc rd ro : Nat → Int32} {s p : Nat} (hs : s ≤ 72) (hp : p ≤ 6) (h : 72 - s < p + 1) (k : post 0) : wpX_hasRoomFor post (rc, nI s, rt, ft, fc, rd, ro) (nI p) := by
  have e : (72 : Int32) - nI s = nI (72 - s) := pk_sub (a := 72) (b := s) hs
  unfold wpX_hasRoomFor
  dsimp only
  rw [e, nI_1]
  exact br_t (nI_lt h (by omega)) k
theorem bh_roomO {post : Int32 → Prop} {rc : Int32} {rt ft : Nat → Int64} {fc rd ro : Nat → Int32} {s p : Nat} (hs : s ≤ 72) (hp : p ≤ 6) (h : p + 1 ≤ 72 - s) (k : post 1) : wpX_hasRoomFor post (rc, nI s, rt, ft, fc, rd, ro) (nI p) := by
  have e : (72 : Int32) - nI s = nI (72 - s) := pk_sub (a := 72) (b := s) hs
  unfold wpX_hasRoomFor
  dsimp only
  rw [e, nI_1]
  exact br_f (nI_nlt h (by omega)) k
theorem bh_free {c : Nat → Nat} (h : bh_sum c 36 ≤ 70) : ∃ i, i < 36 ∧ c i = 0 ∧ ∀ j, j < i → c j ≠ 0 := by
  have hx : ∃ k, c k = 0 ∧ k < 36 := by
    apply Classical.byContradiction
    intro hn
    have := bh_sum_ge (c := c) 36 (fun j hj e => hn ⟨j, e, hj⟩)
    omega
  obtain ⟨i, hi, hl⟩ := pk_least (fun k => c k = 0 ∧ k < 36) hx
  exact ⟨i, hi.2, hi.1, fun j hj e => hl j hj ⟨e, by omega⟩⟩
theorem bh_first2 {post : Int32 → Prop} {rc uw : Int32} {rt ft : Nat → Int64} {rd ro : Nat → Int32} {c : Nat → Nat} {i : Nat} (h6 : ∀ j, c j ≤ 6) (hi : i < 36) (h0 : c i = 0) (hl : ∀ j, j < i → c j ≠ 0) (k : post (nI i)) :
    ∀ d j, j + d = i → wX_firstUnusedRecord_2 post rc uw rt ft (bh_A c) rd ro (d + 1) (nI j) := by
  intro d
  induction d with
  | zero =>
    intro j hj
    obtain rfl : j = i := by omega
    by_cases z : 35 ≤ j
    · exact br_t (nI_le (a := 35) z (by omega)) k
    · refine br_f (nI_ge (b := 35) (by omega) (by omega)) ⟨vp_in_nI (by omega) (by omega), ?_⟩
      rw [nI_clamp (by omega)]
      exact br_t (nI_le (a := c j) (b := 0) (by omega) (by omega)) k
  | succ d ih =>
    intro j hj
    have hc := hl j (by omega)
    have h6j := h6 j
    refine br_f (nI_ge (b := 35) (by omega) (by omega)) ⟨vp_in_nI (by omega) (by omega), ?_⟩
    rw [nI_clamp (by omega)]
    exact br_f (nI_ge (a := 0) (b := c j) (by omega) (by omega)) (nm_r (nI_1 j) (ih (j + 1) (by omega)))
theorem bh_unused2 {post : Int32 → Prop} {rf ct rd : Nat → Int32} {c : Nat → Nat} {i : Nat} (h6 : ∀ j, c j ≤ 6) (hi : i < 36) (h0 : c i = 0) (hl : ∀ j, j < i → c j ≠ 0) (k : post (nI i)) :
    ∀ d j, j + d = i → wY_unused_2 post rf ct (bh_A c) rd (d + 1) (nI j) := by
  intro d
  induction d with
  | zero =>
    intro j hj
    obtain rfl : j = i := by omega
    refine br_f (nI_ge (b := 36) (by omega) (by omega)) ⟨vp_in_nI (by omega) (by omega), ?_⟩
    rw [nI_clamp (by omega)]
    have e : bh_A c j = 0 := congrArg nI h0
    exact br_t e k
  | succ d ih =>
    intro j hj
    have hc := hl j (by omega)
    have h6j := h6 j
    refine br_f (nI_ge (b := 36) (by omega) (by omega)) ⟨vp_in_nI (by omega) (by omega), ?_⟩
    rw [nI_clamp (by omega)]
    have e : ¬ bh_A c j = 0 := nI_ne0 (n := c j) (by omega) (by omega)
    exact br_f e (nm_r (nI_1 j) (ih (j + 1) (by omega)))
theorem bh_add27 {post : SX → Prop} {rc uw : Int32} {rt ft0 : Nat → Int64} {fc rd ro : Nat → Int32} {i p : Nat} (hi : i < 36) (hp : p ≤ 6)
    (k : ∀ gt : Nat → Int64, (∀ f, f < p → gt (i * 6 + f) = 0) → (∀ q, (q < i * 6 ∨ i * 6 + p ≤ q) → gt q = ft0 q) → post (rc, uw, rt, gt, fc, rd, ro)) :
    ∀ d f ft, f + d = p → (∀ g, g < f → ft (i * 6 + g) = 0) → (∀ q, (q < i * 6 ∨ i * 6 + p ≤ q) → ft q = ft0 q) → wX_addRecord_27 post (nI p) (nI (i * 6)) rc uw (d + 1) (nI f) rt ft fc rd ro := by
  intro d
  induction d with
  | zero =>
    intro f ft hf h1 h2
    obtain rfl : f = p := by omega
    exact br_t (nI_le (by omega) (by omega)) (k ft h1 h2)
  | succ d ih =>
    intro f ft hf h1 h2
    refine br_f (nI_ge (by omega) (by omega)) ?_
    rw [nI_add]
    refine ⟨vp_in_nI (by omega) (by omega), fun a ea x ex => ?_⟩
    rw [nI_clamp (by omega)] at ea
    rw [nI_1] at ex
    subst ea ex
    refine ih (f + 1) _ (by omega) (fun g hg => ?_) (fun q hq => ?_)
    · by_cases e : g = f
      · subst e
        exact pk_uLs
      · rw [pk_uLn (by omega)]
        exact h1 g (by omega)
    · rw [pk_uLn (by omega)]
      exact h2 q hq
theorem bh_addX {post : SX → Prop} {rc : Int32} {rt ft : Nat → Int64} {rd ro : Nat → Int32} {c : Nat → Nat} {i p s : Nat} (hi : i < 36) (hp : p ≤ 6)
    (k : ∀ gt : Nat → Int64, (∀ f, f < p → gt (i * 6 + f) = 0) → (∀ q, (q < i * 6 ∨ i * 6 + p ≤ q) → gt q = ft q) → post (rc, nI (s + (p + 1)), rt, gt, bh_A (bh_upd c i p), rd, ro)) : wpX_addRecord post (rc, nI s, rt, ft, bh_A c, rd, ro) (nI i) (nI p) := by
  refine ⟨vp_in_nI hi (by omega), fun a ea w ew x ex => ⟨p + 1, ?_⟩⟩
  rw [nI_clamp (by omega), bh_A_upd] at ea
  rw [nI_1, nI_add] at ew
  have ex' : x = nI (i * 6) := ex.trans (pk_mul i 6)
  subst ea ew ex'
  exact bh_add27 hi hp k p 0 ft (by omega) (fun g hg => absurd hg (Nat.not_lt_zero g)) (fun q _ => rfl)
theorem bh_make69 {post : Int32 → SY → Prop} {rf0 ct0 fo rd : Nat → Int32} {j i : Nat} (hj : j < 6) (hi : i < 36)
    (k : ∀ gf gt : Nat → Int32, (∀ f, f < 6 → gf (6 + 6 * i + f) = 0 ∧ gt (6 + 6 * i + f) = 0) → (∀ q, (q < 6 + 6 * i ∨ 6 + 6 * i + 6 ≤ q) → gf q = rf0 q ∧ gt q = ct0 q) → post 0 (upd gf j 1, upd gt j (nI i), fo, rd)) :
    ∀ d f rf ct, f + d = 6 → (∀ g, g < f → rf (6 + 6 * i + g) = 0 ∧ ct (6 + 6 * i + g) = 0) → (∀ q, (q < 6 + 6 * i ∨ 6 + 6 * i + 6 ≤ q) → rf q = rf0 q ∧ ct q = ct0 q) → wY_make_69 post (nI j) (nI i) (d + 1) (nI f) rf ct fo rd := by
  intro d
  induction d with
  | zero =>
    intro f rf ct hf h1 h2
    obtain rfl : f = 6 := by omega
    refine br_t (nI_le (a := 6) (b := 6) (by omega) (by omega)) ?_
    exact bh_setO (by omega) (Or.inr rfl) (k rf ct h1 h2)
  | succ d ih =>
    intro f rf ct hf h1 h2
    refine br_f (nI_ge (b := 6) (by omega) (by omega)) ?_
    have e : (6 : Int32) + 6 * nI i + nI f = nI (6 + 6 * i + f) := by
      rw [← nI_add, ← nI_add, ← pk_mul]
      rfl
    rw [e]
    refine bh_setO (by omega) (Or.inl rfl) ?_
    dsimp only
    refine nm_r (nI_1 f) (ih (f + 1) _ _ (by omega) (fun g hg => ?_) (fun q hq => ?_))
    · by_cases eg : g = f
      · subst eg
        exact ⟨pk_us, pk_us⟩
      · rw [pk_un (by omega), pk_un (by omega)]
        exact h1 g (by omega)
    · rw [pk_un (by omega), pk_un (by omega)]
      exact h2 q hq
theorem bh_R_make {c : Nat → Nat} {rt ft gt : Nat → Int64} {rf ct gf gc : Nat → Int32} {i p : Nat} (h : bh_R c rt ft rf ct) (hi : i < 36) (h0 : c i = 0) (hp1 : 1 ≤ p) (hp6 : p ≤ 6) (hs : bh_sum c 36 + (p + 1) ≤ 72)
    (g1 : ∀ f, f < p → gt (i * 6 + f) = 0) (g2 : ∀ q, (q < i * 6 ∨ i * 6 + p ≤ q) → gt q = ft q)
    (k1 : ∀ f, f < 6 → gf (6 + 6 * i + f) = 0 ∧ gc (6 + 6 * i + f) = 0) (k2 : ∀ q, (q < 6 + 6 * i ∨ 6 + 6 * i + 6 ≤ q) → gf q = rf q ∧ gc q = ct q) :
    bh_sum (bh_upd c i p) 36 = bh_sum c 36 + (p + 1) ∧ bh_R (bh_upd c i p) rt gt gf gc := by
  have hsum := bh_sum_upd c i p 36 hi
  have ho : bh_one c i = 0 := if_pos h0
  rw [if_neg (by omega), ho] at hsum
  have hne : ∀ j, c j ≠ 0 → bh_upd c i p j ≠ 0 := by
    intro j hj
    by_cases e : j = i
    · subst e
      rw [bh_us]
      omega
    · rw [bh_un e]
      exact hj
  have T : ∀ {t : Int64} {r x : Int32}, bh_Tm c t r x → bh_Tm (bh_upd c i p) t r x := by
    intro t r x ht
    rcases ht with h1 | ⟨hr, j, hj, hc, hx, ht⟩
    · exact Or.inl h1
    · exact Or.inr ⟨hr, j, hj, hne j hc, hx, ht⟩
  refine ⟨by omega, fun j => ?_, by omega, fun q hq => ?_, fun j f hj hf => ?_⟩
  · by_cases e : j = i
    · subst e
      rw [bh_us]
      exact hp6
    · rw [bh_un e]
      exact h.1 j
  · rw [(k2 q (by omega)).1, (k2 q (by omega)).2]
    exact T (h.2.2.1 q hq)
  · by_cases e : j = i
    · subst e
      rw [bh_us] at hf
      rw [g1 f hf, (k1 f (by omega)).1, (k1 f (by omega)).2]
      exact Or.inl ⟨rfl, by decide⟩
    · rw [bh_un e] at hf
      have h6 := h.1 j
      rw [g2 (j * 6 + f) (by omega), (k2 (6 + 6 * j + f) (by omega)).1, (k2 (6 + 6 * j + f) (by omega)).2]
      exact T (h.2.2.2 j f hj hf)
theorem bh_make2 {k : Nat} {c : Nat → Nat} {rt ft : Nat → Int64} {rf ct : Nat → Int32} (h : bh_R c rt ft rf ct) (rc : Int32) (rd ro : Nat → Int32) {j p : Nat} (hj : j < 6) (hp1 : 1 ≤ p) (hp6 : p ≤ 6)
    (Q : (Int32 → SY → Prop) → Prop) (hQ : ∀ post : Int32 → SY → Prop, (∀ rd' : Nat → Int32, wY_make_38 post (nI j) (nI p) rf ct (bh_A c) rd') → Q post) :
    wX_make_32 (fun r u' => Q (fun r' v' => r' = r ∧ i_Rel (k + 4) u' v')) (nI j) (nI p) rc (nI (bh_sum c 36)) rt ft (bh_A c) rd ro := by
  have hs := h.2.1
  unfold wX_make_32
  have e72 : (72 : Int32) - nI (bh_sum c 36) = nI (72 - bh_sum c 36) := pk_sub (a := 72) hs
  by_cases z : 72 - bh_sum c 36 < p + 1
  · refine bh_roomN hs hp6 z (br_t rfl (hQ _ (fun rd' => ?_)))
    unfold wY_make_38
    refine bh_usedY h.1 ?_
    rw [e72, nI_1]
    exact br_f (nI_ge z (by omega)) ⟨rfl, bh_mk h rc rd ro rd'⟩
  · obtain ⟨i, hi, h0, hl⟩ := bh_free (c := c) (by omega)
    refine bh_roomO hs hp6 (by omega) (br_f (by decide) ⟨i + 1, bh_first2 h.1 hi h0 hl ?_ i 0 (by omega)⟩)
    refine bh_addX hi hp6 ?_
    intro gt g1 g2
    dsimp only
    refine ⟨vp_in_nI hj (by omega), fun a ea => ?_⟩
    have e64 : (4294967296 : Int64) + (nI i).toInt64 = lN (4294967296 + i) := by
      rw [nI_l (by omega), ← lN_add]
      rfl
    rw [nI_clamp (by omega), e64] at ea
    subst ea
    refine hQ _ (fun rd' => ?_)
    unfold wY_make_38
    refine bh_usedY h.1 ?_
    rw [e72, nI_1]
    refine br_t (nI_le (by omega) (by omega)) ⟨i + 1, bh_unused2 h.1 hi h0 hl ?_ i 0 (by omega)⟩
    refine ⟨vp_in_nI hi (by omega), fun b eb => ⟨7, ?_⟩⟩
    rw [nI_clamp (by omega), bh_A_upd] at eb
    subst eb
    refine bh_make69 hj hi ?_ 6 0 rf ct rfl (fun g hg => absurd hg (Nat.not_lt_zero g)) (fun q _ => ⟨rfl, rfl⟩)
    intro gf gc k1 k2
    obtain ⟨es, hR⟩ := bh_R_make h hi h0 hp1 hp6 (by omega) g1 g2 k1 k2
    refine ⟨rfl, ?_⟩
    rw [← es]
    refine bh_mk (bh_R_reg hR hj (Or.inr ⟨rfl, i, hi, ?_, rfl, rfl⟩)) rc rd ro rd'
    rw [bh_us]
    omega
theorem i_vc_make {k : Nat} {u : SX} {v : SY} (I : i_Rel k u v) (hk : k + 4 ≤ 2048) (v1 : Int32) (v2 : Int32) : wpX_make (fun r u' => wpY_make (fun r' v' => r' = r ∧ i_Rel (k + 4) u' v') v v1 v2) u v1 v2 := by
  obtain ⟨c, rc, rt, ft, rd, ro, rf, ct, rd', rfl, rfl, h⟩ := I
  have G := bh_mk (k := k + 4) h rc rd ro rd'
  have hs := h.2.1
  have e72 : (72 : Int32) - nI (bh_sum c 36) = nI (72 - bh_sum c 36) := pk_sub (a := 72) hs
  unfold wpX_make
  dsimp only
  rcases bh_ix v1 with hb | ⟨j, hj, rfl⟩
  · refine bh_regB hb (br_t rfl ?_)
    unfold wpY_make
    exact bh_badB hb (br_f (by decide) ⟨rfl, G⟩)
  · refine bh_regO hj (br_f (by decide) ?_)
    by_cases h1 : v2 < 1
    · refine br_t h1 ?_
      unfold wpY_make
      exact bh_badO hj (br_t rfl (br_t h1 ⟨rfl, G⟩))
    · by_cases h6 : v2 ≤ 6
      · refine br_f h1 (br_t h6 ?_)
        obtain ⟨p, hp1, hp6, rfl⟩ : ∃ p, 1 ≤ p ∧ p ≤ 6 ∧ v2 = nI p := by
          have hn : ¬ v2 < 0 := fun z => h1 (Int32.lt_trans z (by decide))
          obtain ⟨p, hp, rfl⟩ := nI_of hn
          have a1 : ¬ nI p < nI 1 := h1
          have a6 : nI p ≤ nI 6 := h6
          rw [nI_ltI hp (by omega)] at a1
          rw [nI_leI hp (by omega)] at a6
          exact ⟨p, by omega, a6, rfl⟩
        by_cases z : 72 - bh_sum c 36 < p + 1
        · refine bh_roomN hs hp6 z (br_t rfl (bh_removeX h ?_))
          intro rc' M so hM
          dsimp only
          refine bh_make2 (bh_R_keep h hM) rc' M so hj hp1 hp6 (fun post => wpY_make post (rf, ct, bh_A c, rd') (nI j) (nI p)) ?_
          intro post hpost
          unfold wpY_make
          refine bh_badO hj (br_t rfl (br_f h1 (br_t h6 (bh_usedY h.1 ?_))))
          rw [e72, nI_1]
          refine br_f (nI_ge z (by omega)) (bh_collectY h ?_)
          intro K hK
          rw [bh_keep_Mk hK hM]
          exact hpost K
        · refine bh_roomO hs hp6 (by omega) (br_f (by decide) ?_)
          refine bh_make2 h rc rd ro hj hp1 hp6 (fun post => wpY_make post (rf, ct, bh_A c, rd') (nI j) (nI p)) ?_
          intro post hpost
          unfold wpY_make
          refine bh_badO hj (br_t rfl (br_f h1 (br_t h6 (bh_usedY h.1 ?_))))
          rw [e72, nI_1]
          exact br_t (nI_le (by omega) (by omega)) (hpost rd')
      · refine br_f h1 (br_f h6 ?_)
        unfold wpY_make
        exact bh_badO hj (br_t rfl (br_f h1 (br_f h6 ⟨rfl, G⟩)))
end
