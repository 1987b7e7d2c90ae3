def bh_Tm (c : Nat → Nat) (t : Int64) (r x : Int32) : Prop :=
  (r = 0 ∧ t = x.toInt64) ∨ (r = 1 ∧ ∃ i, i < 36 ∧ c i ≠ 0 ∧ x = nI i ∧ t = lN (4294967296 + i))
def bh_R (c : Nat → Nat) (rt ft : Nat → Int64) (rf ct : Nat → Int32) : Prop :=
  (∀ j, c j ≤ 6) ∧ bh_sum c 36 ≤ 72 ∧ (∀ p, p < 6 → bh_Tm c (rt p) (rf p) (ct p)) ∧
  (∀ j f, j < 36 → f < c j → bh_Tm c (ft (j * 6 + f)) (rf (6 + 6 * j + f)) (ct (6 + 6 * j + f)))
/-- rows of both sides are the same rows; c j is the count of fields of row j, 0 where none is there -/
def i_Rel (_ : Nat) (u : SX) (v : SY) : Prop :=
  ∃ (c : Nat → Nat) (rc : Int32) (rt ft : Nat → Int64) (rd ro rf ct rd' : Nat → Int32),
    u = (rc, nI (bh_sum c 36), rt, ft, bh_A c, rd, ro) ∧ v = (rf, ct, bh_A c, rd') ∧ bh_R c rt ft rf ct
theorem i_up {k : Nat} {u : SX} {v : SY} (h : i_Rel k u v) : i_Rel (k + 4) u v := h
theorem bh_mk {k : Nat} {c : Nat → Nat} {rt ft : Nat → Int64} {rf ct : Nat → Int32} (h : bh_R c rt ft rf ct) (rc : Int32) (rd ro rd' : Nat → Int32) :
    i_Rel k (rc, nI (bh_sum c 36), rt, ft, bh_A c, rd, ro) (rf, ct, bh_A c, rd') :=
  ⟨c, rc, rt, ft, rd, ro, rf, ct, rd', rfl, rfl, h⟩
theorem i_vc0 : wpX_init (fun u => wpY_init (fun v => i_Rel 0 u v)) := by
  have hs : bh_sum (fun _ => 0) 36 = 0 := by decide
  refine ⟨fun _ => 0, 0, fun _ => 0, fun _ => 0, fun _ => 0, fun _ => 0, fun _ => 0, fun _ => 0, fun _ => 0, ?_, rfl, ?_⟩
  · rw [hs]
    rfl
  · refine ⟨fun _ => Nat.zero_le _, by omega, fun p _ => Or.inl ⟨rfl, (by decide : (0 : Int64) = (0 : Int32).toInt64)⟩, fun j f _ h => absurd h (Nat.not_lt_zero f)⟩
theorem bh_ix (v : Int32) : (v < 0 ∨ nI 6 ≤ v) ∨ ∃ j, j < 6 ∧ v = nI j := by
  rcases pk_ix v (n := 6) (by omega) with h | h | h
  · exact Or.inl (Or.inl h)
  · exact Or.inl (Or.inr h)
  · exact Or.inr h
theorem bh_regB {post : Int32 → Prop} {v : Int32} (h : v < 0 ∨ nI 6 ≤ v) (hp : post 0) : wpX_isRegister post v := by
  by_cases h0 : v < 0
  · exact br_t h0 hp
  · have h6 : (6 : Int32) ≤ v := h.resolve_left h0
    exact br_f h0 (br_t h6 hp)
theorem bh_regO {post : Int32 → Prop} {j : Nat} (h : j < 6) (hp : post 1) : wpX_isRegister post (nI j) :=
  br_f (nI_pos (by omega)) (br_f (nI_ge (b := 6) h (by omega)) hp)
theorem bh_badB {post : Int32 → Prop} {v : Int32} (h : v < 0 ∨ nI 6 ≤ v) (hp : post 1) : wpY_bad post v := by
  by_cases h0 : v < 0
  · exact br_t h0 hp
  · have h6 : nI 6 ≤ v := h.resolve_left h0
    have h5 : ¬ v ≤ 5 := by
      obtain ⟨j, hj, rfl⟩ := nI_of h0
      rw [nI_leI (by omega) hj] at h6
      exact nI_ge (a := 5) (b := j) (by omega) hj
    exact br_f h0 (br_f h5 hp)
theorem bh_badO {post : Int32 → Prop} {j : Nat} (h : j < 6) (hp : post 0) : wpY_bad post (nI j) :=
  br_f (nI_pos (by omega)) (br_t (nI_le (a := j) (b := 5) (by omega) (by omega)) hp)
theorem bh_lt64 (x : Int32) : x.toInt64 < 4294967296 := by
  rw [Int64.lt_iff_toInt_lt, Int32.toInt_toInt64]
  have h := Int32.toInt_lt x
  have e : (4294967296 : Int64).toInt = 4294967296 := by decide
  omega
theorem bh_nlt64 {i : Nat} (h : i < 36) : ¬ lN (4294967296 + i) < 4294967296 := by
  have : ¬ lN (4294967296 + i) < lN 4294967296 := by
    rw [pk_lLT (by omega) (by omega)]
    omega
  exact this
theorem bh_sub64 (i : Nat) : (lN (4294967296 + i) - 4294967296).toInt32 = nI i := by
  have h : lN (4294967296 + i) - lN 4294967296 = lN i := by
    rw [lN_sub (by omega)]
    exact congrArg lN (by omega)
  have e : lN (4294967296 + i) - 4294967296 = lN i := h
  rw [e, lN_i]
theorem bh_recI {post : Int32 → Prop} (x : Int32) (hp : post (-1)) : wpX_recordOf post x.toInt64 := br_t (bh_lt64 x) hp
theorem bh_recR {post : Int32 → Prop} {i : Nat} (h : i < 36) (hp : post (nI i)) : wpX_recordOf post (lN (4294967296 + i)) :=
  br_f (bh_nlt64 h) (by rw [bh_sub64]; exact hp)
theorem bh_nm1 {i : Nat} (h : i < 36) : ¬ nI i = -1 := by
  intro e
  have h0 : ¬ nI i < 0 := nI_pos (by omega)
  rw [e] at h0
  exact h0 (by decide)
theorem bh_inj64 {x y : Int32} (h : x.toInt64 = y.toInt64) : x = y := by
  rw [← Int64.toInt_inj, Int32.toInt_toInt64, Int32.toInt_toInt64] at h
  exact Int32.toInt_inj.mp h
theorem bh_i32 (x : Int32) : x.toInt64.toInt32 = x := by
  simp
theorem bh_setO {post : SY → Prop} {rf ct fo rd : Nat → Int32} {p : Nat} {b x : Int32} (h : p < 222) (hb : b = 0 ∨ b = 1) (hp : post (upd rf p b, upd ct p x, fo, rd)) : wpY_set post (rf, ct, fo, rd) (nI p) b x := by
  have hn : vp_nar .boolean b = b := by
    rcases hb with rfl | rfl
    · exact bh_n0
    · exact bh_n1
  refine ⟨vp_in_nI h (by omega), fun a ea => ⟨vp_in_nI h (by omega), fun a' ea' => ?_⟩⟩
  rw [ea, ea', hn, nI_clamp (by omega)]
  exact hp
theorem bh_Tm01 {c : Nat → Nat} {t : Int64} {r x : Int32} (h : bh_Tm c t r x) : r = 0 ∨ r = 1 := h.imp (fun z => z.1) (fun z => z.1)
theorem bh_takeO {post : SY → Prop} {rf ct fo rd : Nat → Int32} {p q : Nat} (h : p < 222) (hq : q < 222) (hb : rf q = 0 ∨ rf q = 1) (hp : post (upd rf p (rf q), upd ct p (ct q), fo, rd)) : wpY_take post (rf, ct, fo, rd) (nI p) (nI q) := by
  refine ⟨vp_in_nI hq (by omega), vp_in_nI hq (by omega), ?_⟩
  rw [nI_clamp (by omega)]
  exact bh_setO h hb hp
theorem bh_R_reg {c : Nat → Nat} {rt ft : Nat → Int64} {rf ct : Nat → Int32} (h : bh_R c rt ft rf ct) {j : Nat} {t : Int64} {r x : Int32} (hj : j < 6) (ht : bh_Tm c t r x) : bh_R c (vp_updL rt j t) ft (upd rf j r) (upd ct j x) := by
  refine ⟨h.1, h.2.1, fun p hp => ?_, fun i f hi hf => ?_⟩
  · by_cases e : p = j
    · subst e
      rw [pk_uLs, pk_us, pk_us]
      exact ht
    · rw [pk_uLn e, pk_un e, pk_un e]
      exact h.2.2.1 p hp
  · rw [pk_un (by omega), pk_un (by omega)]
    exact h.2.2.2 i f hi hf
theorem bh_R_fld {c : Nat → Nat} {rt ft : Nat → Int64} {rf ct : Nat → Int32} (h : bh_R c rt ft rf ct) {j f : Nat} {t : Int64} {r x : Int32} (hf : f < c j) (ht : bh_Tm c t r x) : bh_R c rt (vp_updL ft (j * 6 + f) t) (upd rf (6 + 6 * j + f) r) (upd ct (6 + 6 * j + f) x) := by
  refine ⟨h.1, h.2.1, fun p hp => ?_, fun i g hi hg => ?_⟩
  · rw [pk_un (by omega), pk_un (by omega)]
    exact h.2.2.1 p hp
  · by_cases e : i * 6 + g = j * 6 + f
    · rw [e, show 6 + 6 * i + g = 6 + 6 * j + f by omega, pk_uLs, pk_us, pk_us]
      exact ht
    · rw [pk_uLn e, pk_un (by omega), pk_un (by omega)]
      exact h.2.2.2 i g hi hg
theorem bh_used4 {post : Int32 → Prop} {rf ct rd : Nat → Int32} {c : Nat → Nat} (hc : ∀ j, c j ≤ 6) (hp : post (nI (bh_sum c 36))) : ∀ d i, i + d = 36 → wY_used_4 post rf ct (bh_A c) rd (d + 1) (nI (bh_sum c i)) (nI i) := by
  intro d
  induction d with
  | zero =>
    intro i hi
    obtain rfl : i = 36 := by omega
    exact br_t (nI_le (a := 36) (b := 36) (by omega) (by omega)) hp
  | succ d ih =>
    intro i hi
    have hin : vp_in (nI i) 36 := vp_in_nI (by omega) (by omega)
    have h6 := hc i
    refine br_f (nI_ge (b := 36) (by omega) (by omega)) ⟨hin, ?_⟩
    have e : bh_A c (nI i).toNatClampNeg = nI (c i) := by rw [nI_clamp (by omega)]; rfl
    rw [e]
    have es : bh_sum c (i + 1) = bh_sum c i + bh_one c i := rfl
    by_cases z : c i = 0
    · have o : bh_one c i = 0 := if_pos z
      refine br_t (nI_le (a := c i) (b := 0) (by omega) (by omega)) (fun x ex => ?_)
      rw [ex, nI_1, show bh_sum c i = bh_sum c (i + 1) by omega]
      exact ih (i + 1) (by omega)
    · have o : bh_one c i = c i + 1 := if_neg z
      refine br_f (nI_ge (a := 0) (b := c i) (by omega) (by omega)) ⟨hin, fun y ey x ex => ?_⟩
      rw [ex, ey, nI_1, nI_1, nI_add, show bh_sum c i + (c i + 1) = bh_sum c (i + 1) by omega]
      exact ih (i + 1) (by omega)
theorem bh_usedY {post : Int32 → Prop} {rf ct rd : Nat → Int32} {c : Nat → Nat} (hc : ∀ j, c j ≤ 6) (hp : post (nI (bh_sum c 36))) : wpY_used post (rf, ct, bh_A c, rd) :=
  ⟨37, bh_used4 hc hp 36 0 rfl⟩
theorem i_vc_used {k : Nat} {u : SX} {v : SY} (I : i_Rel k u v) (hk : k + 4 ≤ 2048) : wpX_used (fun r => wpY_used (fun r' => r' = r ∧ i_Rel (k + 4) u v) v) u := by
  obtain ⟨c, rc, rt, ft, rd, ro, rf, ct, rd', rfl, rfl, h⟩ := I
  exact bh_usedY h.1 ⟨rfl, bh_mk h rc rd ro rd'⟩
theorem i_vc_number {k : Nat} {u : SX} {v : SY} (I : i_Rel k u v) (hk : k + 4 ≤ 2048) (v1 : Int32) (v2 : Int32) : wpX_number (fun r u' => wpY_number (fun r' v' => r' = r ∧ i_Rel (k + 4) u' v') v v1 v2) u v1 v2 := by
  obtain ⟨c, rc, rt, ft, rd, ro, rf, ct, rd', rfl, rfl, h⟩ := I
  unfold wpX_number wpY_number
  dsimp only
  rcases bh_ix v1 with hb | ⟨j, hj, rfl⟩
  · exact bh_regB hb (br_t rfl (bh_badB hb (br_f (by decide) ⟨rfl, bh_mk h rc rd ro rd'⟩)))
  · refine bh_regO hj (br_f (by decide) ⟨vp_in_nI hj (by omega), fun a ea => ?_⟩)
    rw [nI_clamp (by omega)] at ea
    subst ea
    refine bh_badO hj (br_t rfl (bh_setO (by omega) (Or.inl rfl) ?_))
    exact ⟨rfl, bh_mk (bh_R_reg h hj (Or.inl ⟨rfl, rfl⟩)) rc rd ro rd'⟩
theorem i_vc_move {k : Nat} {u : SX} {v : SY} (I : i_Rel k u v) (hk : k + 4 ≤ 2048) (v1 : Int32) (v2 : Int32) : wpX_move (fun r u' => wpY_move (fun r' v' => r' = r ∧ i_Rel (k + 4) u' v') v v1 v2) u v1 v2 := by
  obtain ⟨c, rc, rt, ft, rd, ro, rf, ct, rd', rfl, rfl, h⟩ := I
  unfold wpX_move wpY_move
  dsimp only
  rcases bh_ix v1 with hb | ⟨j, hj, rfl⟩
  · exact bh_regB hb (br_t rfl (bh_badB hb (br_f (by decide) ⟨rfl, bh_mk h rc rd ro rd'⟩)))
  · refine bh_regO hj (br_f (by decide) ?_)
    rcases bh_ix v2 with hb | ⟨i, hi, rfl⟩
    · exact bh_regB hb (br_t rfl (bh_badO hj (br_t rfl (bh_badB hb (br_f (by decide) ⟨rfl, bh_mk h rc rd ro rd'⟩)))))
    · refine bh_regO hi (br_f (by decide) ⟨vp_in_nI hi (by omega), vp_in_nI hj (by omega), fun a ea => ?_⟩)
      rw [nI_clamp (by omega), nI_clamp (by omega)] at ea
      subst ea
      have ht := h.2.2.1 i hi
      refine bh_badO hj (br_t rfl (bh_badO hi (br_t rfl (bh_takeO (by omega) (by omega) (bh_Tm01 ht) ?_))))
      exact ⟨rfl, bh_mk (bh_R_reg h hj ht) rc rd ro rd'⟩
