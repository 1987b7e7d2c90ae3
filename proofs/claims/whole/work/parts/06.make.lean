theorem bh_roomN {post : Int32 → Prop} {rc : Int32} {rt ft : Nat → Int64} {fc rd ro : Nat → Int32} {s p : Nat} (hs : s ≤ 72) (hp : p ≤ 6) (h : 72 - s < p + 1) (k : post 0) : wpX_hasRoomFor post (rc, nI s, rt, ft, fc, rd, ro) (nI p) := by
  have e : (72 : Int32) - nI s = nI (72 - s) := pk_sub (a := 72) (b := s) hs
  unfold wpX_hasRoomFor
  dsimp only
  rw [e, nI_1]
  exact br_t (nI_lt h (by omega)) k
theorem bh_roomO {post : Int32 → Prop} {rc : Int32} {rt ft : Nat → Int64} {fc rd ro : Nat → Int32} {s p : Nat} (hs : s ≤ 72) (hp : p ≤ 6) (h : p + 1 ≤ 72 - s) (k : post 1) : wpX_hasRoomFor post (rc, nI s, rt, ft, fc, rd, ro) (nI p) := by
  have e : (72 : Int32) - nI s = nI (72 - s) := pk_sub (a := 72) (b := s) hs
  unfold wpX_hasRoomFor
  dsimp only
  rw [e, nI_1]
  exact br_f (nI_nlt h (by omega)) k
theorem bh_free {c : Nat → Nat} (h : bh_sum c 36 ≤ 70) : ∃ i, i < 36 ∧ c i = 0 ∧ ∀ j, j < i → c j ≠ 0 := by
  have hx : ∃ k, c k = 0 ∧ k < 36 := by
    apply Classical.byContradiction
    intro hn
    have := bh_sum_ge (c := c) 36 (fun j hj e => hn ⟨j, e, hj⟩)
    omega
  obtain ⟨i, hi, hl⟩ := pk_least (fun k => c k = 0 ∧ k < 36) hx
  exact ⟨i, hi.2, hi.1, fun j hj e => hl j hj ⟨e, by omega⟩⟩
theorem bh_first2 {post : Int32 → Prop} {rc uw : Int32} {rt ft : Nat → Int64} {rd ro : Nat → Int32} {c : Nat → Nat} {i : Nat} (h6 : ∀ j, c j ≤ 6) (hi : i < 36) (h0 : c i = 0) (hl : ∀ j, j < i → c j ≠ 0) (k : post (nI i)) :
    ∀ d j, j + d = i → wX_firstUnusedRecord_2 post rc uw rt ft (bh_A c) rd ro (d + 1) (nI j) := by
  intro d
  induction d with
  | zero =>
    intro j hj
    obtain rfl : j = i := by omega
    by_cases z : 35 ≤ j
    · exact br_t (nI_le (a := 35) z (by omega)) k
    · refine br_f (nI_ge (b := 35) (by omega) (by omega)) ⟨vp_in_nI (by omega) (by omega), ?_⟩
      rw [nI_clamp (by omega)]
      exact br_t (nI_le (a := c j) (b := 0) (by omega) (by omega)) k
  | succ d ih =>
    intro j hj
    have hc := hl j (by omega)
    have h6j := h6 j
    refine br_f (nI_ge (b := 35) (by omega) (by omega)) ⟨vp_in_nI (by omega) (by omega), ?_⟩
    rw [nI_clamp (by omega)]
    exact br_f (nI_ge (a := 0) (b := c j) (by omega) (by omega)) (nm_r (nI_1 j) (ih (j + 1) (by omega)))
theorem bh_unused2 {post : Int32 → Prop} {rf ct rd : Nat → Int32} {c : Nat → Nat} {i : Nat} (h6 : ∀ j, c j ≤ 6) (hi : i < 36) (h0 : c i = 0) (hl : ∀ j, j < i → c j ≠ 0) (k : post (nI i)) :
    ∀ d j, j + d = i → wY_unused_2 post rf ct (bh_A c) rd (d + 1) (nI j) := by
  intro d
  induction d with
  | zero =>
    intro j hj
    obtain rfl : j = i := by omega
    refine br_f (nI_ge (b := 36) (by omega) (by omega)) ⟨vp_in_nI (by omega) (by omega), ?_⟩
    rw [nI_clamp (by omega)]
    have e : bh_A c j = 0 := congrArg nI h0
    exact br_t e k
  | succ d ih =>
    intro j hj
    have hc := hl j (by omega)
    have h6j := h6 j
    refine br_f (nI_ge (b := 36) (by omega) (by omega)) ⟨vp_in_nI (by omega) (by omega), ?_⟩
    rw [nI_clamp (by omega)]
    have e : ¬ bh_A c j = 0 := nI_ne0 (n := c j) (by omega) (by omega)
    exact br_f e (nm_r (nI_1 j) (ih (j + 1) (by omega)))
theorem bh_add27 {post : SX → Prop} {rc uw : Int32} {rt ft0 : Nat → Int64} {fc rd ro : Nat → Int32} {i p : Nat} (hi : i < 36) (hp : p ≤ 6)
    (k : ∀ gt : Nat → Int64, (∀ f, f < p → gt (i * 6 + f) = 0) → (∀ q, (q < i * 6 ∨ i * 6 + p ≤ q) → gt q = ft0 q) → post (rc, uw, rt, gt, fc, rd, ro)) :
    ∀ d f ft, f + d = p → (∀ g, g < f → ft (i * 6 + g) = 0) → (∀ q, (q < i * 6 ∨ i * 6 + p ≤ q) → ft q = ft0 q) → wX_addRecord_27 post (nI p) (nI (i * 6)) rc uw (d + 1) (nI f) rt ft fc rd ro := by
  intro d
  induction d with
  | zero =>
    intro f ft hf h1 h2
    obtain rfl : f = p := by omega
    exact br_t (nI_le (by omega) (by omega)) (k ft h1 h2)
  | succ d ih =>
    intro f ft hf h1 h2
    refine br_f (nI_ge (by omega) (by omega)) ?_
    rw [nI_add]
    refine ⟨vp_in_nI (by omega) (by omega), fun a ea x ex => ?_⟩
    rw [nI_clamp (by omega)] at ea
    rw [nI_1] at ex
    subst ea ex
    refine ih (f + 1) _ (by omega) (fun g hg => ?_) (fun q hq => ?_)
    · by_cases e : g = f
      · subst e
        exact pk_uLs
      · rw [pk_uLn (by omega)]
        exact h1 g (by omega)
    · rw [pk_uLn (by omega)]
      exact h2 q hq
theorem bh_addX {post : SX → Prop} {rc : Int32} {rt ft : Nat → Int64} {rd ro : Nat → Int32} {c : Nat → Nat} {i p s : Nat} (hi : i < 36) (hp : p ≤ 6)
    (k : ∀ gt : Nat → Int64, (∀ f, f < p → gt (i * 6 + f) = 0) → (∀ q, (q < i * 6 ∨ i * 6 + p ≤ q) → gt q = ft q) → post (rc, nI (s + (p + 1)), rt, gt, bh_A (bh_upd c i p), rd, ro)) : wpX_addRecord post (rc, nI s, rt, ft, bh_A c, rd, ro) (nI i) (nI p) := by
  refine ⟨vp_in_nI hi (by omega), fun a ea w ew x ex => ⟨p + 1, ?_⟩⟩
  rw [nI_clamp (by omega), bh_A_upd] at ea
  rw [nI_1, nI_add] at ew
  have ex' : x = nI (i * 6) := ex.trans (pk_mul i 6)
  subst ea ew ex'
  exact bh_add27 hi hp k p 0 ft (by omega) (fun g hg => absurd hg (Nat.not_lt_zero g)) (fun q _ => rfl)
theorem bh_make69 {post : Int32 → SY → Prop} {rf0 ct0 fo rd : Nat → Int32} {j i : Nat} (hj : j < 6) (hi : i < 36)
    (k : ∀ gf gt : Nat → Int32, (∀ f, f < 6 → gf (6 + 6 * i + f) = 0 ∧ gt (6 + 6 * i + f) = 0) → (∀ q, (q < 6 + 6 * i ∨ 6 + 6 * i + 6 ≤ q) → gf q = rf0 q ∧ gt q = ct0 q) → post 0 (upd gf j 1, upd gt j (nI i), fo, rd)) :
    ∀ d f rf ct, f + d = 6 → (∀ g, g < f → rf (6 + 6 * i + g) = 0 ∧ ct (6 + 6 * i + g) = 0) → (∀ q, (q < 6 + 6 * i ∨ 6 + 6 * i + 6 ≤ q) → rf q = rf0 q ∧ ct q = ct0 q) → wY_make_69 post (nI j) (nI i) (d + 1) (nI f) rf ct fo rd := by
  intro d
  induction d with
  | zero =>
    intro f rf ct hf h1 h2
    obtain rfl : f = 6 := by omega
    refine br_t (nI_le (a := 6) (b := 6) (by omega) (by omega)) ?_
    exact bh_setO (by omega) (Or.inr rfl) (k rf ct h1 h2)
  | succ d ih =>
    intro f rf ct hf h1 h2
    refine br_f (nI_ge (b := 6) (by omega) (by omega)) ?_
    have e : (6 : Int32) + 6 * nI i + nI f = nI (6 + 6 * i + f) := by
      rw [← nI_add, ← nI_add, ← pk_mul]
      rfl
    rw [e]
    refine bh_setO (by omega) (Or.inl rfl) ?_
    dsimp only
    refine nm_r (nI_1 f) (ih (f + 1) _ _ (by omega) (fun g hg => ?_) (fun q hq => ?_))
    · by_cases eg : g = f
      · subst eg
        exact ⟨pk_us, pk_us⟩
      · rw [pk_un (by omega), pk_un (by omega)]
        exact h1 g (by omega)
    · rw [pk_un (by omega), pk_un (by omega)]
      exact h2 q hq
theorem bh_R_make {c : Nat → Nat} {rt ft gt : Nat → Int64} {rf ct gf gc : Nat → Int32} {i p : Nat} (h : bh_R c rt ft rf ct) (hi : i < 36) (h0 : c i = 0) (hp1 : 1 ≤ p) (hp6 : p ≤ 6) (hs : bh_sum c 36 + (p + 1) ≤ 72)
    (g1 : ∀ f, f < p → gt (i * 6 + f) = 0) (g2 : ∀ q, (q < i * 6 ∨ i * 6 + p ≤ q) → gt q = ft q)
    (k1 : ∀ f, f < 6 → gf (6 + 6 * i + f) = 0 ∧ gc (6 + 6 * i + f) = 0) (k2 : ∀ q, (q < 6 + 6 * i ∨ 6 + 6 * i + 6 ≤ q) → gf q = rf q ∧ gc q = ct q) :
    bh_sum (bh_upd c i p) 36 = bh_sum c 36 + (p + 1) ∧ bh_R (bh_upd c i p) rt gt gf gc := by
  have hsum := bh_sum_upd c i p 36 hi
  have ho : bh_one c i = 0 := if_pos h0
  rw [if_neg (by omega), ho] at hsum
  have hne : ∀ j, c j ≠ 0 → bh_upd c i p j ≠ 0 := by
    intro j hj
    by_cases e : j = i
    · subst e
      rw [bh_us]
      omega
    · rw [bh_un e]
      exact hj
  have T : ∀ {t : Int64} {r x : Int32}, bh_Tm c t r x → bh_Tm (bh_upd c i p) t r x := by
    intro t r x ht
    rcases ht with h1 | ⟨hr, j, hj, hc, hx, ht⟩
    · exact Or.inl h1
    · exact Or.inr ⟨hr, j, hj, hne j hc, hx, ht⟩
  refine ⟨by omega, fun j => ?_, by omega, fun q hq => ?_, fun j f hj hf => ?_⟩
  · by_cases e : j = i
    · subst e
      rw [bh_us]
      exact hp6
    · rw [bh_un e]
      exact h.1 j
  · rw [(k2 q (by omega)).1, (k2 q (by omega)).2]
    exact T (h.2.2.1 q hq)
  · by_cases e : j = i
    · subst e
      rw [bh_us] at hf
      rw [g1 f hf, (k1 f (by omega)).1, (k1 f (by omega)).2]
      exact Or.inl ⟨rfl, by decide⟩
    · rw [bh_un e] at hf
      have h6 := h.1 j
      rw [g2 (j * 6 + f) (by omega), (k2 (6 + 6 * j + f) (by omega)).1, (k2 (6 + 6 * j + f) (by omega)).2]
      exact T (h.2.2.2 j f hj hf)
theorem bh_make2 {k : Nat} {c : Nat → Nat} {rt ft : Nat → Int64} {rf ct : Nat → Int32} (h : bh_R c rt ft rf ct) (rc : Int32) (rd ro : Nat → Int32) {j p : Nat} (hj : j < 6) (hp1 : 1 ≤ p) (hp6 : p ≤ 6)
    (Q : (Int32 → SY → Prop) → Prop) (hQ : ∀ post : Int32 → SY → Prop, (∀ rd' : Nat → Int32, wY_make_38 post (nI j) (nI p) rf ct (bh_A c) rd') → Q post) :
    wX_make_32 (fun r u' => Q (fun r' v' => r' = r ∧ i_Rel (k + 4) u' v')) (nI j) (nI p) rc (nI (bh_sum c 36)) rt ft (bh_A c) rd ro := by
  have hs := h.2.1
  unfold wX_make_32
  have e72 : (72 : Int32) - nI (bh_sum c 36) = nI (72 - bh_sum c 36) := pk_sub (a := 72) hs
  by_cases z : 72 - bh_sum c 36 < p + 1
  · refine bh_roomN hs hp6 z (br_t rfl (hQ _ (fun rd' => ?_)))
    unfold wY_make_38
    refine bh_usedY h.1 ?_
    rw [e72, nI_1]
    exact br_f (nI_ge z (by omega)) ⟨rfl, bh_mk h rc rd ro rd'⟩
  · obtain ⟨i, hi, h0, hl⟩ := bh_free (c := c) (by omega)
    refine bh_roomO hs hp6 (by omega) (br_f (by decide) ⟨i + 1, bh_first2 h.1 hi h0 hl ?_ i 0 (by omega)⟩)
    refine bh_addX hi hp6 ?_
    intro gt g1 g2
    dsimp only
    refine ⟨vp_in_nI hj (by omega), fun a ea => ?_⟩
    have e64 : (4294967296 : Int64) + (nI i).toInt64 = lN (4294967296 + i) := by
      rw [nI_l (by omega), ← lN_add]
      rfl
    rw [nI_clamp (by omega), e64] at ea
    subst ea
    refine hQ _ (fun rd' => ?_)
    unfold wY_make_38
    refine bh_usedY h.1 ?_
    rw [e72, nI_1]
    refine br_t (nI_le (by omega) (by omega)) ⟨i + 1, bh_unused2 h.1 hi h0 hl ?_ i 0 (by omega)⟩
    refine ⟨vp_in_nI hi (by omega), fun b eb => ⟨7, ?_⟩⟩
    rw [nI_clamp (by omega), bh_A_upd] at eb
    subst eb
    refine bh_make69 hj hi ?_ 6 0 rf ct rfl (fun g hg => absurd hg (Nat.not_lt_zero g)) (fun q _ => ⟨rfl, rfl⟩)
    intro gf gc k1 k2
    obtain ⟨es, hR⟩ := bh_R_make h hi h0 hp1 hp6 (by omega) g1 g2 k1 k2
    refine ⟨rfl, ?_⟩
    rw [← es]
    refine bh_mk (bh_R_reg hR hj (Or.inr ⟨rfl, i, hi, ?_, rfl, rfl⟩)) rc rd ro rd'
    rw [bh_us]
    omega
theorem i_vc_make {k : Nat} {u : SX} {v : SY} (I : i_Rel k u v) (hk : k + 4 ≤ 2048) (v1 : Int32) (v2 : Int32) : wpX_make (fun r u' => wpY_make (fun r' v' => r' = r ∧ i_Rel (k + 4) u' v') v v1 v2) u v1 v2 := by
  obtain ⟨c, rc, rt, ft, rd, ro, rf, ct, rd', rfl, rfl, h⟩ := I
  have G := bh_mk (k := k + 4) h rc rd ro rd'
  have hs := h.2.1
  have e72 : (72 : Int32) - nI (bh_sum c 36) = nI (72 - bh_sum c 36) := pk_sub (a := 72) hs
  unfold wpX_make
  dsimp only
  rcases bh_ix v1 with hb | ⟨j, hj, rfl⟩
  · refine bh_regB hb (br_t rfl ?_)
    unfold wpY_make
    exact bh_badB hb (br_f (by decide) ⟨rfl, G⟩)
  · refine bh_regO hj (br_f (by decide) ?_)
    by_cases h1 : v2 < 1
    · refine br_t h1 ?_
      unfold wpY_make
      exact bh_badO hj (br_t rfl (br_t h1 ⟨rfl, G⟩))
    · by_cases h6 : v2 ≤ 6
      · refine br_f h1 (br_t h6 ?_)
        obtain ⟨p, hp1, hp6, rfl⟩ : ∃ p, 1 ≤ p ∧ p ≤ 6 ∧ v2 = nI p := by
          have hn : ¬ v2 < 0 := fun z => h1 (Int32.lt_trans z (by decide))
          obtain ⟨p, hp, rfl⟩ := nI_of hn
          have a1 : ¬ nI p < nI 1 := h1
          have a6 : nI p ≤ nI 6 := h6
          rw [nI_ltI hp (by omega)] at a1
          rw [nI_leI hp (by omega)] at a6
          exact ⟨p, by omega, a6, rfl⟩
        by_cases z : 72 - bh_sum c 36 < p + 1
        · refine bh_roomN hs hp6 z (br_t rfl (bh_removeX h ?_))
          intro rc' M so hM
          dsimp only
          refine bh_make2 (bh_R_keep h hM) rc' M so hj hp1 hp6 (fun post => wpY_make post (rf, ct, bh_A c, rd') (nI j) (nI p)) ?_
          intro post hpost
          unfold wpY_make
          refine bh_badO hj (br_t rfl (br_f h1 (br_t h6 (bh_usedY h.1 ?_))))
          rw [e72, nI_1]
          refine br_f (nI_ge z (by omega)) (bh_collectY h ?_)
          intro K hK
          rw [bh_keep_Mk hK hM]
          exact hpost K
        · refine bh_roomO hs hp6 (by omega) (br_f (by decide) ?_)
          refine bh_make2 h rc rd ro hj hp1 hp6 (fun post => wpY_make post (rf, ct, bh_A c, rd') (nI j) (nI p)) ?_
          intro post hpost
          unfold wpY_make
          refine bh_badO hj (br_t rfl (br_f h1 (br_t h6 (bh_usedY h.1 ?_))))
          rw [e72, nI_1]
          exact br_t (nI_le (by omega) (by omega)) (hpost rd')
      · refine br_f h1 (br_f h6 ?_)
        unfold wpY_make
        exact bh_badO hj (br_t rfl (br_f h1 (br_f h6 ⟨rfl, G⟩)))
