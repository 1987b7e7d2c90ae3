theorem i_vc_value {k : Nat} {u : SX} {v : SY} (I : i_Rel k u v) (hk : k + 4 ≤ 2048) (v1 : Int32) : wpX_value (fun r => wpY_value (fun r' => r' = r ∧ i_Rel (k + 4) u v) v v1) u v1 := by
  obtain ⟨c, rc, rt, ft, rd, ro, rf, ct, rd', rfl, rfl, h⟩ := I
  have G := bh_mk (k := k + 4) h rc rd ro rd'
  unfold wpX_value wpY_value
  dsimp only
  rcases bh_ix v1 with hb | ⟨j, hj, rfl⟩
  · exact bh_regB hb (br_t rfl (bh_badB hb (br_f (by decide) ⟨rfl, G⟩)))
  · refine bh_regO hj (br_f (by decide) ⟨vp_in_nI hj (by omega), fun t et => ?_⟩)
    rw [nI_clamp (by omega)] at et
    subst et
    have hin : vp_in (nI j) 222 := vp_in_nI (by omega) (by omega)
    rcases h.2.2.1 j hj with ⟨hr, ht⟩ | ⟨hr, i, hi, hc, hx, ht⟩
    · rw [ht]
      refine br_t (bh_lt64 _) (bh_badO hj (br_t rfl ⟨hin, ?_⟩))
      rw [nI_clamp (by omega)]
      exact br_t hr ⟨hin, (bh_i32 _).symm, G⟩
    · rw [ht]
      refine br_f (bh_nlt64 hi) (bh_badO hj (br_t rfl ⟨hin, ?_⟩))
      rw [nI_clamp (by omega)]
      exact br_f (by rw [hr]; decide) ⟨rfl, G⟩
theorem bh_Tm_eq {c : Nat → Nat} {t s : Int64} {r x q y : Int32} (h1 : bh_Tm c t r x) (h2 : bh_Tm c s q y) : t = s ↔ r = q ∧ x = y := by
  rcases h1 with ⟨hr, ht⟩ | ⟨hr, i, hi, hc, hx, ht⟩
  · rcases h2 with ⟨hq, hs⟩ | ⟨hq, j, hj, hd, hy, hs⟩
    · subst hr hq ht hs
      exact ⟨fun z => ⟨rfl, bh_inj64 z⟩, fun z => by rw [z.2]⟩
    · subst hr hq ht hs
      refine ⟨fun z => absurd (bh_lt64 x) (by rw [z]; exact bh_nlt64 hj), fun z => absurd z.1 (by decide)⟩
  · rcases h2 with ⟨hq, hs⟩ | ⟨hq, j, hj, hd, hy, hs⟩
    · subst hr hq ht hs
      refine ⟨fun z => absurd (bh_lt64 y) (by rw [← z]; exact bh_nlt64 hi), fun z => absurd z.1 (by decide)⟩
    · subst hr hq ht hs hx hy
      rw [pk_lEQ (by omega) (by omega), nI_eq (by omega) (by omega)]
      exact ⟨fun z => ⟨rfl, by omega⟩, fun z => by omega⟩
theorem i_vc_same {k : Nat} {u : SX} {v : SY} (I : i_Rel k u v) (hk : k + 4 ≤ 2048) (v1 : Int32) (v2 : Int32) : wpX_same (fun r => wpY_same (fun r' => r' = r ∧ i_Rel (k + 4) u v) v v1 v2) u v1 v2 := by
  obtain ⟨c, rc, rt, ft, rd, ro, rf, ct, rd', rfl, rfl, h⟩ := I
  have G := bh_mk (k := k + 4) h rc rd ro rd'
  unfold wpX_same wpY_same
  dsimp only
  rcases bh_ix v1 with hb | ⟨j, hj, rfl⟩
  · exact bh_regB hb (br_t rfl (bh_badB hb (br_f (by decide) ⟨rfl, G⟩)))
  · refine bh_regO hj (br_f (by decide) ?_)
    rcases bh_ix v2 with hb | ⟨i, hi, rfl⟩
    · exact bh_regB hb (br_t rfl (bh_badO hj (br_t rfl (bh_badB hb (br_f (by decide) ⟨rfl, G⟩)))))
    · refine bh_regO hi (br_f (by decide) ⟨vp_in_nI hj (by omega), vp_in_nI hi (by omega), ?_⟩)
      have hin : vp_in (nI j) 222 := vp_in_nI (by omega) (by omega)
      have hin2 : vp_in (nI i) 222 := vp_in_nI (by omega) (by omega)
      have e := bh_Tm_eq (h.2.2.1 j hj) (h.2.2.1 i hi)
      have cj : (nI j).toNatClampNeg = j := nI_clamp (by omega)
      have ci : (nI i).toNatClampNeg = i := nI_clamp (by omega)
      rw [cj, ci]
      by_cases z : rt j = rt i
      · refine br_t z (bh_badO hj (br_t rfl (bh_badO hi (br_t rfl ⟨hin, hin2, ?_⟩))))
        exact br_t (e.mp z).1 ⟨hin, hin2, br_t (e.mp z).2 ⟨rfl, G⟩⟩
      · refine br_f z (bh_badO hj (br_t rfl (bh_badO hi (br_t rfl ⟨hin, hin2, ?_⟩))))
        by_cases w : rf j = rf i
        · exact br_t w ⟨hin, hin2, br_f (fun y => z (e.mpr ⟨w, y⟩)) ⟨rfl, G⟩⟩
        · exact br_f w ⟨rfl, G⟩
theorem i_vc_fields {k : Nat} {u : SX} {v : SY} (I : i_Rel k u v) (hk : k + 4 ≤ 2048) (v1 : Int32) : wpX_fields (fun r => wpY_fields (fun r' => r' = r ∧ i_Rel (k + 4) u v) v v1) u v1 := by
  obtain ⟨c, rc, rt, ft, rd, ro, rf, ct, rd', rfl, rfl, h⟩ := I
  have G := bh_mk (k := k + 4) h rc rd ro rd'
  unfold wpX_fields wpY_fields
  dsimp only
  rcases bh_ix v1 with hb | ⟨j, hj, rfl⟩
  · exact bh_regB hb (br_t rfl (bh_badB hb (br_f (by decide) ⟨rfl, G⟩)))
  · refine bh_regO hj (br_f (by decide) ⟨vp_in_nI hj (by omega), ?_⟩)
    have hin : vp_in (nI j) 222 := vp_in_nI (by omega) (by omega)
    have cj : (nI j).toNatClampNeg = j := nI_clamp (by omega)
    rw [cj]
    rcases h.2.2.1 j hj with ⟨hr, ht⟩ | ⟨hr, i, hi, hc, hx, ht⟩
    · rw [ht]
      refine bh_recI _ (br_t rfl (bh_badO hj (br_t rfl ⟨hin, ?_⟩)))
      exact br_t hr ⟨rfl, G⟩
    · rw [ht]
      refine bh_recR hi (br_f (bh_nm1 hi) ⟨vp_in_nI hi (by omega), bh_badO hj (br_t rfl ⟨hin, ?_⟩)⟩)
      rw [hx]
      exact br_f (by rw [hr]; decide) ⟨hin, vp_in_nI hi (by omega), rfl, G⟩
theorem bh_fldI {post : Int32 → Prop} (u : SX) (f : Int32) (hp : post 0) : wpX_hasField post u (-1) f := by
  obtain ⟨a, b, c, d, e, g, h⟩ := u
  exact br_t rfl hp
theorem bh_fldN {post : Int32 → Prop} {c : Nat → Nat} {rc uw : Int32} {rt ft : Nat → Int64} {rd ro : Nat → Int32} {i : Nat} {f : Int32} (hi : i < 36) (hc : c i ≤ 6) (hf : f < 0 ∨ nI (c i) ≤ f) (hp : post 0) : wpX_hasField post (rc, uw, rt, ft, bh_A c, rd, ro) (nI i) f := by
  refine br_f (bh_nm1 hi) ?_
  by_cases h0 : f < 0
  · exact br_t h0 hp
  · refine br_f h0 ⟨vp_in_nI hi (by omega), ?_⟩
    rw [nI_clamp (by omega)]
    exact br_t (hf.resolve_left h0) hp
theorem bh_fldO {post : Int32 → Prop} {c : Nat → Nat} {rc uw : Int32} {rt ft : Nat → Int64} {rd ro : Nat → Int32} {i f : Nat} (hi : i < 36) (hc : c i ≤ 6) (hf : f < c i) (hp : post 1) : wpX_hasField post (rc, uw, rt, ft, bh_A c, rd, ro) (nI i) (nI f) := by
  refine br_f (bh_nm1 hi) (br_f (nI_pos (by omega)) ⟨vp_in_nI hi (by omega), ?_⟩)
  rw [nI_clamp (by omega)]
  exact br_f (nI_ge hf (by omega)) hp
theorem bh_plcI {post : Int32 → Prop} {rf ct fo rd : Nat → Int32} {j : Nat} {f : Int32} (hj : j < 6) (hr : rf j = 0) (hp : post (-1)) : wpY_place post (rf, ct, fo, rd) (nI j) f := by
  refine ⟨vp_in_nI (by omega) (by omega), ?_⟩
  rw [nI_clamp (by omega)]
  exact br_t hr hp
theorem bh_plcN {post : Int32 → Prop} {rf ct rd : Nat → Int32} {c : Nat → Nat} {j i : Nat} {f : Int32} (hj : j < 6) (hr : rf j = 1) (hi : i < 36) (hx : ct j = nI i) (hc : c i ≤ 6) (hf : f < 0 ∨ nI (c i) ≤ f) (hp : post (-1)) : wpY_place post (rf, ct, bh_A c, rd) (nI j) f := by
  have hin : vp_in (nI j) 222 := vp_in_nI (by omega) (by omega)
  refine ⟨hin, ?_⟩
  rw [nI_clamp (by omega), hx]
  refine br_f (by rw [hr]; decide) ?_
  by_cases h0 : f < 0
  · exact br_t h0 hp
  · refine br_f h0 ⟨hin, vp_in_nI hi (by omega), ?_⟩
    rw [nI_clamp (by omega)]
    exact br_f (Int32.not_lt.mpr (hf.resolve_left h0)) hp
theorem bh_plcO {post : Int32 → Prop} {rf ct rd : Nat → Int32} {c : Nat → Nat} {j i f : Nat} (hj : j < 6) (hr : rf j = 1) (hi : i < 36) (hx : ct j = nI i) (hc : c i ≤ 6) (hf : f < c i) (hp : post (nI (6 + 6 * i + f))) : wpY_place post (rf, ct, bh_A c, rd) (nI j) (nI f) := by
  have hin : vp_in (nI j) 222 := vp_in_nI (by omega) (by omega)
  refine ⟨hin, ?_⟩
  rw [nI_clamp (by omega), hx]
  refine br_f (by rw [hr]; decide) (br_f (nI_pos (by omega)) ⟨hin, vp_in_nI hi (by omega), ?_⟩)
  rw [nI_clamp (by omega)]
  refine br_t (nI_lt hf (by omega)) ⟨hin, ?_⟩
  have e : (6 : Int32) + 6 * nI i + nI f = nI (6 + 6 * i + f) := by
    rw [← nI_add, ← nI_add, ← pk_mul]
    rfl
  rw [e]
  exact hp
theorem bh_fx (v : Int32) (n : Nat) (hn : n ≤ 6) : (v < 0 ∨ nI n ≤ v) ∨ ∃ j, j < n ∧ v = nI j := by
  rcases pk_ix v (n := n) (by omega) with h | h | h
  · exact Or.inl (Or.inl h)
  · exact Or.inl (Or.inr h)
  · exact Or.inr h
theorem bh_xf (i f : Nat) : nI i * 6 + nI f = nI (i * 6 + f) := by
  rw [← nI_add, ← pk_mul]
  rfl
theorem i_vc_store {k : Nat} {u : SX} {v : SY} (I : i_Rel k u v) (hk : k + 4 ≤ 2048) (v1 : Int32) (v2 : Int32) (v3 : Int32) : wpX_store (fun r u' => wpY_store (fun r' v' => r' = r ∧ i_Rel (k + 4) u' v') v v1 v2 v3) u v1 v2 v3 := by
  obtain ⟨c, rc, rt, ft, rd, ro, rf, ct, rd', rfl, rfl, h⟩ := I
  have G := bh_mk (k := k + 4) h rc rd ro rd'
  unfold wpX_store wpY_store
  dsimp only
  rcases bh_ix v1 with hb | ⟨j, hj, rfl⟩
  · exact bh_regB hb (br_t rfl (bh_badB hb (br_f (by decide) ⟨rfl, G⟩)))
  · refine bh_regO hj (br_f (by decide) ?_)
    rcases bh_ix v3 with hb | ⟨s, hs, rfl⟩
    · exact bh_regB hb (br_t rfl (bh_badO hj (br_t rfl (bh_badB hb (br_f (by decide) ⟨rfl, G⟩)))))
    · refine bh_regO hs (br_f (by decide) ⟨vp_in_nI hj (by omega), ?_⟩)
      rw [nI_clamp (show j < 2 ^ 31 by omega)]
      rcases h.2.2.1 j hj with ⟨hr, ht⟩ | ⟨hr, i, hi, hc, hx, ht⟩
      · rw [ht]
        refine bh_recI _ (bh_fldI _ _ (br_t rfl (bh_badO hj (br_t rfl (bh_badO hs (br_t rfl ?_))))))
        exact bh_plcI hj hr (br_f (by decide) ⟨rfl, G⟩)
      · rw [ht]
        have h6 := h.1 i
        refine bh_recR hi ?_
        rcases bh_fx v2 (c i) h6 with hb | ⟨f, hf, rfl⟩
        · refine bh_fldN hi h6 hb (br_t rfl (bh_badO hj (br_t rfl (bh_badO hs (br_t rfl ?_)))))
          exact bh_plcN hj hr hi hx h6 hb (br_f (by decide) ⟨rfl, G⟩)
        · refine bh_fldO hi h6 hf (br_f (by decide) ⟨vp_in_nI hs (by omega), ?_⟩)
          rw [bh_xf]
          refine ⟨vp_in_nI (by omega) (by omega), fun a ea => ?_⟩
          rw [nI_clamp (by omega), nI_clamp (by omega)] at ea
          subst ea
          have hT := h.2.2.1 s hs
          refine bh_badO hj (br_t rfl (bh_badO hs (br_t rfl ?_)))
          refine bh_plcO hj hr hi hx h6 hf (br_t (nI_pos' (by omega)) (bh_takeO (by omega) (by omega) (bh_Tm01 hT) ?_))
          exact ⟨rfl, bh_mk (bh_R_fld h hf hT) rc rd ro rd'⟩
theorem i_vc_load {k : Nat} {u : SX} {v : SY} (I : i_Rel k u v) (hk : k + 4 ≤ 2048) (v1 : Int32) (v2 : Int32) (v3 : Int32) : wpX_load (fun r u' => wpY_load (fun r' v' => r' = r ∧ i_Rel (k + 4) u' v') v v1 v2 v3) u v1 v2 v3 := by
  obtain ⟨c, rc, rt, ft, rd, ro, rf, ct, rd', rfl, rfl, h⟩ := I
  have G := bh_mk (k := k + 4) h rc rd ro rd'
  unfold wpX_load wpY_load
  dsimp only
  rcases bh_ix v1 with hb | ⟨s, hs, rfl⟩
  · exact bh_regB hb (br_t rfl (bh_badB hb (br_f (by decide) ⟨rfl, G⟩)))
  · refine bh_regO hs (br_f (by decide) ?_)
    rcases bh_ix v2 with hb | ⟨j, hj, rfl⟩
    · exact bh_regB hb (br_t rfl (bh_badO hs (br_t rfl (bh_badB hb (br_f (by decide) ⟨rfl, G⟩)))))
    · refine bh_regO hj (br_f (by decide) ⟨vp_in_nI hj (by omega), ?_⟩)
      rw [nI_clamp (show j < 2 ^ 31 by omega)]
      rcases h.2.2.1 j hj with ⟨hr, ht⟩ | ⟨hr, i, hi, hc, hx, ht⟩
      · rw [ht]
        refine bh_recI _ (bh_fldI _ _ (br_t rfl (bh_badO hs (br_t rfl (bh_badO hj (br_t rfl ?_))))))
        exact bh_plcI hj hr (br_f (by decide) ⟨rfl, G⟩)
      · rw [ht]
        have h6 := h.1 i
        refine bh_recR hi ?_
        rcases bh_fx v3 (c i) h6 with hb | ⟨f, hf, rfl⟩
        · refine bh_fldN hi h6 hb (br_t rfl (bh_badO hs (br_t rfl (bh_badO hj (br_t rfl ?_)))))
          exact bh_plcN hj hr hi hx h6 hb (br_f (by decide) ⟨rfl, G⟩)
        · refine bh_fldO hi h6 hf (br_f (by decide) ?_)
          rw [bh_xf]
          refine ⟨vp_in_nI (by omega) (by omega), vp_in_nI hs (by omega), fun a ea => ?_⟩
          rw [nI_clamp (by omega), nI_clamp (by omega)] at ea
          subst ea
          have hT := h.2.2.2 i f hi hf
          refine bh_badO hs (br_t rfl (bh_badO hj (br_t rfl ?_)))
          refine bh_plcO hj hr hi hx h6 hf (br_t (nI_pos' (by omega)) (bh_takeO (by omega) (by omega) (bh_Tm01 hT) ?_))
          exact ⟨rfl, bh_mk (bh_R_reg h hs hT) rc rd ro rd'⟩
