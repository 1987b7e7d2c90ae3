def bh_W (c : Nat → Nat) (rf ct : Nat → Int32) : Prop := ∀ p, p < 222 → (p < 6 ∨ (p - 6) % 6 < c ((p - 6) / 6)) → rf p = 0 ∨ ∃ i, i < 36 ∧ ct p = nI i
theorem bh_R_W {c : Nat → Nat} {rt ft : Nat → Int64} {rf ct : Nat → Int32} (h : bh_R c rt ft rf ct) : bh_W c rf ct := by
  have g : ∀ {t : Int64} {r x : Int32}, bh_Tm c t r x → r = 0 ∨ ∃ i, i < 36 ∧ x = nI i := by
    intro t r x ht
    rcases ht with ⟨hr, _⟩ | ⟨_, i, hi, _, hx, _⟩
    · exact Or.inl hr
    · exact Or.inr ⟨i, hi, hx⟩
  intro p hp hh
  by_cases h6 : p < 6
  · exact g (h.2.2.1 p h6)
  · have hf := hh.resolve_left h6
    have ht := h.2.2.2 ((p - 6) / 6) ((p - 6) % 6) (by omega) hf
    rw [show 6 + 6 * ((p - 6) / 6) + (p - 6) % 6 = p by omega] at ht
    exact g ht
def bh_Cp (c : Nat → Nat) (rf ct M : Nat → Int32) (p : Nat) : Prop :=
  (p < 6 ∨ (M ((p - 6) / 6) ≠ 0 ∧ (p - 6) % 6 < c ((p - 6) / 6))) → ∀ i, bh_E rf ct p i → M i ≠ 0
theorem bh_Cp_Cl {c : Nat → Nat} {rf ct M : Nat → Int32} (h6 : ∀ j, c j ≤ 6) (h : ∀ p, p < 222 → bh_Cp c rf ct M p) : bh_Cl c (bh_E rf ct) (fun i => M i ≠ 0) := by
  refine ⟨fun p hp i hE => h p (by omega) (Or.inl hp) i hE, fun j hj hd f hf i hE => ?_⟩
  have h6j := h6 j
  refine h (6 + 6 * j + f) (by omega) (Or.inr ?_) i hE
  rw [show (6 + 6 * j + f - 6) / 6 = j by omega, show (6 + 6 * j + f - 6) % 6 = f by omega]
  exact ⟨hd, hf⟩
def bh_So (c : Nat → Nat) (rf ct M : Nat → Int32) : Prop := ∀ S, bh_Cl c (bh_E rf ct) S → ∀ i, i < 36 → M i ≠ 0 → S i
def bh_P (c : Nat → Nat) (rf ct : Nat → Int32) (rnd : Nat) (more : Int32) (p : Nat) (M : Nat → Int32) : Prop :=
  bh_So c rf ct M ∧ ((more = 0 ∧ rnd ≤ bh_cnt M 36 ∧ ∀ q, q < p → bh_Cp c rf ct M q) ∨ (more = 1 ∧ rnd + 1 ≤ bh_cnt M 36))
theorem bh_m93 {post : SY → Prop} {J25 J39 : Int32 → Int32 → (Nat → Int32) → (Nat → Int32) → (Nat → Int32) → (Nat → Int32) → Prop} {x1 x2 : Int32} {p : Nat} {rf ct fo M : Nat → Int32} (k : J39 x1 (nI (p + 1)) rf ct fo M) : wY_mark_93 post J25 J39 x1 x2 (nI p) rf ct fo M :=
  br_t rfl (nm_r (nI_1 p) k)
theorem bh_m89 {post : SY → Prop} {J25 J39 : Int32 → Int32 → (Nat → Int32) → (Nat → Int32) → (Nat → Int32) → (Nat → Int32) → Prop} {x1 x2 : Int32} {p : Nat} {rf ct fo M : Nat → Int32} (hp : p < 222) (hW : rf p = 0 ∨ ∃ i, i < 36 ∧ ct p = nI i)
    (k0 : (∀ i, bh_E rf ct p i → M i ≠ 0) → J39 x1 (nI (p + 1)) rf ct fo M)
    (k1 : ∀ i, bh_E rf ct p i → M i = 0 → J39 1 (nI (p + 1)) rf ct fo (upd M i 1)) : wY_mark_89 post J25 J39 x1 x2 (nI p) rf ct fo M := by
  have hin : vp_in (nI p) 222 := vp_in_nI hp (by omega)
  unfold wY_mark_89
  refine br_f (by decide) ⟨hin, ?_⟩
  rw [nI_clamp (by omega)]
  by_cases z : rf p = 0
  · exact br_t z (nm_r (nI_1 p) (k0 (fun i hE => absurd z hE.1)))
  · obtain ⟨i, hi, hx⟩ := hW.resolve_left z
    have hu : ∀ j, bh_E rf ct p j → j = i := by
      intro j hE
      exact (nI_eq (by have := hE.2.1; omega) (by omega)).mp (hE.2.2.symm.trans hx)
    have h36 : vp_in (nI i) 36 := vp_in_nI hi (by omega)
    rw [hx]
    refine br_f z ⟨hin, h36, ?_⟩
    rw [nI_clamp (by omega)]
    by_cases m : M i = 0
    · refine br_t m ⟨hin, h36, fun a ea => nm_r (nI_1 p) ?_⟩
      rw [bh_n1] at ea
      subst ea
      exact k1 i ⟨z, hi, hx⟩ m
    · exact br_f m (nm_r (nI_1 p) (k0 (fun j hE => by rw [hu j hE]; exact m)))
theorem bh_P_keep {c : Nat → Nat} {rf ct : Nat → Int32} {rnd : Nat} {more : Int32} {p : Nat} {M : Nat → Int32} (h : bh_P c rf ct rnd more p M) (hp : bh_Cp c rf ct M p) : bh_P c rf ct rnd more (p + 1) M := by
  refine ⟨h.1, ?_⟩
  rcases h.2 with ⟨e, hr, hq⟩ | h2
  · refine Or.inl ⟨e, hr, fun q hqp => ?_⟩
    by_cases eq : q = p
    · subst eq
      exact hp
    · exact hq q (by omega)
  · exact Or.inr h2
theorem bh_P_add {c : Nat → Nat} {rf ct : Nat → Int32} {rnd : Nat} {more : Int32} {p : Nat} {M : Nat → Int32} (h : bh_P c rf ct rnd more p M) {i : Nat} (hi : i < 36) (h0 : M i = 0) (hS : ∀ S, bh_Cl c (bh_E rf ct) S → S i) : bh_P c rf ct rnd 1 (p + 1) (upd M i 1) := by
  have hc := bh_cnt_upd h0 36 hi
  refine ⟨fun S hC j hj hd => ?_, Or.inr ⟨rfl, ?_⟩⟩
  · by_cases e : j = i
    · subst e
      exact hS S hC
    · rw [pk_un e] at hd
      exact h.1 S hC j hj hd
  · rcases h.2 with ⟨_, hr, _⟩ | ⟨_, hr⟩ <;> omega
theorem bh_m39 {post : SY → Prop} {J25 : Int32 → Int32 → (Nat → Int32) → (Nat → Int32) → (Nat → Int32) → (Nat → Int32) → Prop} {c : Nat → Nat} {rf ct : Nat → Int32} {rnd : Nat} (h6 : ∀ j, c j ≤ 6) (hW : bh_W c rf ct)
    (k : ∀ more M, bh_P c rf ct rnd more 222 M → J25 more (nI (rnd + 1)) rf ct (bh_A c) M) :
    ∀ d p more M, p + d = 222 → bh_P c rf ct rnd more p M → wY_mark_39 post J25 (nI rnd) (d + 1) more (nI p) rf ct (bh_A c) M := by
  intro d
  induction d with
  | zero =>
    intro p more M hp h
    obtain rfl : p = 222 := by omega
    exact br_t (nI_le (a := 222) (b := 222) (by omega) (by omega)) (nm_r (nI_1 rnd) (k more M h))
  | succ d ih =>
    intro p more M hp h
    refine br_f (nI_ge (b := 222) (by omega) (by omega)) ?_
    by_cases hl : p < 6
    · refine br_t (nI_lt (b := 6) hl (by omega)) (bh_m89 (by omega) (hW p (by omega) (Or.inl hl)) (fun hE => ih (p + 1) more M (by omega) (bh_P_keep h (fun _ => hE))) (fun i hE h0 => ih (p + 1) 1 _ (by omega) (bh_P_add h hE.2.1 h0 (fun S hC => hC.1 p hl i hE))))
    · obtain ⟨s, rfl⟩ : ∃ s, p = s + 6 := ⟨p - 6, by omega⟩
      have es : nI (s + 6) - 6 = nI s := by
        have := pk_sub (a := s + 6) (b := 6) (by omega)
        rw [Nat.add_sub_cancel] at this
        exact this
      have ed : nI s / 6 = nI (s / 6) := pk_div (a := s) (d := 6) (by omega) (by omega) (by omega)
      have er : nI s - nI (s / 6) * 6 = nI (s % 6) := by
        rw [← ed]
        exact pk_rem (a := s) (d := 6) (by omega) (by omega) (by omega)
      have hin : vp_in (nI (s / 6)) 36 := vp_in_nI (by omega) (by omega)
      have n6 : ¬ (6 : Int32) = 0 := by decide
      have e1 : (s + 6 - 6) / 6 = s / 6 := by omega
      have e2 : (s + 6 - 6) % 6 = s % 6 := by omega
      refine br_f (nI_nlt (b := 6) (by omega) (by omega)) ⟨n6, ?_⟩
      rw [es, ed]
      refine ⟨hin, ?_⟩
      have cl : (nI (s / 6)).toNatClampNeg = s / 6 := nI_clamp (by omega)
      rw [cl]
      by_cases m : M (s / 6) = 0
      · refine br_t m (bh_m93 (ih (s + 6 + 1) more M (by omega) (bh_P_keep h (fun hh => ?_))))
        rw [e1] at hh
        exact absurd m (hh.resolve_left hl).1
      · refine br_f m ⟨n6, n6, hin, ?_⟩
        rw [er]
        have h6s := h6 (s / 6)
        by_cases g : c (s / 6) ≤ s % 6
        · refine br_t (nI_le g (by omega)) (bh_m93 (ih (s + 6 + 1) more M (by omega) (bh_P_keep h (fun hh => ?_))))
          rw [e1, e2] at hh
          have := (hh.resolve_left hl).2
          omega
        · refine br_f (nI_ge (by omega) (by omega)) (bh_m89 (by omega) (hW (s + 6) (by omega) (Or.inr (by rw [e1, e2]; omega))) (fun hE => ih (s + 6 + 1) more M (by omega) (bh_P_keep h (fun _ => hE))) (fun i hE h0 => ih (s + 6 + 1) 1 _ (by omega) (bh_P_add h hE.2.1 h0 (fun S hC => ?_))))
          refine hC.2 (s / 6) (by omega) (h.1 S hC (s / 6) (by omega) m) (s % 6) (by omega) i ?_
          rw [show 6 + 6 * (s / 6) + s % 6 = s + 6 by omega]
          exact hE
theorem bh_m25 {post : SY → Prop} {c : Nat → Nat} {rf ct : Nat → Int32} (h6 : ∀ j, c j ≤ 6) (hW : bh_W c rf ct)
    (k : ∀ M, bh_Mk c (bh_E rf ct) M → post (rf, ct, bh_A c, M)) :
    ∀ d rnd more M, rnd + d = 37 → bh_So c rf ct M → ((more = 0 ∧ bh_Mk c (bh_E rf ct) M) ∨ (more = 1 ∧ rnd ≤ bh_cnt M 36)) → wY_mark_25 post (d + 1) more (nI rnd) rf ct (bh_A c) M := by
  intro d
  induction d with
  | zero =>
    intro rnd more M hr hS h
    obtain rfl : rnd = 37 := by omega
    refine br_t (nI_le (a := 37) (b := 37) (by omega) (by omega)) ?_
    rcases h with ⟨_, h⟩ | ⟨_, h⟩
    · exact k M h
    · have := bh_cnt_le M 36
      omega
  | succ d ih =>
    intro rnd more M hr hS h
    refine br_f (nI_ge (b := 37) (by omega) (by omega)) ?_
    rcases h with ⟨e, h⟩ | ⟨e, h⟩
    · exact br_t e (k M h)
    · subst e
      refine br_f (by decide) ⟨223, bh_m39 h6 hW ?_ 222 0 0 M rfl ⟨hS, Or.inl ⟨rfl, h, fun q hq => absurd hq (Nat.not_lt_zero q)⟩⟩⟩
      intro more K hP
      refine ih (rnd + 1) more K (by omega) hP.1 ?_
      rcases hP.2 with ⟨e, _, hq⟩ | h2
      · exact Or.inl ⟨e, hP.1, bh_Cp_Cl h6 hq⟩
      · exact Or.inr h2
theorem bh_m2 {post : SY → Prop} {c : Nat → Nat} {rf ct : Nat → Int32} (h6 : ∀ j, c j ≤ 6) (hW : bh_W c rf ct)
    (k : ∀ M, bh_Mk c (bh_E rf ct) M → post (rf, ct, bh_A c, M)) :
    ∀ d i M, i + d = 36 → (∀ j, j < i → M j = 0) → wY_mark_2 post (d + 1) (nI i) rf ct (bh_A c) M := by
  intro d
  induction d with
  | zero =>
    intro i M hi h
    obtain rfl : i = 36 := by omega
    refine br_t (nI_le (a := 36) (b := 36) (by omega) (by omega)) ⟨38, ?_⟩
    exact bh_m25 h6 hW k 37 0 1 M rfl (fun S _ i hi hd => absurd (h i hi) hd) (Or.inr ⟨rfl, Nat.zero_le _⟩)
  | succ d ih =>
    intro i M hi h
    refine br_f (nI_ge (b := 36) (by omega) (by omega)) ⟨vp_in_nI (by omega) (by omega), fun a ea x ex => ?_⟩
    rw [bh_n0, nI_clamp (by omega)] at ea
    rw [nI_1] at ex
    subst ea ex
    refine ih (i + 1) _ (by omega) (fun j hj => ?_)
    by_cases e : j = i
    · subst e
      exact pk_us
    · rw [pk_un e]
      exact h j (by omega)
theorem bh_c6 {post : Int32 → SY → Prop} {c : Nat → Nat} {rf ct M : Nat → Int32} (h6 : ∀ j, c j ≤ 6)
    (k : post (nI (bh_sum (bh_keep 36 M c) 36)) (rf, ct, bh_A (bh_keep 36 M c), M)) :
    ∀ d i, i + d = 36 → wY_collect_6 post (d + 1) (nI i) rf ct (bh_A (bh_keep i M c)) M := by
  intro d
  induction d with
  | zero =>
    intro i hi
    obtain rfl : i = 36 := by omega
    refine br_t (nI_le (a := 36) (b := 36) (by omega) (by omega)) ?_
    exact bh_usedY (fun j => Nat.le_trans (bh_keep_le 36 M c j) (h6 j)) k
  | succ d ih =>
    intro i hi
    have hin : vp_in (nI i) 36 := vp_in_nI (by omega) (by omega)
    have I := ih (i + 1) (by omega)
    refine br_f (nI_ge (b := 36) (by omega) (by omega)) ⟨hin, ?_⟩
    rw [nI_clamp (by omega)]
    by_cases g : M i = 0
    · rw [bh_keep_t c g] at I
      refine br_t g ⟨hin, fun a ea => nm_r (nI_1 i) ?_⟩
      have ea' : a = upd (bh_A (bh_keep i M c)) i (nI 0) := ea
      rw [bh_A_upd] at ea'
      subst ea'
      exact I
    · rw [bh_keep_f c g] at I
      exact br_f g (nm_r (nI_1 i) I)
theorem bh_collectY {post : Int32 → SY → Prop} {c : Nat → Nat} {rt ft : Nat → Int64} {rf ct rd : Nat → Int32} (h : bh_R c rt ft rf ct)
    (k : ∀ M, bh_Mk c (bh_E rf ct) M → post (nI (bh_sum (bh_keep 36 M c) 36)) (rf, ct, bh_A (bh_keep 36 M c), M)) : wpY_collect post (rf, ct, bh_A c, rd) := by
  unfold wpY_collect
  dsimp only
  refine ⟨37, bh_m2 h.1 (bh_R_W h) ?_ 36 0 rd rfl (fun j hj => absurd hj (Nat.not_lt_zero j))⟩
  intro M hM
  dsimp only
  refine ⟨37, ?_⟩
  have := bh_c6 (post := post) (rf := rf) (ct := ct) (M := M) h.1 (k M hM) 36 0 rfl
  rw [bh_keep_0] at this
  exact this
theorem bh_R_keep {c : Nat → Nat} {rt ft : Nat → Int64} {rf ct M : Nat → Int32} (h : bh_R c rt ft rf ct) (hM : bh_Mk c (bh_E rf ct) M) : bh_R (bh_keep 36 M c) rt ft rf ct := by
  have T : ∀ {p : Nat} {t : Int64}, bh_Tm c t (rf p) (ct p) → (∀ i, bh_E rf ct p i → M i ≠ 0) → bh_Tm (bh_keep 36 M c) t (rf p) (ct p) := by
    intro p t ht hE
    rcases ht with h0 | ⟨hr, i, hi, hc, hx, ht⟩
    · exact Or.inl h0
    · have hm := hE i ⟨by rw [hr]; decide, hi, hx⟩
      refine Or.inr ⟨hr, i, hi, ?_, hx, ht⟩
      have e : bh_keep 36 M c i = c i := if_neg (fun z => hm z.2)
      rw [e]
      exact hc
  refine ⟨fun j => Nat.le_trans (bh_keep_le 36 M c j) (h.1 j), Nat.le_trans (bh_sum_le 36 (fun j _ => bh_keep_le 36 M c j)) h.2.1, fun p hp => T (h.2.2.1 p hp) (hM.2.1 p hp), fun j f hj hf => ?_⟩
  by_cases m : M j = 0
  · have e : bh_keep 36 M c j = 0 := if_pos ⟨hj, m⟩
    omega
  · have e : bh_keep 36 M c j = c j := if_neg (fun z => m z.2)
    rw [e] at hf
    exact T (h.2.2.2 j f hj hf) (hM.2.2 j hj m f hf)
theorem i_vc_collect {k : Nat} {u : SX} {v : SY} (I : i_Rel k u v) (hk : k + 4 ≤ 2048) : wpX_collect (fun r u' => wpY_collect (fun r' v' => r' = r ∧ i_Rel (k + 4) u' v') v) u := by
  obtain ⟨c, rc, rt, ft, rd, ro, rf, ct, rd', rfl, rfl, h⟩ := I
  unfold wpX_collect
  dsimp only
  refine bh_removeX h ?_
  intro rc' M so hM
  refine bh_collectY h ?_
  intro K hK
  rw [bh_keep_Mk hK hM]
  exact ⟨rfl, bh_mk (bh_R_keep h hM) rc' M so K⟩
