def bh_E (rf ct : Nat → Int32) (p i : Nat) : Prop := rf p ≠ 0 ∧ i < 36 ∧ ct p = nI i
def bh_I (c : Nat → Nat) (E : Nat → Nat → Prop) (n : Nat) (rd ro : Nat → Int32) : Prop :=
  n = bh_cnt rd 36 ∧ (∀ q, q < n → ∃ i, i < 36 ∧ ro q = nI i ∧ rd i ≠ 0) ∧
  (∀ i, i < 36 → rd i ≠ 0 → ∃ q, q < n ∧ ro q = nI i) ∧ (∀ S, bh_Cl c E S → ∀ i, i < 36 → rd i ≠ 0 → S i)
def bh_G (n : Nat) (rd ro : Nat → Int32) (m : Nat) (sd so : Nat → Int32) : Prop :=
  n ≤ m ∧ (∀ i, rd i ≠ 0 → sd i ≠ 0) ∧ (∀ q, q < n → so q = ro q)
theorem bh_G_rfl (n : Nat) (rd ro : Nat → Int32) : bh_G n rd ro n rd ro := ⟨Nat.le_refl _, fun _ h => h, fun _ _ => rfl⟩
theorem bh_G_tr {n m l : Nat} {rd ro sd so td to : Nat → Int32} (h : bh_G n rd ro m sd so) (g : bh_G m sd so l td to) : bh_G n rd ro l td to :=
  ⟨Nat.le_trans h.1 g.1, fun i hi => g.2.1 i (h.2.1 i hi), fun q hq => (g.2.2 q (Nat.lt_of_lt_of_le hq h.1)).trans (h.2.2 q hq)⟩
theorem bh_upd_ne {rd : Nat → Int32} {i j : Nat} (h : rd j ≠ 0) : upd rd i 1 j ≠ 0 := by
  by_cases e : j = i
  · subst e
    rw [pk_us]
    decide
  · rw [pk_un e]
    exact h
theorem bh_I_add {c : Nat → Nat} {E : Nat → Nat → Prop} {n : Nat} {rd ro : Nat → Int32} (h : bh_I c E n rd ro) {i : Nat} (hi : i < 36) (h0 : rd i = 0) (hS : ∀ S, bh_Cl c E S → S i) :
    n < 36 ∧ bh_I c E (n + 1) (upd rd i 1) (upd ro n (nI i)) ∧ bh_G n rd ro (n + 1) (upd rd i 1) (upd ro n (nI i)) := by
  have hc := bh_cnt_upd h0 36 hi
  have hl := bh_cnt_le (upd rd i 1) 36
  have hn := h.1
  refine ⟨by omega, ⟨by omega, fun q hq => ?_, fun j hj hd => ?_, fun S hC j hj hd => ?_⟩, by omega, fun j hj => bh_upd_ne hj, fun q hq => pk_un (by omega)⟩
  · by_cases e : q = n
    · subst e
      exact ⟨i, hi, pk_us, by rw [pk_us]; decide⟩
    · obtain ⟨j, hj, hq, hd⟩ := h.2.1 q (by omega)
      exact ⟨j, hj, (pk_un e).trans hq, bh_upd_ne hd⟩
  · by_cases e : j = i
    · subst e
      exact ⟨n, by omega, pk_us⟩
    · rw [pk_un e] at hd
      obtain ⟨q, hq, e2⟩ := h.2.2.1 j hj hd
      exact ⟨q, by omega, (pk_un (by omega)).trans e2⟩
  · by_cases e : j = i
    · subst e
      exact hS S hC
    · rw [pk_un e] at hd
      exact h.2.2.2 S hC j hj hd
theorem bh_reach {post : SX → Prop} {c : Nat → Nat} {rf ct : Nat → Int32} {p : Nat} {t : Int64} {n : Nat} {rd ro : Nat → Int32} (uw : Int32) (rt ft : Nat → Int64) (fc : Nat → Int32) (ht : bh_Tm c t (rf p) (ct p)) (h : bh_I c (bh_E rf ct) n rd ro)
    (hS : ∀ S, bh_Cl c (bh_E rf ct) S → ∀ i, bh_E rf ct p i → S i)
    (k : ∀ m sd so, bh_I c (bh_E rf ct) m sd so → bh_G n rd ro m sd so → (∀ i, bh_E rf ct p i → sd i ≠ 0) → post (nI m, uw, rt, ft, fc, sd, so)) : wpX_reach post (nI n, uw, rt, ft, fc, rd, ro) t := by
  unfold wpX_reach
  dsimp only
  have hl := bh_cnt_le rd 36
  have hn := h.1
  rcases ht with ⟨hr, ht⟩ | ⟨hr, i, hi, hc, hx, ht⟩
  · rw [ht]
    exact bh_recI _ (br_t rfl (k n rd ro h (bh_G_rfl n rd ro) (fun i hE => absurd hr hE.1)))
  · rw [ht]
    have hin : vp_in (nI i) 36 := vp_in_nI hi (by omega)
    refine bh_recR hi (br_f (bh_nm1 hi) ⟨hin, ?_⟩)
    have ci : (nI i).toNatClampNeg = i := nI_clamp (by omega)
    have hu : ∀ j, bh_E rf ct p j → j = i := by
      intro j hE
      have := hE.2.2.symm.trans hx
      exact (nI_eq (by have := hE.2.1; omega) (by omega)).mp this
    have hE : bh_E rf ct p i := ⟨by rw [hr]; decide, hi, hx⟩
    rw [ci]
    by_cases z : rd i = 0
    · obtain ⟨hlt, hI, hG⟩ := bh_I_add h hi z (fun S hC => hS S hC i hE)
      refine br_t z ⟨hin, fun a ea => ⟨vp_in_nI hlt (by omega), fun b eb m em => ?_⟩⟩
      rw [bh_n1] at ea
      rw [nI_clamp (by omega)] at eb
      rw [nI_1] at em
      subst ea eb em
      refine k (n + 1) _ _ hI hG (fun j hj => ?_)
      rw [hu j hj, pk_us]
      decide
    · exact br_f z (k n rd ro h (bh_G_rfl n rd ro) (fun j hj => by rw [hu j hj]; exact z))
theorem bh_forget {post : SX → Prop} {rc uw : Int32} {rt ft : Nat → Int64} {fc ro : Nat → Int32} (k : ∀ sd, (∀ j, j < 36 → sd j = 0) → post (rc, uw, rt, ft, fc, sd, ro)) : ∀ d i rd, i + d = 36 → (∀ j, j < i → rd j = 0) → wX_forgetReached_7 post rc uw (d + 1) (nI i) rt ft fc rd ro := by
  intro d
  induction d with
  | zero =>
    intro i rd hi h
    obtain rfl : i = 36 := by omega
    exact br_t (nI_le (a := 36) (b := 36) (by omega) (by omega)) (k rd h)
  | succ d ih =>
    intro i rd hi h
    refine br_f (nI_ge (b := 36) (by omega) (by omega)) ⟨vp_in_nI (by omega) (by omega), fun a ea x ex => ?_⟩
    rw [bh_n0, nI_clamp (by omega)] at ea
    rw [nI_1] at ex
    subst ea ex
    refine ih (i + 1) _ (by omega) (fun j hj => ?_)
    by_cases e : j = i
    · subst e
      exact pk_us
    · rw [pk_un e]
      exact h j (by omega)
theorem bh_regs {post : SX → Prop} {c : Nat → Nat} {rf ct : Nat → Int32} {uw : Int32} {rt ft : Nat → Int64} {fc : Nat → Int32} (ht : ∀ p, p < 6 → bh_Tm c (rt p) (rf p) (ct p))
    (k : ∀ m sd so, bh_I c (bh_E rf ct) m sd so → (∀ p, p < 6 → ∀ i, bh_E rf ct p i → sd i ≠ 0) → post (nI m, uw, rt, ft, fc, sd, so)) :
    ∀ d i n rd ro, i + d = 6 → bh_I c (bh_E rf ct) n rd ro → (∀ p, p < i → ∀ j, bh_E rf ct p j → rd j ≠ 0) → wX_reachFromRegisters_2 post (d + 1) (nI i) (nI n) uw rt ft fc rd ro := by
  intro d
  induction d with
  | zero =>
    intro i n rd ro hi h hp
    obtain rfl : i = 6 := by omega
    exact br_t (nI_le (a := 6) (b := 6) (by omega) (by omega)) (k n rd ro h hp)
  | succ d ih =>
    intro i n rd ro hi h hp
    refine br_f (nI_ge (b := 6) (by omega) (by omega)) ⟨vp_in_nI (by omega) (by omega), ?_⟩
    rw [nI_clamp (by omega)]
    refine bh_reach (rf := rf) (ct := ct) (p := i) uw rt ft fc (ht i (by omega)) h (fun S hC j hE => hC.1 i (by omega) j hE) ?_
    intro m sd so hI hG hN x ex
    rw [nI_1] at ex
    subst ex
    refine ih (i + 1) m sd so (by omega) hI (fun p hpi j hE => ?_)
    by_cases e : p = i
    · subst e
      exact hN j hE
    · exact hG.2.1 j (hp p (by omega) j hE)
theorem bh_rec39 {post : SX → Prop} {J2 : Int32 → Int32 → Int32 → (Nat → Int64) → (Nat → Int64) → (Nat → Int32) → (Nat → Int32) → (Nat → Int32) → Prop} {c : Nat → Nat} {rf ct : Nat → Int32} {uw x1 : Int32} {rt ft : Nat → Int64} {fc : Nat → Int32} {r n0 : Nat} {rd0 ro0 : Nat → Int32}
    (hr : r < 36) (hc : c r ≤ 6) (h0 : rd0 r ≠ 0) (ht : ∀ f, f < c r → bh_Tm c (ft (r * 6 + f)) (rf (6 + 6 * r + f)) (ct (6 + 6 * r + f)))
    (k : ∀ m sd so, bh_I c (bh_E rf ct) m sd so → bh_G n0 rd0 ro0 m sd so → (∀ f, f < c r → ∀ i, bh_E rf ct (6 + 6 * r + f) i → sd i ≠ 0) → J2 (x1 + 1) (nI m) uw rt ft fc sd so) :
    ∀ d f n rd ro, f + d = c r → bh_I c (bh_E rf ct) n rd ro → bh_G n0 rd0 ro0 n rd ro → (∀ g, g < f → ∀ i, bh_E rf ct (6 + 6 * r + g) i → rd i ≠ 0) → wX_reachFromRecords_39 post J2 x1 (nI (r * 6)) (nI (c r)) (d + 1) (nI f) (nI n) uw rt ft fc rd ro := by
  intro d
  induction d with
  | zero =>
    intro f n rd ro hf h hG hp
    obtain rfl : f = c r := by omega
    exact br_t (nI_le (by omega) (by omega)) (nm_e (k n rd ro h hG hp))
  | succ d ih =>
    intro f n rd ro hf h hG hp
    refine br_f (nI_ge (by omega) (by omega)) ?_
    rw [nI_add]
    refine ⟨vp_in_nI (by omega) (by omega), ?_⟩
    rw [nI_clamp (by omega)]
    refine bh_reach (rf := rf) (ct := ct) (p := 6 + 6 * r + f) uw rt ft fc (ht f (by omega)) h (fun S hC j hE => hC.2 r hr (h.2.2.2 S hC r hr (hG.2.1 r h0)) f (by omega) j hE) ?_
    intro m sd so hI hG2 hN x ex
    rw [nI_1] at ex
    subst ex
    refine ih (f + 1) m sd so (by omega) hI (bh_G_tr hG hG2) (fun g hg j hE => ?_)
    by_cases e : g = f
    · subst e
      exact hN j hE
    · exact hG2.2.1 j (hp g (by omega) j hE)
theorem bh_recs {post : SX → Prop} {c : Nat → Nat} {rf ct : Nat → Int32} {uw : Int32} {rt ft : Nat → Int64} (h6 : ∀ j, c j ≤ 6)
    (ht : ∀ j f, j < 36 → f < c j → bh_Tm c (ft (j * 6 + f)) (rf (6 + 6 * j + f)) (ct (6 + 6 * j + f)))
    (k : ∀ m sd so, bh_Mk c (bh_E rf ct) sd → post (nI m, uw, rt, ft, bh_A c, sd, so)) :
    ∀ d i n rd ro, i + d = 36 → i ≤ n → bh_I c (bh_E rf ct) n rd ro → (∀ p, p < 6 → ∀ j, bh_E rf ct p j → rd j ≠ 0) →
      (∀ q, q < i → ∀ r, r < 36 → ro q = nI r → ∀ f, f < c r → ∀ j, bh_E rf ct (6 + 6 * r + f) j → rd j ≠ 0) → wX_reachFromRecords_2 post (d + 1) (nI i) (nI n) uw rt ft (bh_A c) rd ro := by
  have fin : ∀ i n rd ro, n ≤ i → bh_I c (bh_E rf ct) n rd ro → (∀ p, p < 6 → ∀ j, bh_E rf ct p j → rd j ≠ 0) →
      (∀ q, q < i → ∀ r, r < 36 → ro q = nI r → ∀ f, f < c r → ∀ j, bh_E rf ct (6 + 6 * r + f) j → rd j ≠ 0) → bh_Mk c (bh_E rf ct) rd := by
    intro i n rd ro hi h hp hq
    refine ⟨h.2.2.2, hp, fun r hr hd f hf j hE => ?_⟩
    obtain ⟨q, hqn, e⟩ := h.2.2.1 r hr hd
    exact hq q (by omega) r hr e f hf j hE
  intro d
  induction d with
  | zero =>
    intro i n rd ro hi hin h hp hq
    obtain rfl : i = 36 := by omega
    have hl := bh_cnt_le rd 36
    have hn := h.1
    exact br_t (nI_le (a := 36) (b := 36) (by omega) (by omega)) (k n rd ro (fin 36 n rd ro (by omega) h hp hq))
  | succ d ih =>
    intro i n rd ro hi hin h hp hq
    have hl := bh_cnt_le rd 36
    have hn := h.1
    refine br_f (nI_ge (b := 36) (by omega) (by omega)) ?_
    by_cases z : n ≤ i
    · exact br_t (nI_le z (by omega)) (k n rd ro (fin i n rd ro z h hp hq))
    · refine br_f (nI_ge (by omega) (by omega)) ⟨vp_in_nI (by omega) (by omega), fun x2 e2 x3 e3 => ?_⟩
      obtain ⟨r, hr, er, hd⟩ := h.2.1 i (by omega)
      rw [nI_clamp (by omega), er] at e2
      subst e2
      have e6 : nI r * 6 = nI (r * 6) := pk_mul r 6
      rw [e6] at e3
      subst e3
      refine ⟨vp_in_nI hr (by omega), fun x4 e4 => ?_⟩
      rw [nI_clamp (by omega)] at e4
      have e4' : x4 = nI (c r) := e4
      subst e4'
      refine ⟨c r + 1, bh_rec39 (n0 := n) (rd0 := rd) (ro0 := ro) hr (h6 r) hd (fun f hf => ht r f hr hf) ?_ (c r) 0 n rd ro (by omega) h (bh_G_rfl n rd ro) (fun g hg => absurd hg (Nat.not_lt_zero g))⟩
      intro m sd so hI hG hN
      rw [nI_1]
      refine ih (i + 1) m sd so (by omega) (by have := hG.1; omega) hI (fun p hp2 j hE => hG.2.1 j (hp p hp2 j hE)) (fun q hq2 s hs es f hf j hE => ?_)
      rw [hG.2.2 q (by omega)] at es
      by_cases e : q = i
      · subst e
        have : s = r := (nI_eq (by omega) (by omega)).mp (es.symm.trans er)
        subst this
        exact hN f hf j hE
      · exact hG.2.1 j (hq q (by omega) s hs es f hf j hE)
theorem bh_rem14 {post : SX → Prop} {c : Nat → Nat} {rc : Int32} {rt ft : Nat → Int64} {M ro : Nat → Int32} (h6 : ∀ j, c j ≤ 6)
    (k : post (rc, nI (bh_sum (bh_keep 36 M c) 36), rt, ft, bh_A (bh_keep 36 M c), M, ro)) :
    ∀ d i, i + d = 36 → wX_removeUnreached_14 post rc (d + 1) (nI i) (nI (bh_sum (bh_keep i M c) 36)) rt ft (bh_A (bh_keep i M c)) M ro := by
  intro d
  induction d with
  | zero =>
    intro i hi
    obtain rfl : i = 36 := by omega
    exact br_t (nI_le (a := 36) (b := 36) (by omega) (by omega)) k
  | succ d ih =>
    intro i hi
    have hin : vp_in (nI i) 36 := vp_in_nI (by omega) (by omega)
    have h6i := h6 i
    have I := ih (i + 1) (by omega)
    refine br_f (nI_ge (b := 36) (by omega) (by omega)) ⟨hin, ?_⟩
    have e : bh_A (bh_keep i M c) (nI i).toNatClampNeg = nI (c i) := by
      rw [nI_clamp (by omega)]
      exact congrArg nI (bh_keep_at i M c)
    rw [e, nI_clamp (by omega)]
    have hsum := bh_sum_upd (bh_keep i M c) i 0 36 (by omega)
    rw [if_pos rfl] at hsum
    by_cases z : c i = 0
    · have ek : bh_keep (i + 1) M c = bh_keep i M c := by
        by_cases g : M i = 0
        · have := bh_upd_same (c := bh_keep i M c) (i := i)
          rw [bh_keep_at, z] at this
          rw [bh_keep_t c g, this]
        · exact bh_keep_f c g
      rw [ek] at I
      refine br_t (nI_le (a := c i) (b := 0) (by omega) (by omega)) (nm_r (nI_1 i) I)
    · refine br_f (nI_ge (a := 0) (b := c i) (by omega) (by omega)) ⟨hin, ?_⟩
      by_cases g : M i = 0
      · have ho : bh_one (bh_keep i M c) i = c i + 1 := by
          unfold bh_one
          rw [bh_keep_at, if_neg z]
        rw [bh_keep_t c g] at I
        refine br_t g ⟨hin, fun w ew => ⟨hin, fun a ea x ex => ?_⟩⟩
        rw [nI_1, pk_sub (by omega)] at ew
        have ea' : a = upd (bh_A (bh_keep i M c)) i (nI 0) := ea
        rw [bh_A_upd] at ea'
        rw [nI_1] at ex
        subst ew ea' ex
        rw [show bh_sum (bh_keep i M c) 36 - (c i + 1) = bh_sum (bh_upd (bh_keep i M c) i 0) 36 by omega]
        exact I
      · rw [bh_keep_f c g] at I
        exact br_f g (nm_r (nI_1 i) I)
theorem bh_removeX {post : SX → Prop} {c : Nat → Nat} {rf ct : Nat → Int32} {rc : Int32} {rt ft : Nat → Int64} {rd ro : Nat → Int32} (h : bh_R c rt ft rf ct)
    (k : ∀ rc M so, bh_Mk c (bh_E rf ct) M → post (rc, nI (bh_sum (bh_keep 36 M c) 36), rt, ft, bh_A (bh_keep 36 M c), M, so)) : wpX_removeUnreached post (rc, nI (bh_sum c 36), rt, ft, bh_A c, rd, ro) := by
  unfold wpX_removeUnreached
  dsimp only
  refine ⟨37, bh_forget ?_ 36 0 rd rfl (fun j hj => absurd hj (Nat.not_lt_zero j))⟩
  intro sd hsd
  dsimp only
  have hI : bh_I c (bh_E rf ct) 0 sd ro := ⟨(bh_cnt_0 36 hsd).symm, fun q hq => absurd hq (Nat.not_lt_zero q), fun i hi hd => absurd (hsd i hi) hd, fun S _ i hi hd => absurd (hsd i hi) hd⟩
  refine ⟨7, bh_regs h.2.2.1 ?_ 6 0 0 sd ro rfl hI (fun p hp => absurd hp (Nat.not_lt_zero p))⟩
  intro m sd so hI hp
  dsimp only
  refine ⟨37, bh_recs h.1 h.2.2.2 ?_ 36 0 m sd so rfl (Nat.zero_le m) hI hp (fun q hq => absurd hq (Nat.not_lt_zero q))⟩
  intro m M so hM
  dsimp only
  refine ⟨37, ?_⟩
  have := bh_rem14 (post := post) (rc := nI m) (rt := rt) (ft := ft) (M := M) (ro := so) h.1 (k (nI m) M so hM) 36 0 rfl
  rw [bh_keep_0] at this
  exact this
