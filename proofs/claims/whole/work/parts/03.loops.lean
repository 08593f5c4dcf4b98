/-! the loops of both sides against the pure pictures -/
theorem bs_le {c i : Nat} (h : c ≤ i) (hi : i ≤ 96) : nI c ≤ nI i := nI_le h (by omega)
theorem bs_ge {c i : Nat} (h : i < c) (hc : c ≤ 96) : ¬ nI c ≤ nI i := nI_ge h (by omega)
theorem bs_vi {x : Int32} (n : Nat) (e : x = nI n) (h : n < 96) : vp_in x 96 := by
  rw [e]; exact vp_in_nI h (by omega)
theorem bs_cl {x : Int32} (n : Nat) (e : x = nI n) (h : n < 96) : x.toNatClampNeg = n := by
  rw [e]; exact nI_clamp (by omega)
theorem bs_xon (post : SX → Prop) (f : Int32) (a : Nat → Int32) : ∀ (d i : Nat) (b : Nat → Int32), i + d = 3 → post (f, a, bs_on d i b) → wX_init_46 post f (d + 1) (nI i) a b := by
  intro d
  induction d with
  | zero => exact fun i b hi h => br_t (bs_le (c := 3) (by omega) (by omega)) h
  | succ d ih =>
    intro i b hi h
    refine br_f (bs_ge (c := 3) (by omega) (by omega)) ⟨vp_in_nI (by omega) (by omega), nm_r (e' := upd b i 1) ?_ (nm_r (nI_1 i) (ih (i + 1) (upd b i 1) (by omega) h))⟩
    rw [nI_clamp (by omega)]
theorem bs_yon (post : SY → Prop) (a : Nat → Int32) : ∀ (d i : Nat) (b : Nat → Int32), i + d = 3 → post (a, bs_on d i b) → wY_init_21 post (d + 1) (nI i) a b := by
  intro d
  induction d with
  | zero => exact fun i b hi h => br_t (bs_le (c := 3) (by omega) (by omega)) h
  | succ d ih =>
    intro i b hi h
    refine br_f (bs_ge (c := 3) (by omega) (by omega)) ⟨vp_in_nI (by omega) (by omega), nm_r (e' := upd b i 1) ?_ (nm_r (nI_1 i) (ih (i + 1) (upd b i 1) (by omega) h))⟩
    rw [nI_clamp (by omega)]
theorem bs_xfl (post : SX → Prop) (p : Nat) (hp : p + 4 ≤ 96) (v s f : Int32) (b : Nat → Int32) : ∀ (d i : Nat) (a : Nat → Int32), i + d = 4 → post (f, bs_fl p v s d i a, b) → wX_fillPlace_3 post (nI p) v s f (d + 1) (nI i) a b := by
  intro d
  induction d with
  | zero => exact fun i a hi h => br_t (bs_le (c := 4) (by omega) (by omega)) h
  | succ d ih =>
    intro i a hi h
    refine br_f (bs_ge (c := 4) (by omega) (by omega)) ⟨bs_vi (p + i) (nI_add p i) (by omega), nm_r (e' := upd a (p + i) (v + nI i * s)) ?_ (nm_r (nI_1 i) (ih (i + 1) (upd a (p + i) (v + nI i * s)) (by omega) h))⟩
    rw [bs_cl (p + i) (nI_add p i) (by omega)]
theorem bs_yfl (post : Int32 → SY → Prop) (g q : Nat) (hg : g < 3) (hq : q < 8) (v s : Int32) (b : Nat → Int32) : ∀ (d i : Nat) (a : Nat → Int32), i + d = 4 → post 0 (bs_fl (32 * g + 4 * q) v s d i a, b) → wY_fill_24 post (nI g) (nI q) v s (d + 1) (nI i) a b := by
  intro d
  induction d with
  | zero => exact fun i a hi h => br_t (bs_le (c := 4) (by omega) (by omega)) h
  | succ d ih =>
    intro i a hi h
    refine br_f (bs_ge (c := 4) (by omega) (by omega)) ⟨bs_vi (32 * g + 4 * q + i) (bs_pw g q i) (by omega), nm_r (e' := upd a (32 * g + 4 * q + i) (v + nI i * s)) ?_ (nm_r (nI_1 i) (ih (i + 1) (upd a (32 * g + 4 * q + i) (v + nI i * s)) (by omega) h))⟩
    rw [bs_cl (32 * g + 4 * q + i) (bs_pw g q i) (by omega)]
theorem bs_xcp (post : SX → Prop) (p q c : Nat) (hp : p + c ≤ 96) (hq : q + c ≤ 96) (f : Int32) (b : Nat → Int32) : ∀ (d i : Nat) (a : Nat → Int32), i + d = c → post (f, bs_cp p q d i a, b) → wX_copyWords_3 post (nI p) (nI q) (nI c) f (d + 1) (nI i) a b := by
  intro d
  induction d with
  | zero => exact fun i a hi h => br_t (bs_le (by omega) (by omega)) h
  | succ d ih =>
    intro i a hi h
    refine br_f (bs_ge (by omega) (by omega)) ⟨bs_vi (p + i) (nI_add p i) (by omega), bs_vi (q + i) (nI_add q i) (by omega), nm_r (e' := upd a (q + i) (a (p + i))) ?_ (nm_r (nI_1 i) (ih (i + 1) (upd a (q + i) (a (p + i))) (by omega) h))⟩
    rw [bs_cl (p + i) (nI_add p i) (by omega), bs_cl (q + i) (nI_add q i) (by omega)]
theorem bs_ycp (post : Int32 → SY → Prop) (g q e t : Nat) (hg : g < 3) (hq : q < 8) (he : e < 3) (ht : t < 8) (b : Nat → Int32) : ∀ (d i : Nat) (a : Nat → Int32), i + d = 4 → post 0 (bs_cp (32 * g + 4 * q) (32 * e + 4 * t) d i a, b) → wY_copy_41 post (nI g) (nI q) (nI e) (nI t) (d + 1) (nI i) a b := by
  intro d
  induction d with
  | zero => exact fun i a hi h => br_t (bs_le (c := 4) (by omega) (by omega)) h
  | succ d ih =>
    intro i a hi h
    refine br_f (bs_ge (c := 4) (by omega) (by omega)) ⟨bs_vi (32 * g + 4 * q + i) (bs_pw g q i) (by omega), bs_vi (32 * e + 4 * t + i) (bs_pw e t i) (by omega), nm_r (e' := upd a (32 * e + 4 * t + i) (a (32 * g + 4 * q + i))) ?_ (nm_r (nI_1 i) (ih (i + 1) (upd a (32 * e + 4 * t + i) (a (32 * g + 4 * q + i))) (by omega) h))⟩
    rw [bs_cl (32 * g + 4 * q + i) (bs_pw g q i) (by omega), bs_cl (32 * e + 4 * t + i) (bs_pw e t i) (by omega)]
theorem bs_ycg (post : Int32 → SY → Prop) (g e : Nat) (hg : g < 3) (he : e < 3) (b : Nat → Int32) : ∀ (d i : Nat) (a : Nat → Int32), i + d = 32 → post 0 (bs_cp (32 * g) (32 * e) d i a, b) → wY_cloneGuest_20 post (nI g) (nI e) (d + 1) (nI i) a b := by
  intro d
  induction d with
  | zero => exact fun i a hi h => br_t (bs_le (c := 32) (by omega) (by omega)) h
  | succ d ih =>
    intro i a hi h
    refine br_f (bs_ge (c := 32) (by omega) (by omega)) ⟨bs_vi (32 * g + i) (bs_w g i) (by omega), bs_vi (32 * e + i) (bs_w e i) (by omega), nm_r (e' := upd a (32 * e + i) (a (32 * g + i))) ?_ (nm_r (nI_1 i) (ih (i + 1) (upd a (32 * e + i) (a (32 * g + i))) (by omega) h))⟩
    rw [bs_cl (32 * g + i) (bs_w g i) (by omega), bs_cl (32 * e + i) (bs_w e i) (by omega)]
theorem bs_xsm (post : Int32 → Prop) (p : Nat) (hp : p + 4 ≤ 96) (f : Int32) (a b : Nat → Int32) : ∀ (d i : Nat) (t : Int32), i + d = 4 → post (bs_sm a p d i t) → wX_sum_28 post (nI p) f a b (d + 1) t (nI i) := by
  intro d
  induction d with
  | zero => exact fun i t hi h => br_t (bs_le (c := 4) (by omega) (by omega)) h
  | succ d ih =>
    intro i t hi h
    refine br_f (bs_ge (c := 4) (by omega) (by omega)) ⟨bs_vi (p + i) (nI_add p i) (by omega), nm_r (e' := t + a (p + i) * nI (i + 1)) ?_ (nm_r (nI_1 i) (ih (i + 1) (t + a (p + i) * nI (i + 1)) (by omega) h))⟩
    rw [bs_cl (p + i) (nI_add p i) (by omega), nI_1]
theorem bs_ysm (post : Int32 → Prop) (g q : Nat) (hg : g < 3) (hq : q < 8) (a b : Nat → Int32) : ∀ (d i : Nat) (t : Int32), i + d = 4 → post (bs_sm a (32 * g + 4 * q) d i t) → wY_sum_23 post (nI g) (nI q) a b (d + 1) t (nI i) := by
  intro d
  induction d with
  | zero => exact fun i t hi h => br_t (bs_le (c := 4) (by omega) (by omega)) h
  | succ d ih =>
    intro i t hi h
    refine br_f (bs_ge (c := 4) (by omega) (by omega)) ⟨bs_vi (32 * g + 4 * q + i) (bs_pw g q i) (by omega), nm_r (e' := t + a (32 * g + 4 * q + i) * nI (i + 1)) ?_ (nm_r (nI_1 i) (ih (i + 1) (t + a (32 * g + 4 * q + i) * nI (i + 1)) (by omega) h))⟩
    rw [bs_cl (32 * g + 4 * q + i) (bs_pw g q i) (by omega), nI_1, Int32.mul_comm]
theorem bs_xal2 (post : Int32 → Prop) (p q : Nat) (hp : p + 4 ≤ 96) (hq : q + 4 ≤ 96) (f : Int32) (a b : Nat → Int32) : ∀ d i : Nat, i + d = 4 → post (bs_al a p q d i) → wX_equalPlaces_2 post (nI p) (nI q) f a b (d + 1) (nI i) := by
  intro d
  induction d with
  | zero => exact fun i hi h => br_t (bs_le (c := 4) (by omega) (by omega)) h
  | succ d ih =>
    intro i hi h
    refine br_f (bs_ge (c := 4) (by omega) (by omega)) ⟨bs_vi (p + i) (nI_add p i) (by omega), bs_vi (q + i) (nI_add q i) (by omega), ?_⟩
    rw [bs_cl (p + i) (nI_add p i) (by omega), bs_cl (q + i) (nI_add q i) (by omega)]
    by_cases e : a (p + i) = a (q + i)
    · refine br_t e (nm_r (nI_1 i) (ih (i + 1) (by omega) ?_))
      simpa only [bs_al, if_pos e] using h
    · refine br_f e ?_
      simpa only [bs_al, if_neg e] using h
theorem bs_xal (post : Int32 → Prop) (p q : Nat) (hp : p + 4 ≤ 96) (hq : q + 4 ≤ 96) (f : Int32) (a b : Nat → Int32) (h : post (bs_al a p q 4 0)) : wpX_equalPlaces post (f, a, b) (nI p) (nI q) :=
  ⟨5, bs_xal2 post p q hp hq f a b 4 0 rfl h⟩
theorem bs_yal2 (post : Int32 → Prop) (x y : Nat) (hx : x < 24) (hy : y < 24) (a b : Nat → Int32) : ∀ d i : Nat, i + d = 4 → post (bs_al a (4 * x) (4 * y) d i) → wY_alike_2 post (nI x) (nI y) a b (d + 1) (nI i) := by
  intro d
  induction d with
  | zero => exact fun i hi h => br_t (bs_le (c := 4) (by omega) (by omega)) h
  | succ d ih =>
    intro i hi h
    refine br_f (bs_ge (c := 4) (by omega) (by omega)) ⟨bs_vi (4 * x + i) (bs_4w x i) (by omega), bs_vi (4 * y + i) (bs_4w y i) (by omega), ?_⟩
    rw [bs_cl (4 * x + i) (bs_4w x i) (by omega), bs_cl (4 * y + i) (bs_4w y i) (by omega)]
    by_cases e : a (4 * x + i) = a (4 * y + i)
    · refine br_t e (nm_r (nI_1 i) (ih (i + 1) (by omega) ?_))
      simpa only [bs_al, if_pos e] using h
    · refine br_f e ?_
      simpa only [bs_al, if_neg e] using h
theorem bs_yal (post : Int32 → Prop) (x y p q : Nat) (hx : x < 24) (hy : y < 24) (hp : 4 * x = p) (hq : 4 * y = q) (a b : Nat → Int32) (h : post (bs_al a p q 4 0)) : wpY_alike post (a, b) (nI x) (nI y) := by
  subst hp hq
  exact ⟨5, bs_yal2 post x y hx hy a b 4 0 rfl h⟩
