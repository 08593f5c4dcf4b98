/-! counting: X's countEqual, contents; Y's contents, twins -/
theorem bs_n4 (o : Nat) : nI o + 4 = nI (o + 4) := nI_add o 4
theorem bs_ct0 {a : Nat → Int32} {p d o : Nat} (z : bs_al a p o 4 0 = 0) : bs_ct a p (d + 1) o = bs_ct a p d (o + 4) := by
  simp only [bs_ct, if_pos z]; omega
theorem bs_ct1 {a : Nat → Int32} {p d o : Nat} (z : ¬ bs_al a p o 4 0 = 0) : bs_ct a p (d + 1) o = bs_ct a p d (o + 4) + 1 := by
  simp only [bs_ct, if_neg z]; omega
theorem bs_xct (post : Int32 → Prop) (p e : Nat) (hp : p + 4 ≤ 96) (he : e ≤ 96) (f : Int32) (a b : Nat → Int32) : ∀ d c o : Nat, o + 4 * d = e → post (nI (c + bs_ct a p d o)) → wX_countEqual_6 post (nI p) (nI e) f a b (d + 1) (nI c) (nI o) := by
  intro d
  induction d with
  | zero => exact fun c o ho h => br_t (bs_le (by omega) (by omega)) h
  | succ d ih =>
    intro c o ho h
    refine br_f (bs_ge (by omega) (by omega)) (bs_xal _ p o hp (by omega) f a b ?_)
    by_cases z : bs_al a p o 4 0 = 0
    · refine br_t z (nm_r (bs_n4 o) (ih c (o + 4) (by omega) ?_))
      rw [bs_ct0 z] at h
      exact h
    · refine br_f z (nm_r (nI_1 c) (nm_r (bs_n4 o) (ih (c + 1) (o + 4) (by omega) ?_)))
      rw [bs_ct1 z, Nat.add_comm _ 1, ← Nat.add_assoc] at h
      exact h
theorem bs_xce (post : Int32 → Prop) (p o d : Nat) (hp : p + 4 ≤ 96) (ho : o + 4 * d ≤ 96) (f : Int32) (a b : Nat → Int32) (h : post (nI (bs_ct a p d o))) : wpX_countEqual post (f, a, b) (nI p) (nI o) (nI (o + 4 * d)) :=
  ⟨d + 1, bs_xct post p (o + 4 * d) hp ho f a b d 0 o rfl (by rw [Nat.zero_add]; exact h)⟩
theorem bs_co0 {a : Nat → Int32} {r d j : Nat} (z : bs_ct a (r + 4 * j) j r = 0) : bs_co a r (d + 1) j = bs_co a r d (j + 1) + 1 := by
  simp only [bs_co, if_pos z]; omega
theorem bs_co1 {a : Nat → Int32} {r d j : Nat} (z : ¬ bs_ct a (r + 4 * j) j r = 0) : bs_co a r (d + 1) j = bs_co a r d (j + 1) := by
  simp only [bs_co, if_neg z]; omega
theorem bs_xco (post : Int32 → Prop) (r : Nat) (hr : r + 32 ≤ 96) (f : Int32) (a b : Nat → Int32) : ∀ d c j : Nat, j + d = 8 → post (nI (c + bs_co a r d j)) → wX_contents_19 post (nI r) f a b (d + 1) (nI c) (nI j) := by
  intro d
  induction d with
  | zero => exact fun c j hj h => br_t (bs_le (c := 8) (by omega) (by omega)) h
  | succ d ih =>
    intro c j hj h
    refine br_f (bs_ge (c := 8) (by omega) (by omega)) (nm_r (e' := nI (r + 4 * j)) (by rw [bs_g4, nI_add]) (bs_xce _ (r + 4 * j) r j (by omega) (by omega) f a b ?_))
    by_cases z : bs_ct a (r + 4 * j) j r = 0
    · refine br_t (by rw [z]; exact nI_0) (nm_r (nI_1 c) (nm_r (nI_1 j) (ih (c + 1) (j + 1) (by omega) ?_)))
      rw [bs_co0 z, Nat.add_comm _ 1, ← Nat.add_assoc] at h
      exact h
    · have hb := bs_ctB a (r + 4 * j) j r
      refine br_f (nI_ne0 (by omega) (by omega)) (nm_r (nI_1 j) (ih c (j + 1) (by omega) ?_))
      rw [bs_co1 z] at h
      exact h
theorem bs_yc2 (post : Int32 → Prop) (J : Int32 → Int32 → Prop) (g c j : Nat) (hg : g < 3) (hj : j < 8) (a b : Nat → Int32) : ∀ (d q : Nat) (z : Int32), q + d = j →
    ((z = 0 ∨ ¬ bs_ct a (32 * g + 4 * j) d (32 * g + 4 * q) = 0) → J (nI c) (nI (j + 1))) →
    (¬ z = 0 → bs_ct a (32 * g + 4 * j) d (32 * g + 4 * q) = 0 → J (nI (c + 1)) (nI (j + 1))) →
    wY_contents_26 post J (nI g) (nI c) (nI j) a b (d + 1) z (nI q) := by
  intro d
  induction d with
  | zero =>
    intro q z hq h0 h1
    exact br_t (bs_le (by omega) (by omega)) (br_c (fun hz => nm_r (nI_1 j) (h0 (Or.inl hz))) (fun hz => nm_r (nI_1 c) (nm_r (nI_1 j) (h1 hz rfl))))
  | succ d ih =>
    intro q z hq h0 h1
    have e4 : 32 * g + 4 * q + 4 = 32 * g + 4 * (q + 1) := by omega
    refine br_f (bs_ge (by omega) (by omega)) ?_
    rw [bs_q g j, bs_q g q]
    refine bs_yal _ (8 * g + j) (8 * g + q) (32 * g + 4 * j) (32 * g + 4 * q) (by omega) (by omega) (by omega) (by omega) a b ?_
    by_cases w : bs_al a (32 * g + 4 * j) (32 * g + 4 * q) 4 0 = 0
    · rw [bs_ct0 w, e4] at h0 h1
      exact br_t w (nm_r (nI_1 q) (ih (q + 1) z (by omega) h0 h1))
    · rw [bs_ct1 w] at h0
      exact br_f w (nm_r (nI_1 q) (ih (q + 1) 0 (by omega) (fun _ => h0 (Or.inr (by omega))) (fun y => absurd rfl y)))
theorem bs_yco (post : Int32 → Prop) (g : Nat) (hg : g < 3) (a b : Nat → Int32) : ∀ d c j : Nat, j + d = 8 → post (nI (c + bs_co a (32 * g) d j)) → wY_contents_14 post (nI g) a b (d + 1) (nI c) (nI j) := by
  intro d
  induction d with
  | zero => exact fun c j hj h => br_t (bs_le (c := 8) (by omega) (by omega)) h
  | succ d ih =>
    intro c j hj h
    refine br_f (bs_ge (c := 8) (by omega) (by omega)) ⟨j + 1, bs_yc2 post _ g c j hg (by omega) a b j 0 1 (by omega) (fun hz => ?_) (fun _ hz => ?_)⟩
    · have hz' : ¬ bs_ct a (32 * g + 4 * j) j (32 * g) = 0 := hz.resolve_left bs_10
      rw [bs_co1 hz'] at h
      exact ih c (j + 1) (by omega) h
    · have hz' : bs_ct a (32 * g + 4 * j) j (32 * g) = 0 := hz
      rw [bs_co0 hz', Nat.add_comm _ 1, ← Nat.add_assoc] at h
      exact ih (c + 1) (j + 1) (by omega) h
theorem bs_ytw (post : Int32 → Prop) (g q : Nat) (hg : g < 3) (hq : q < 8) (a b : Nat → Int32) : ∀ d c o : Nat, o + d = 24 → post (nI (c + bs_ct a (32 * g + 4 * q) d (4 * o))) → wY_twins_26 post (nI g) (nI q) a b (d + 1) (nI c) (nI o) := by
  intro d
  induction d with
  | zero => exact fun c o ho h => br_t (bs_le (c := 24) (by omega) (by omega)) h
  | succ d ih =>
    intro c o ho h
    have e4 : 4 * o + 4 = 4 * (o + 1) := by omega
    refine br_f (bs_ge (c := 24) (by omega) (by omega)) ?_
    rw [bs_q g q]
    refine bs_yal _ (8 * g + q) o (32 * g + 4 * q) (4 * o) (by omega) (by omega) (by omega) (by omega) a b ?_
    by_cases z : bs_al a (32 * g + 4 * q) (4 * o) 4 0 = 0
    · refine br_t z (nm_r (nI_1 o) (ih c (o + 1) (by omega) ?_))
      rw [bs_ct0 z, e4] at h
      exact h
    · refine br_f z (nm_r (nI_1 c) (nm_r (nI_1 o) (ih (c + 1) (o + 1) (by omega) ?_)))
      rw [bs_ct1 z, e4, Nat.add_comm _ 1, ← Nat.add_assoc] at h
      exact h
