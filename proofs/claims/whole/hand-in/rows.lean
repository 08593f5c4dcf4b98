section
/-! rows of kit/rows, pasted; then the pure pictures -/
theorem pk_us {f : Nat → Int32} {k : Nat} {x : Int32} : upd f k x k = x := if_pos rfl
theorem pk_un {f : Nat → Int32} {k j : Nat} {x : Int32} (h : j ≠ k) : upd f k x j = f j := if_neg h
theorem pk_mul (a b : Nat) : nI a * nI b = nI (a * b) := (Int32.ofNat_mul a b).symm
theorem pk_ix (x : Int32) {n : Nat} (hn : n < 2 ^ 31) : x < 0 ∨ nI n ≤ x ∨ ∃ j : Nat, j < n ∧ x = nI j := by
  by_cases h : x < 0
  · exact Or.inl h
  · obtain ⟨j, hj, rfl⟩ := nI_of h
    by_cases h2 : j < n
    · exact Or.inr (Or.inr ⟨j, h2, rfl⟩)
    · exact Or.inr (Or.inl (nI_le (by omega) hj))
theorem pk_le {x y : Int32} {A B : Prop} (a b : Nat) (f : a ≤ b → A) (g : b < a → B) (hx : x = nI a := by rfl) (hy : y = nI b := by rfl) (ha : a < 2 ^ 31 := by omega) (hb : b < 2 ^ 31 := by omega) : (x ≤ y → A) ∧ (¬ x ≤ y → B) := by
  subst hx hy
  rw [nI_leI ha hb]
  exact ⟨f, fun z => g (by omega)⟩
theorem pk_lt {x y : Int32} {A B : Prop} (a b : Nat) (f : a < b → A) (g : b ≤ a → B) (hx : x = nI a := by rfl) (hy : y = nI b := by rfl) (ha : a < 2 ^ 31 := by omega) (hb : b < 2 ^ 31 := by omega) : (x < y → A) ∧ (¬ x < y → B) := by
  subst hx hy
  rw [nI_ltI ha hb]
  exact ⟨f, fun z => g (by omega)⟩
theorem pk_eq {x y : Int32} {A B : Prop} (a b : Nat) (f : a = b → A) (g : a ≠ b → B) (hx : x = nI a := by rfl) (hy : y = nI b := by rfl) (ha : a < 2 ^ 31 := by omega) (hb : b < 2 ^ 31 := by omega) : (x = y → A) ∧ (¬ x = y → B) := by
  subst hx hy
  rw [nI_eq ha hb]
  exact ⟨f, g⟩
theorem pk_in {x : Int32} (n N : Nat) (h : n < N) (hx : x = nI n := by rfl) (hN : N < 2 ^ 31 := by omega) : vp_in x N := by
  subst hx
  exact vp_in_nI h hN
theorem pk_cl {x : Int32} (n : Nat) (hx : x = nI n := by rfl) (h : n < 2 ^ 31 := by omega) : x.toNatClampNeg = n := by
  subst hx
  exact nI_clamp h
/-- x is the number of a thing below n -/
def bs_in (n : Nat) (x : Int32) : Prop := ∃ j : Nat, j < n ∧ x = nI j
theorem bs_ni {n : Nat} {x : Int32} (h : ¬ bs_in n x) : x < 0 ∨ ∃ j : Nat, j < 2 ^ 31 ∧ n ≤ j ∧ x = nI j := by
  by_cases h0 : x < 0
  · exact Or.inl h0
  · obtain ⟨j, hj, rfl⟩ := nI_of h0
    by_cases hn : j < n
    · exact absurd ⟨j, hn, rfl⟩ h
    · exact Or.inr ⟨j, hj, by omega, rfl⟩
theorem bs_w (g i : Nat) : nI g * 32 + nI i = nI (32 * g + i) := by
  show nI g * nI 32 + nI i = _
  rw [pk_mul, nI_add, Nat.mul_comm]
theorem bs_g32 (g : Nat) : nI g * 32 = nI (32 * g) := by
  show nI g * nI 32 = _
  rw [pk_mul, Nat.mul_comm]
theorem bs_g4 (g : Nat) : nI g * 4 = nI (4 * g) := by
  show nI g * nI 4 = _
  rw [pk_mul, Nat.mul_comm]
theorem bs_g8 (g : Nat) : nI g * 8 = nI (8 * g) := by
  show nI g * nI 8 = _
  rw [pk_mul, Nat.mul_comm]
theorem bs_p (g q : Nat) : nI g * 32 + nI q * 4 = nI (32 * g + 4 * q) := by
  rw [bs_g32, bs_g4, nI_add]
theorem bs_pw (g q i : Nat) : nI g * 32 + nI q * 4 + nI i = nI (32 * g + 4 * q + i) := by
  rw [bs_p, nI_add]
theorem bs_q (g q : Nat) : nI g * 8 + nI q = nI (8 * g + q) := by
  rw [bs_g8, nI_add]
theorem bs_4w (q i : Nat) : nI q * 4 + nI i = nI (4 * q + i) := by
  rw [bs_g4, nI_add]
/-- the array when d words more are filled, from the word i on -/
def bs_fl (p : Nat) (v s : Int32) : Nat → Nat → (Nat → Int32) → (Nat → Int32)
  | 0, _, a => a
  | d + 1, i, a => bs_fl p v s d (i + 1) (upd a (p + i) (v + nI i * s))
/-- the array when d words more are copied, from the word i on -/
def bs_cp (p q : Nat) : Nat → Nat → (Nat → Int32) → (Nat → Int32)
  | 0, _, a => a
  | d + 1, i, a => bs_cp p q d (i + 1) (upd a (q + i) (a (p + i)))
/-- are the d words from i on of the pages at p and q equal? -/
def bs_al (a : Nat → Int32) (p q : Nat) : Nat → Nat → Int32
  | 0, _ => 1
  | d + 1, i => if a (p + i) = a (q + i) then bs_al a p q d (i + 1) else 0
theorem bs_al01 (a : Nat → Int32) (p q : Nat) : ∀ d i : Nat, bs_al a p q d i = 0 ∨ bs_al a p q d i = 1 := by
  intro d
  induction d with
  | zero => exact fun _ => Or.inr rfl
  | succ d ih =>
    intro i
    by_cases h : a (p + i) = a (q + i)
    · simp only [bs_al, if_pos h]; exact ih (i + 1)
    · simp only [bs_al, if_neg h]; exact Or.inl (by trivial)
/-- how many of the d pages from the page at f on equal the page at p -/
def bs_ct (a : Nat → Int32) (p : Nat) : Nat → Nat → Nat
  | 0, _ => 0
  | d + 1, f => (if bs_al a p f 4 0 = 0 then 0 else 1) + bs_ct a p d (f + 4)
theorem bs_ctB (a : Nat → Int32) (p : Nat) : ∀ d f : Nat, bs_ct a p d f ≤ d := by
  intro d
  induction d with
  | zero => exact fun _ => Nat.le_refl 0
  | succ d ih =>
    intro f
    have h := ih (f + 4)
    simp only [bs_ct]
    split <;> omega
/-- how many of the d pages from the page j of the guest at b on are the first of their content -/
def bs_co (a : Nat → Int32) (b : Nat) : Nat → Nat → Nat
  | 0, _ => 0
  | d + 1, j => (if bs_ct a (b + 4 * j) j b = 0 then 1 else 0) + bs_co a b d (j + 1)
/-- the sum of d words more, from the word i on -/
def bs_sm (a : Nat → Int32) (p : Nat) : Nat → Nat → Int32 → Int32
  | 0, _, t => t
  | d + 1, i, t => bs_sm a p d (i + 1) (t + a (p + i) * nI (i + 1))
/-- the shares when d more are set to 1, from the guest i on -/
def bs_on : Nat → Nat → (Nat → Int32) → (Nat → Int32)
  | 0, _, b => b
  | d + 1, i, b => bs_on d (i + 1) (upd b i 1)
end
section
/-! the small methods: is it a guest, a page, a word; the refusals; the place -/
theorem bs_gt (post : Int32 → Prop) {g : Nat} (hg : g < 3) (h : post 1) : wpX_isGuest post (nI g) :=
  br_f (nI_pos (by omega)) (br_f (nI_ge (b := 3) hg (by decide)) h)
theorem bs_gf (post : Int32 → Prop) {x : Int32} (hx : ¬ bs_in 3 x) (h : post 0) : wpX_isGuest post x := by
  rcases bs_ni hx with h0 | ⟨j, hj, h3, rfl⟩
  · exact br_t h0 h
  · exact br_f (nI_pos hj) (br_t (nI_le (a := 3) h3 hj) h)
theorem bs_pt (post : Int32 → Prop) {g : Nat} (hg : g < 8) (h : post 1) : wpX_isPage post (nI g) :=
  br_f (nI_pos (by omega)) (br_f (nI_ge (b := 8) hg (by decide)) h)
theorem bs_pf (post : Int32 → Prop) {x : Int32} (hx : ¬ bs_in 8 x) (h : post 0) : wpX_isPage post x := by
  rcases bs_ni hx with h0 | ⟨j, hj, h3, rfl⟩
  · exact br_t h0 h
  · exact br_f (nI_pos hj) (br_t (nI_le (a := 8) h3 hj) h)
theorem bs_wt (post : Int32 → Prop) {g : Nat} (hg : g < 32) (h : post 1) : wpX_isWord post (nI g) :=
  br_f (nI_pos (by omega)) (br_f (nI_ge (b := 32) hg (by decide)) h)
theorem bs_wf (post : Int32 → Prop) {x : Int32} (hx : ¬ bs_in 32 x) (h : post 0) : wpX_isWord post x := by
  rcases bs_ni hx with h0 | ⟨j, hj, h3, rfl⟩
  · exact br_t h0 h
  · exact br_f (nI_pos hj) (br_t (nI_le (a := 32) h3 hj) h)
theorem bs_ygt (post : Int32 → Prop) (a b : Nat → Int32) {g : Nat} (hg : g < 3) (h : post 0) : wpY_badGuest post (a, b) (nI g) :=
  br_f (nI_pos (by omega)) (br_t (nI_le (b := 2) (by omega) (by decide)) h)
theorem bs_ygf (post : Int32 → Prop) (a b : Nat → Int32) {x : Int32} (hx : ¬ bs_in 3 x) (h : post 1) : wpY_badGuest post (a, b) x := by
  rcases bs_ni hx with h0 | ⟨j, hj, h3, rfl⟩
  · exact br_t h0 h
  · exact br_f (nI_pos hj) (br_f (nI_ge (a := 2) (by omega) hj) h)
theorem bs_ypt (post : Int32 → Prop) (a b : Nat → Int32) {g : Nat} (hg : g < 8) (h : post 0) : wpY_badPage post (a, b) (nI g) :=
  br_f (nI_pos (by omega)) (br_t (nI_le (b := 7) (by omega) (by decide)) h)
theorem bs_ypf (post : Int32 → Prop) (a b : Nat → Int32) {x : Int32} (hx : ¬ bs_in 8 x) (h : post 1) : wpY_badPage post (a, b) x := by
  rcases bs_ni hx with h0 | ⟨j, hj, h3, rfl⟩
  · exact br_t h0 h
  · exact br_f (nI_pos hj) (br_f (nI_ge (a := 7) (by omega) hj) h)
/-- the reference's own test of a word -/
theorem bs_ywt {A B : Prop} {w : Nat} (hw : w < 32) (h : A) : (nI w < 0 → B) ∧ (¬ nI w < 0 → ((nI w ≤ 31 → A) ∧ (¬ nI w ≤ 31 → B))) :=
  br_f (nI_pos (by omega)) (br_t (nI_le (b := 31) (by omega) (by decide)) h)
theorem bs_ywf {A B : Prop} {x : Int32} (hx : ¬ bs_in 32 x) (h : B) : (x < 0 → B) ∧ (¬ x < 0 → ((x ≤ 31 → A) ∧ (¬ x ≤ 31 → B))) := by
  rcases bs_ni hx with h0 | ⟨j, hj, h3, rfl⟩
  · exact br_t h0 h
  · exact br_f (nI_pos hj) (br_f (nI_ge (a := 31) (by omega) hj) h)
theorem bs_10 : ¬ (1 : Int32) = 0 := by decide
theorem bs_m1 : ¬ (-1 : Int32) = 0 := by decide
theorem bs_m2 : ¬ (-2 : Int32) = 0 := by decide
theorem bs_rg (post : Int32 → Prop) {a b c d : Int32} (hx : ¬ (bs_in 3 a ∧ bs_in 3 c)) (h : post (-1)) : wpX_refusalOfPair post a b c d := by
  unfold wpX_refusalOfPair
  by_cases ha : bs_in 3 a
  · obtain ⟨g, hg, rfl⟩ := ha
    have hc : ¬ bs_in 3 c := fun z => hx ⟨⟨g, hg, rfl⟩, z⟩
    exact bs_gt _ hg (br_f bs_10 (bs_gf _ hc (br_t rfl h)))
  · exact bs_gf _ ha (br_t rfl h)
theorem bs_rp (post : Int32 → Prop) {g e : Nat} {b d : Int32} (hg : g < 3) (he : e < 3) (hx : ¬ (bs_in 8 b ∧ bs_in 8 d)) (h : post (-2)) : wpX_refusalOfPair post (nI g) b (nI e) d := by
  unfold wpX_refusalOfPair
  refine bs_gt _ hg (br_f bs_10 (bs_gt _ he (br_f bs_10 ?_)))
  by_cases hb : bs_in 8 b
  · obtain ⟨q, hq, rfl⟩ := hb
    have hc : ¬ bs_in 8 d := fun z => hx ⟨⟨q, hq, rfl⟩, z⟩
    exact bs_pt _ hq (br_f bs_10 (bs_pf _ hc (br_t rfl h)))
  · exact bs_pf _ hb (br_t rfl h)
theorem bs_r0 (post : Int32 → Prop) {g e q t : Nat} (hg : g < 3) (he : e < 3) (hq : q < 8) (ht : t < 8) (h : post 0) : wpX_refusalOfPair post (nI g) (nI q) (nI e) (nI t) := by
  unfold wpX_refusalOfPair
  exact bs_gt _ hg (br_f bs_10 (bs_gt _ he (br_f bs_10 (bs_pt _ hq (br_f bs_10 (bs_pt _ ht (br_f bs_10 h)))))))
theorem bs_og (post : Int32 → Prop) {x y : Int32} (hx : ¬ bs_in 3 x) (h : post (-1)) : wpX_refusalOf post x y := by
  unfold wpX_refusalOf
  exact bs_rg _ (fun z => hx z.1) h
theorem bs_op (post : Int32 → Prop) {g : Nat} {y : Int32} (hg : g < 3) (hy : ¬ bs_in 8 y) (h : post (-2)) : wpX_refusalOf post (nI g) y := by
  unfold wpX_refusalOf
  exact bs_rp _ hg hg (fun z => hy z.1) h
theorem bs_o0 (post : Int32 → Prop) {g q : Nat} (hg : g < 3) (hq : q < 8) (h : post 0) : wpX_refusalOf post (nI g) (nI q) := by
  unfold wpX_refusalOf
  exact bs_r0 _ hg hg hq hq h
theorem bs_pl (post : Int32 → Prop) (g q : Nat) (h : post (nI (32 * g + 4 * q))) : wpX_placeOf post (nI g) (nI q) := by
  unfold wpX_placeOf
  rw [bs_p]
  exact h
end
section
/-! the loops of both sides against the pure pictures -/
theorem bs_le {c i : Nat} (h : c ≤ i) (hi : i ≤ 96) : nI c ≤ nI i := nI_le h (by omega)
theorem bs_ge {c i : Nat} (h : i < c) (hc : c ≤ 96) : ¬ nI c ≤ nI i := nI_ge h (by omega)
theorem bs_vi {x : Int32} (n : Nat) (e : x = nI n) (h : n < 96) : vp_in x 96 := by
  rw [e]; exact vp_in_nI h (by omega)
theorem bs_cl {x : Int32} (n : Nat) (e : x = nI n) (h : n < 96) : x.toNatClampNeg = n := by
  rw [e]; exact nI_clamp (by omega)
theorem bs_xon (post : SX → Prop) (f : Int32) (a : Nat → Int32) : ∀ (d i : Nat) (b : Nat → Int32), i + d = 3 → post (f, a, bs_on d i b) → wX_init_46 post f (d + 1) (nI i) a b := by
  intro d
  induction d with
  | zero => exact fun i b hi h => br_t (bs_le (c := 3) (by omega) (by omega)) h
  | succ d ih =>
    intro i b hi h
    refine br_f (bs_ge (c := 3) (by omega) (by omega)) ⟨vp_in_nI (by omega) (by omega), nm_r (e' := upd b i 1) ?_ (nm_r (nI_1 i) (ih (i + 1) (upd b i 1) (by omega) h))⟩
    rw [nI_clamp (by omega)]
theorem bs_yon (post : SY → Prop) (a : Nat → Int32) : ∀ (d i : Nat) (b : Nat → Int32), i + d = 3 → post (a, bs_on d i b) → wY_init_21 post (d + 1) (nI i) a b := by
  intro d
  induction d with
  | zero => exact fun i b hi h => br_t (bs_le (c := 3) (by omega) (by omega)) h
  | succ d ih =>
    intro i b hi h
    refine br_f (bs_ge (c := 3) (by omega) (by omega)) ⟨vp_in_nI (by omega) (by omega), nm_r (e' := upd b i 1) ?_ (nm_r (nI_1 i) (ih (i + 1) (upd b i 1) (by omega) h))⟩
    rw [nI_clamp (by omega)]
theorem bs_xfl (post : SX → Prop) (p : Nat) (hp : p + 4 ≤ 96) (v s f : Int32) (b : Nat → Int32) : ∀ (d i : Nat) (a : Nat → Int32), i + d = 4 → post (f, bs_fl p v s d i a, b) → wX_fillPlace_3 post (nI p) v s f (d + 1) (nI i) a b := by
  intro d
  induction d with
  | zero => exact fun i a hi h => br_t (bs_le (c := 4) (by omega) (by omega)) h
  | succ d ih =>
    intro i a hi h
    refine br_f (bs_ge (c := 4) (by omega) (by omega)) ⟨bs_vi (p + i) (nI_add p i) (by omega), nm_r (e' := upd a (p + i) (v + nI i * s)) ?_ (nm_r (nI_1 i) (ih (i + 1) (upd a (p + i) (v + nI i * s)) (by omega) h))⟩
    rw [bs_cl (p + i) (nI_add p i) (by omega)]
theorem bs_yfl (post : Int32 → SY → Prop) (g q : Nat) (hg : g < 3) (hq : q < 8) (v s : Int32) (b : Nat → Int32) : ∀ (d i : Nat) (a : Nat → Int32), i + d = 4 → post 0 (bs_fl (32 * g + 4 * q) v s d i a, b) → wY_fill_24 post (nI g) (nI q) v s (d + 1) (nI i) a b := by
  intro d
  induction d with
  | zero => exact fun i a hi h => br_t (bs_le (c := 4) (by omega) (by omega)) h
  | succ d ih =>
    intro i a hi h
    refine br_f (bs_ge (c := 4) (by omega) (by omega)) ⟨bs_vi (32 * g + 4 * q + i) (bs_pw g q i) (by omega), nm_r (e' := upd a (32 * g + 4 * q + i) (v + nI i * s)) ?_ (nm_r (nI_1 i) (ih (i + 1) (upd a (32 * g + 4 * q + i) (v + nI i * s)) (by omega) h))⟩
    rw [bs_cl (32 * g + 4 * q + i) (bs_pw g q i) (by omega)]
theorem bs_xcp (post : SX → Prop) (p q c : Nat) (hp : p + c ≤ 96) (hq : q + c ≤ 96) (f : Int32) (b : Nat → Int32) : ∀ (d i : Nat) (a : Nat → Int32), i + d = c → post (f, bs_cp p q d i a, b) → wX_copyWords_3 post (nI p) (nI q) (nI c) f (d + 1) (nI i) a b := by
  intro d
  induction d with
  | zero => exact fun i a hi h => br_t (bs_le (by omega) (by omega)) h
  | succ d ih =>
    intro i a hi h
    refine br_f (bs_ge (by omega) (by omega)) ⟨bs_vi (p + i) (nI_add p i) (by omega), bs_vi (q + i) (nI_add q i) (by omega), nm_r (e' := upd a (q + i) (a (p + i))) ?_ (nm_r (nI_1 i) (ih (i + 1) (upd a (q + i) (a (p + i))) (by omega) h))⟩
    rw [bs_cl (p + i) (nI_add p i) (by omega), bs_cl (q + i) (nI_add q i) (by omega)]
theorem bs_ycp (post : Int32 → SY → Prop) (g q e t : Nat) (hg : g < 3) (hq : q < 8) (he : e < 3) (ht : t < 8) (b : Nat → Int32) : ∀ (d i : Nat) (a : Nat → Int32), i + d = 4 → post 0 (bs_cp (32 * g + 4 * q) (32 * e + 4 * t) d i a, b) → wY_copy_41 post (nI g) (nI q) (nI e) (nI t) (d + 1) (nI i) a b := by
  intro d
  induction d with
  | zero => exact fun i a hi h => br_t (bs_le (c := 4) (by omega) (by omega)) h
  | succ d ih =>
    intro i a hi h
    refine br_f (bs_ge (c := 4) (by omega) (by omega)) ⟨bs_vi (32 * g + 4 * q + i) (bs_pw g q i) (by omega), bs_vi (32 * e + 4 * t + i) (bs_pw e t i) (by omega), nm_r (e' := upd a (32 * e + 4 * t + i) (a (32 * g + 4 * q + i))) ?_ (nm_r (nI_1 i) (ih (i + 1) (upd a (32 * e + 4 * t + i) (a (32 * g + 4 * q + i))) (by omega) h))⟩
    rw [bs_cl (32 * g + 4 * q + i) (bs_pw g q i) (by omega), bs_cl (32 * e + 4 * t + i) (bs_pw e t i) (by omega)]
theorem bs_ycg (post : Int32 → SY → Prop) (g e : Nat) (hg : g < 3) (he : e < 3) (b : Nat → Int32) : ∀ (d i : Nat) (a : Nat → Int32), i + d = 32 → post 0 (bs_cp (32 * g) (32 * e) d i a, b) → wY_cloneGuest_20 post (nI g) (nI e) (d + 1) (nI i) a b := by
  intro d
  induction d with
  | zero => exact fun i a hi h => br_t (bs_le (c := 32) (by omega) (by omega)) h
  | succ d ih =>
    intro i a hi h
    refine br_f (bs_ge (c := 32) (by omega) (by omega)) ⟨bs_vi (32 * g + i) (bs_w g i) (by omega), bs_vi (32 * e + i) (bs_w e i) (by omega), nm_r (e' := upd a (32 * e + i) (a (32 * g + i))) ?_ (nm_r (nI_1 i) (ih (i + 1) (upd a (32 * e + i) (a (32 * g + i))) (by omega) h))⟩
    rw [bs_cl (32 * g + i) (bs_w g i) (by omega), bs_cl (32 * e + i) (bs_w e i) (by omega)]
theorem bs_xsm (post : Int32 → Prop) (p : Nat) (hp : p + 4 ≤ 96) (f : Int32) (a b : Nat → Int32) : ∀ (d i : Nat) (t : Int32), i + d = 4 → post (bs_sm a p d i t) → wX_sum_28 post (nI p) f a b (d + 1) t (nI i) := by
  intro d
  induction d with
  | zero => exact fun i t hi h => br_t (bs_le (c := 4) (by omega) (by omega)) h
  | succ d ih =>
    intro i t hi h
    refine br_f (bs_ge (c := 4) (by omega) (by omega)) ⟨bs_vi (p + i) (nI_add p i) (by omega), nm_r (e' := t + a (p + i) * nI (i + 1)) ?_ (nm_r (nI_1 i) (ih (i + 1) (t + a (p + i) * nI (i + 1)) (by omega) h))⟩
    rw [bs_cl (p + i) (nI_add p i) (by omega), nI_1]
theorem bs_ysm (post : Int32 → Prop) (g q : Nat) (hg : g < 3) (hq : q < 8) (a b : Nat → Int32) : ∀ (d i : Nat) (t : Int32), i + d = 4 → post (bs_sm a (32 * g + 4 * q) d i t) → wY_sum_23 post (nI g) (nI q) a b (d + 1) t (nI i) := by
  intro d
  induction d with
  | zero => exact fun i t hi h => br_t (bs_le (c := 4) (by omega) (by omega)) h
  | succ d ih =>
    intro i t hi h
    refine br_f (bs_ge (c := 4) (by omega) (by omega)) ⟨bs_vi (32 * g + 4 * q + i) (bs_pw g q i) (by omega), nm_r (e' := t + a (32 * g + 4 * q + i) * nI (i + 1)) ?_ (nm_r (nI_1 i) (ih (i + 1) (t + a (32 * g + 4 * q + i) * nI (i + 1)) (by omega) h))⟩
    rw [bs_cl (32 * g + 4 * q + i) (bs_pw g q i) (by omega), nI_1, Int32.mul_comm]
theorem bs_xal2 (post : Int32 → Prop) (p q : Nat) (hp : p + 4 ≤ 96) (hq : q + 4 ≤ 96) (f : Int32) (a b : Nat → Int32) : ∀ d i : Nat, i + d = 4 → post (bs_al a p q d i) → wX_equalPlaces_2 post (nI p) (nI q) f a b (d + 1) (nI i) := by
  intro d
  induction d with
  | zero => exact fun i hi h => br_t (bs_le (c := 4) (by omega) (by omega)) h
  | succ d ih =>
    intro i hi h
    refine br_f (bs_ge (c := 4) (by omega) (by omega)) ⟨bs_vi (p + i) (nI_add p i) (by omega), bs_vi (q + i) (nI_add q i) (by omega), ?_⟩
    rw [bs_cl (p + i) (nI_add p i) (by omega), bs_cl (q + i) (nI_add q i) (by omega)]
    by_cases e : a (p + i) = a (q + i)
    · refine br_t e (nm_r (nI_1 i) (ih (i + 1) (by omega) ?_))
      simpa only [bs_al, if_pos e] using h
    · refine br_f e ?_
      simpa only [bs_al, if_neg e] using h
theorem bs_xal (post : Int32 → Prop) (p q : Nat) (hp : p + 4 ≤ 96) (hq : q + 4 ≤ 96) (f : Int32) (a b : Nat → Int32) (h : post (bs_al a p q 4 0)) : wpX_equalPlaces post (f, a, b) (nI p) (nI q) :=
  ⟨5, bs_xal2 post p q hp hq f a b 4 0 rfl h⟩
theorem bs_yal2 (post : Int32 → Prop) (x y : Nat) (hx : x < 24) (hy : y < 24) (a b : Nat → Int32) : ∀ d i : Nat, i + d = 4 → post (bs_al a (4 * x) (4 * y) d i) → wY_alike_2 post (nI x) (nI y) a b (d + 1) (nI i) := by
  intro d
  induction d with
  | zero => exact fun i hi h => br_t (bs_le (c := 4) (by omega) (by omega)) h
  | succ d ih =>
    intro i hi h
    refine br_f (bs_ge (c := 4) (by omega) (by omega)) ⟨bs_vi (4 * x + i) (bs_4w x i) (by omega), bs_vi (4 * y + i) (bs_4w y i) (by omega), ?_⟩
    rw [bs_cl (4 * x + i) (bs_4w x i) (by omega), bs_cl (4 * y + i) (bs_4w y i) (by omega)]
    by_cases e : a (4 * x + i) = a (4 * y + i)
    · refine br_t e (nm_r (nI_1 i) (ih (i + 1) (by omega) ?_))
      simpa only [bs_al, if_pos e] using h
    · refine br_f e ?_
      simpa only [bs_al, if_neg e] using h
theorem bs_yal (post : Int32 → Prop) (x y p q : Nat) (hx : x < 24) (hy : y < 24) (hp : 4 * x = p) (hq : 4 * y = q) (a b : Nat → Int32) (h : post (bs_al a p q 4 0)) : wpY_alike post (a, b) (nI x) (nI y) := by
  subst hp hq
  exact ⟨5, bs_yal2 post x y hx hy a b 4 0 rfl h⟩
end
section
/-! counting: X's countEqual, contents; Y's contents, twins -/
theorem bs_n4 (o : Nat) : nI o + 4 = nI (o + 4) := nI_add o 4
theorem bs_ct0 {a : Nat → Int32} {p d o : Nat} (z : bs_al a p o 4 0 = 0) : bs_ct a p (d + 1) o = bs_ct a p d (o + 4) := by
  simp only [bs_ct, if_pos z]; omega
theorem bs_ct1 {a : Nat → Int32} {p d o : Nat} (z : ¬ bs_al a p o 4 0 = 0) : bs_ct a p (d + 1) o = bs_ct a p d (o + 4) + 1 := by
  simp only [bs_ct, if_neg z]; omega
theorem bs_xct (post : Int32 → Prop) (p e : Nat) (hp : p + 4 ≤ 96) (he : e ≤ 96) (f : Int32) (a b : Nat → Int32) : ∀ d c o : Nat, o + 4 * d = e → post (nI (c + bs_ct a p d o)) → wX_countEqual_6 post (nI p) (nI e) f a b (d + 1) (nI c) (nI o) := by
  intro d
  induction d with
  | zero => exact fun c o ho h => br_t (bs_le (by omega) (by omega)) h
  | succ d ih =>
    intro c o ho h
    refine br_f (bs_ge (by omega) (by omega)) (bs_xal _ p o hp (by omega) f a b ?_)
    by_cases z : bs_al a p o 4 0 = 0
    · refine br_t z (nm_r (bs_n4 o) (ih c (o + 4) (by omega) ?_))
      rw [bs_ct0 z] at h
      exact h
    · refine br_f z (nm_r (nI_1 c) (nm_r (bs_n4 o) (ih (c + 1) (o + 4) (by omega) ?_)))
      rw [bs_ct1 z, Nat.add_comm _ 1, ← Nat.add_assoc] at h
      exact h
theorem bs_xce (post : Int32 → Prop) (p o d : Nat) (hp : p + 4 ≤ 96) (ho : o + 4 * d ≤ 96) (f : Int32) (a b : Nat → Int32) (h : post (nI (bs_ct a p d o))) : wpX_countEqual post (f, a, b) (nI p) (nI o) (nI (o + 4 * d)) :=
  ⟨d + 1, bs_xct post p (o + 4 * d) hp ho f a b d 0 o rfl (by rw [Nat.zero_add]; exact h)⟩
theorem bs_co0 {a : Nat → Int32} {r d j : Nat} (z : bs_ct a (r + 4 * j) j r = 0) : bs_co a r (d + 1) j = bs_co a r d (j + 1) + 1 := by
  simp only [bs_co, if_pos z]; omega
theorem bs_co1 {a : Nat → Int32} {r d j : Nat} (z : ¬ bs_ct a (r + 4 * j) j r = 0) : bs_co a r (d + 1) j = bs_co a r d (j + 1) := by
  simp only [bs_co, if_neg z]; omega
theorem bs_xco (post : Int32 → Prop) (r : Nat) (hr : r + 32 ≤ 96) (f : Int32) (a b : Nat → Int32) : ∀ d c j : Nat, j + d = 8 → post (nI (c + bs_co a r d j)) → wX_contents_19 post (nI r) f a b (d + 1) (nI c) (nI j) := by
  intro d
  induction d with
  | zero => exact fun c j hj h => br_t (bs_le (c := 8) (by omega) (by omega)) h
  | succ d ih =>
    intro c j hj h
    refine br_f (bs_ge (c := 8) (by omega) (by omega)) (nm_r (e' := nI (r + 4 * j)) (by rw [bs_g4, nI_add]) (bs_xce _ (r + 4 * j) r j (by omega) (by omega) f a b ?_))
    by_cases z : bs_ct a (r + 4 * j) j r = 0
    · refine br_t (by rw [z]; exact nI_0) (nm_r (nI_1 c) (nm_r (nI_1 j) (ih (c + 1) (j + 1) (by omega) ?_)))
      rw [bs_co0 z, Nat.add_comm _ 1, ← Nat.add_assoc] at h
      exact h
    · have hb := bs_ctB a (r + 4 * j) j r
      refine br_f (nI_ne0 (by omega) (by omega)) (nm_r (nI_1 j) (ih c (j + 1) (by omega) ?_))
      rw [bs_co1 z] at h
      exact h
theorem bs_yc2 (post : Int32 → Prop) (J : Int32 → Int32 → Prop) (g c j : Nat) (hg : g < 3) (hj : j < 8) (a b : Nat → Int32) : ∀ (d q : Nat) (z : Int32), q + d = j →
    ((z = 0 ∨ ¬ bs_ct a (32 * g + 4 * j) d (32 * g + 4 * q) = 0) → J (nI c) (nI (j + 1))) →
    (¬ z = 0 → bs_ct a (32 * g + 4 * j) d (32 * g + 4 * q) = 0 → J (nI (c + 1)) (nI (j + 1))) →
    wY_contents_26 post J (nI g) (nI c) (nI j) a b (d + 1) z (nI q) := by
  intro d
  induction d with
  | zero =>
    intro q z hq h0 h1
    exact br_t (bs_le (by omega) (by omega)) (br_c (fun hz => nm_r (nI_1 j) (h0 (Or.inl hz))) (fun hz => nm_r (nI_1 c) (nm_r (nI_1 j) (h1 hz rfl))))
  | succ d ih =>
    intro q z hq h0 h1
    have e4 : 32 * g + 4 * q + 4 = 32 * g + 4 * (q + 1) := by omega
    refine br_f (bs_ge (by omega) (by omega)) ?_
    rw [bs_q g j, bs_q g q]
    refine bs_yal _ (8 * g + j) (8 * g + q) (32 * g + 4 * j) (32 * g + 4 * q) (by omega) (by omega) (by omega) (by omega) a b ?_
    by_cases w : bs_al a (32 * g + 4 * j) (32 * g + 4 * q) 4 0 = 0
    · rw [bs_ct0 w, e4] at h0 h1
      exact br_t w (nm_r (nI_1 q) (ih (q + 1) z (by omega) h0 h1))
    · rw [bs_ct1 w] at h0
      exact br_f w (nm_r (nI_1 q) (ih (q + 1) 0 (by omega) (fun _ => h0 (Or.inr (by omega))) (fun y => absurd rfl y)))
theorem bs_yco (post : Int32 → Prop) (g : Nat) (hg : g < 3) (a b : Nat → Int32) : ∀ d c j : Nat, j + d = 8 → post (nI (c + bs_co a (32 * g) d j)) → wY_contents_14 post (nI g) a b (d + 1) (nI c) (nI j) := by
  intro d
  induction d with
  | zero => exact fun c j hj h => br_t (bs_le (c := 8) (by omega) (by omega)) h
  | succ d ih =>
    intro c j hj h
    refine br_f (bs_ge (c := 8) (by omega) (by omega)) ⟨j + 1, bs_yc2 post _ g c j hg (by omega) a b j 0 1 (by omega) (fun hz => ?_) (fun _ hz => ?_)⟩
    · have hz' : ¬ bs_ct a (32 * g + 4 * j) j (32 * g) = 0 := hz.resolve_left bs_10
      rw [bs_co1 hz'] at h
      exact ih c (j + 1) (by omega) h
    · have hz' : bs_ct a (32 * g + 4 * j) j (32 * g) = 0 := hz
      rw [bs_co0 hz', Nat.add_comm _ 1, ← Nat.add_assoc] at h
      exact ih (c + 1) (j + 1) (by omega) h
theorem bs_ytw (post : Int32 → Prop) (g q : Nat) (hg : g < 3) (hq : q < 8) (a b : Nat → Int32) : ∀ d c o : Nat, o + d = 24 → post (nI (c + bs_ct a (32 * g + 4 * q) d (4 * o))) → wY_twins_26 post (nI g) (nI q) a b (d + 1) (nI c) (nI o) := by
  intro d
  induction d with
  | zero => exact fun c o ho h => br_t (bs_le (c := 24) (by omega) (by omega)) h
  | succ d ih =>
    intro c o ho h
    have e4 : 4 * o + 4 = 4 * (o + 1) := by omega
    refine br_f (bs_ge (c := 24) (by omega) (by omega)) ?_
    rw [bs_q g q]
    refine bs_yal _ (8 * g + q) o (32 * g + 4 * q) (4 * o) (by omega) (by omega) (by omega) (by omega) a b ?_
    by_cases z : bs_al a (32 * g + 4 * q) (4 * o) 4 0 = 0
    · refine br_t z (nm_r (nI_1 o) (ih c (o + 1) (by omega) ?_))
      rw [bs_ct0 z, e4] at h
      exact h
    · refine br_f z (nm_r (nI_1 c) (nm_r (nI_1 o) (ih (c + 1) (o + 1) (by omega) ?_)))
      rw [bs_ct1 z, e4, Nat.add_comm _ 1, ← Nat.add_assoc] at h
      exact h
end
section
/-! each public method of both sides, with a general post -/
theorem bs_Xwrite (post : Int32 → SX → Prop) (f : Int32) (a b : Nat → Int32) (x y v : Int32) (h1 : ¬ bs_in 3 x → post (-1) (f, a, b)) (h2 : bs_in 3 x → ¬ bs_in 32 y → post (-3) (f, a, b))
    (h3 : ∀ g w : Nat, g < 3 → w < 32 → x = nI g → y = nI w → post 0 (f, upd a (32 * g + w) v, b)) : wpX_write post (f, a, b) x y v := by
  unfold wpX_write
  dsimp only
  by_cases hx : bs_in 3 x
  · by_cases hy : bs_in 32 y
    · obtain ⟨g, hg, rfl⟩ := hx
      obtain ⟨w, hw, rfl⟩ := hy
      refine bs_gt _ hg (br_f bs_10 (bs_wt _ hw (br_f bs_10 ⟨bs_vi (32 * g + w) (bs_w g w) (by omega), nm_r (e' := upd a (32 * g + w) v) ?_ (h3 g w hg hw rfl rfl)⟩)))
      rw [bs_cl (32 * g + w) (bs_w g w) (by omega)]
    · have h := h2 hx hy
      obtain ⟨g, hg, rfl⟩ := hx
      exact bs_gt _ hg (br_f bs_10 (bs_wf _ hy (br_t rfl h)))
  · exact bs_gf _ hx (br_t rfl (h1 hx))
theorem bs_Ywrite (post : Int32 → SY → Prop) (a b : Nat → Int32) (x y v : Int32) (h1 : ¬ bs_in 3 x → post (-1) (a, b)) (h2 : bs_in 3 x → ¬ bs_in 32 y → post (-3) (a, b))
    (h3 : ∀ g w : Nat, g < 3 → w < 32 → x = nI g → y = nI w → post 0 (upd a (32 * g + w) v, b)) : wpY_write post (a, b) x y v := by
  unfold wpY_write
  dsimp only
  by_cases hx : bs_in 3 x
  · by_cases hy : bs_in 32 y
    · obtain ⟨g, hg, rfl⟩ := hx
      obtain ⟨w, hw, rfl⟩ := hy
      refine bs_ygt _ a b hg (br_t rfl (bs_ywt hw ⟨bs_vi (32 * g + w) (bs_w g w) (by omega), nm_r (e' := upd a (32 * g + w) v) ?_ (h3 g w hg hw rfl rfl)⟩))
      rw [bs_cl (32 * g + w) (bs_w g w) (by omega)]
    · have h := h2 hx hy
      obtain ⟨g, hg, rfl⟩ := hx
      exact bs_ygt _ a b hg (br_t rfl (bs_ywf hy h))
  · exact bs_ygf _ a b hx (br_f bs_10 (h1 hx))
theorem bs_xfp (post : SX → Prop) (p : Nat) (hp : p + 4 ≤ 96) (v s f : Int32) (a b : Nat → Int32) (h : post (f, bs_fl p v s 4 0 a, b)) : wpX_fillPlace post (f, a, b) (nI p) v s :=
  ⟨5, bs_xfl post p hp v s f b 4 0 a rfl h⟩
theorem bs_xcw (post : SX → Prop) (p q c : Nat) (hp : p + c ≤ 96) (hq : q + c ≤ 96) (f : Int32) (a b : Nat → Int32) (h : post (f, bs_cp p q c 0 a, b)) : wpX_copyWords post (f, a, b) (nI p) (nI q) (nI c) :=
  ⟨c + 1, bs_xcp post p q c hp hq f b c 0 a (Nat.zero_add c) h⟩
theorem bs_Xfill (post : Int32 → SX → Prop) (f : Int32) (a b : Nat → Int32) (x y v s : Int32) (h1 : ¬ bs_in 3 x → post (-1) (f, a, b)) (h2 : bs_in 3 x → ¬ bs_in 8 y → post (-2) (f, a, b))
    (h3 : ∀ g q : Nat, g < 3 → q < 8 → x = nI g → y = nI q → post 0 (f, bs_fl (32 * g + 4 * q) v s 4 0 a, b)) : wpX_fill post (f, a, b) x y v s := by
  unfold wpX_fill
  dsimp only
  by_cases hx : bs_in 3 x
  · by_cases hy : bs_in 8 y
    · obtain ⟨g, hg, rfl⟩ := hx
      obtain ⟨q, hq, rfl⟩ := hy
      exact bs_o0 _ hg hq (br_t rfl (bs_pl _ g q (bs_xfp _ (32 * g + 4 * q) (by omega) v s f a b (h3 g q hg hq rfl rfl))))
    · have h := h2 hx hy
      obtain ⟨g, hg, rfl⟩ := hx
      exact bs_op _ hg hy (br_f bs_m2 h)
  · exact bs_og _ hx (br_f bs_m1 (h1 hx))
theorem bs_Yfill (post : Int32 → SY → Prop) (a b : Nat → Int32) (x y v s : Int32) (h1 : ¬ bs_in 3 x → post (-1) (a, b)) (h2 : bs_in 3 x → ¬ bs_in 8 y → post (-2) (a, b))
    (h3 : ∀ g q : Nat, g < 3 → q < 8 → x = nI g → y = nI q → post 0 (bs_fl (32 * g + 4 * q) v s 4 0 a, b)) : wpY_fill post (a, b) x y v s := by
  unfold wpY_fill
  dsimp only
  by_cases hx : bs_in 3 x
  · by_cases hy : bs_in 8 y
    · obtain ⟨g, hg, rfl⟩ := hx
      obtain ⟨q, hq, rfl⟩ := hy
      exact bs_ygt _ a b hg (br_t rfl (bs_ypt _ a b hq (br_t rfl ⟨5, bs_yfl post g q hg hq v s b 4 0 a rfl (h3 g q hg hq rfl rfl)⟩)))
    · have h := h2 hx hy
      obtain ⟨g, hg, rfl⟩ := hx
      exact bs_ygt _ a b hg (br_t rfl (bs_ypf _ a b hy (br_f bs_10 h)))
  · exact bs_ygf _ a b hx (br_f bs_10 (h1 hx))
theorem bs_Xrelease (post : Int32 → SX → Prop) (f : Int32) (a b : Nat → Int32) (x y : Int32) (h1 : ¬ bs_in 3 x → post (-1) (f, a, b)) (h2 : bs_in 3 x → ¬ bs_in 8 y → post (-2) (f, a, b))
    (h3 : ∀ g q : Nat, g < 3 → q < 8 → x = nI g → y = nI q → post 0 (f, bs_fl (32 * g + 4 * q) 0 0 4 0 a, b)) : wpX_release post (f, a, b) x y := by
  unfold wpX_release
  dsimp only
  by_cases hx : bs_in 3 x
  · by_cases hy : bs_in 8 y
    · obtain ⟨g, hg, rfl⟩ := hx
      obtain ⟨q, hq, rfl⟩ := hy
      exact bs_o0 _ hg hq (br_t rfl (bs_pl _ g q (bs_xfp _ (32 * g + 4 * q) (by omega) 0 0 f a b (h3 g q hg hq rfl rfl))))
    · have h := h2 hx hy
      obtain ⟨g, hg, rfl⟩ := hx
      exact bs_op _ hg hy (br_f bs_m2 h)
  · exact bs_og _ hx (br_f bs_m1 (h1 hx))
theorem bs_Yrelease (post : Int32 → SY → Prop) (a b : Nat → Int32) (x y : Int32) (h1 : ¬ bs_in 3 x → post (-1) (a, b)) (h2 : bs_in 3 x → ¬ bs_in 8 y → post (-2) (a, b))
    (h3 : ∀ g q : Nat, g < 3 → q < 8 → x = nI g → y = nI q → post 0 (bs_fl (32 * g + 4 * q) 0 0 4 0 a, b)) : wpY_release post (a, b) x y := by
  unfold wpY_release
  dsimp only
  exact bs_Yfill _ a b x y 0 0 h1 h2 h3
theorem bs_Xcopy (post : Int32 → SX → Prop) (f : Int32) (a b : Nat → Int32) (x y z w : Int32) (h1 : ¬ (bs_in 3 x ∧ bs_in 3 z) → post (-1) (f, a, b)) (h2 : bs_in 3 x ∧ bs_in 3 z → ¬ (bs_in 8 y ∧ bs_in 8 w) → post (-2) (f, a, b))
    (h3 : ∀ g q e t : Nat, g < 3 → q < 8 → e < 3 → t < 8 → x = nI g → y = nI q → z = nI e → w = nI t → post 0 (f, bs_cp (32 * g + 4 * q) (32 * e + 4 * t) 4 0 a, b)) : wpX_copy post (f, a, b) x y z w := by
  unfold wpX_copy
  dsimp only
  by_cases hx : bs_in 3 x ∧ bs_in 3 z
  · by_cases hy : bs_in 8 y ∧ bs_in 8 w
    · obtain ⟨⟨g, hg, rfl⟩, ⟨e, he, rfl⟩⟩ := hx
      obtain ⟨⟨q, hq, rfl⟩, ⟨t, ht, rfl⟩⟩ := hy
      exact bs_r0 _ hg he hq ht (br_t rfl (bs_pl _ g q (bs_pl _ e t (bs_xcw _ (32 * g + 4 * q) (32 * e + 4 * t) 4 (by omega) (by omega) f a b (h3 g q e t hg hq he ht rfl rfl rfl rfl)))))
    · have h := h2 hx hy
      obtain ⟨⟨g, hg, rfl⟩, ⟨e, he, rfl⟩⟩ := hx
      exact bs_rp _ hg he hy (br_f bs_m2 h)
  · exact bs_rg _ hx (br_f bs_m1 (h1 hx))
theorem bs_Ycopy (post : Int32 → SY → Prop) (a b : Nat → Int32) (x y z w : Int32) (h1 : ¬ (bs_in 3 x ∧ bs_in 3 z) → post (-1) (a, b)) (h2 : bs_in 3 x ∧ bs_in 3 z → ¬ (bs_in 8 y ∧ bs_in 8 w) → post (-2) (a, b))
    (h3 : ∀ g q e t : Nat, g < 3 → q < 8 → e < 3 → t < 8 → x = nI g → y = nI q → z = nI e → w = nI t → post 0 (bs_cp (32 * g + 4 * q) (32 * e + 4 * t) 4 0 a, b)) : wpY_copy post (a, b) x y z w := by
  unfold wpY_copy
  dsimp only
  by_cases hx : bs_in 3 x
  · by_cases hz : bs_in 3 z
    · by_cases hy : bs_in 8 y
      · by_cases hw : bs_in 8 w
        · obtain ⟨g, hg, rfl⟩ := hx
          obtain ⟨e, he, rfl⟩ := hz
          obtain ⟨q, hq, rfl⟩ := hy
          obtain ⟨t, ht, rfl⟩ := hw
          exact bs_ygt _ a b hg (br_t rfl (bs_ygt _ a b he (br_t rfl (bs_ypt _ a b hq (br_t rfl (bs_ypt _ a b ht (br_t rfl ⟨5, bs_ycp post g q e t hg hq he ht b 4 0 a rfl (h3 g q e t hg hq he ht rfl rfl rfl rfl)⟩)))))))
        · have h := h2 ⟨hx, hz⟩ (fun k => hw k.2)
          obtain ⟨g, hg, rfl⟩ := hx
          obtain ⟨e, he, rfl⟩ := hz
          obtain ⟨q, hq, rfl⟩ := hy
          exact bs_ygt _ a b hg (br_t rfl (bs_ygt _ a b he (br_t rfl (bs_ypt _ a b hq (br_t rfl (bs_ypf _ a b hw (br_f bs_10 h)))))))
      · have h := h2 ⟨hx, hz⟩ (fun k => hy k.1)
        obtain ⟨g, hg, rfl⟩ := hx
        obtain ⟨e, he, rfl⟩ := hz
        exact bs_ygt _ a b hg (br_t rfl (bs_ygt _ a b he (br_t rfl (bs_ypf _ a b hy (br_f bs_10 h)))))
    · have h := h1 (fun k => hz k.2)
      obtain ⟨g, hg, rfl⟩ := hx
      exact bs_ygt _ a b hg (br_t rfl (bs_ygf _ a b hz (br_f bs_10 h)))
  · exact bs_ygf _ a b hx (br_f bs_10 (h1 (fun k => hx k.1)))
theorem bs_Xclone (post : Int32 → SX → Prop) (f : Int32) (a b : Nat → Int32) (x z : Int32) (h1 : ¬ (bs_in 3 x ∧ bs_in 3 z) → post (-1) (f, a, b))
    (h3 : ∀ g e : Nat, g < 3 → e < 3 → x = nI g → z = nI e → post 0 (f, bs_cp (32 * g) (32 * e) 32 0 a, b)) : wpX_cloneGuest post (f, a, b) x z := by
  unfold wpX_cloneGuest
  dsimp only
  by_cases hx : bs_in 3 x
  · by_cases hz : bs_in 3 z
    · obtain ⟨g, hg, rfl⟩ := hx
      obtain ⟨e, he, rfl⟩ := hz
      rw [bs_g32 g, bs_g32 e]
      exact bs_gt _ hg (br_f bs_10 (bs_gt _ he (br_f bs_10 (bs_xcw _ (32 * g) (32 * e) 32 (by omega) (by omega) f a b (h3 g e hg he rfl rfl)))))
    · have h := h1 (fun k => hz k.2)
      obtain ⟨g, hg, rfl⟩ := hx
      exact bs_gt _ hg (br_f bs_10 (bs_gf _ hz (br_t rfl h)))
  · exact bs_gf _ hx (br_t rfl (h1 (fun k => hx k.1)))
theorem bs_Yclone (post : Int32 → SY → Prop) (a b : Nat → Int32) (x z : Int32) (h1 : ¬ (bs_in 3 x ∧ bs_in 3 z) → post (-1) (a, b))
    (h3 : ∀ g e : Nat, g < 3 → e < 3 → x = nI g → z = nI e → post 0 (bs_cp (32 * g) (32 * e) 32 0 a, b)) : wpY_cloneGuest post (a, b) x z := by
  unfold wpY_cloneGuest
  dsimp only
  by_cases hx : bs_in 3 x
  · by_cases hz : bs_in 3 z
    · obtain ⟨g, hg, rfl⟩ := hx
      obtain ⟨e, he, rfl⟩ := hz
      exact bs_ygt _ a b hg (br_t rfl (bs_ygt _ a b he (br_t rfl ⟨33, bs_ycg post g e hg he b 32 0 a rfl (h3 g e hg he rfl rfl)⟩)))
    · have h := h1 (fun k => hz k.2)
      obtain ⟨g, hg, rfl⟩ := hx
      exact bs_ygt _ a b hg (br_t rfl (bs_ygf _ a b hz (br_f bs_10 h)))
  · exact bs_ygf _ a b hx (br_f bs_10 (h1 (fun k => hx k.1)))
end
section
/-! the methods that only read -/
theorem bs_Xread (post : Int32 → Prop) (f : Int32) (a b : Nat → Int32) (x y : Int32) (h1 : ¬ (bs_in 3 x ∧ bs_in 32 y) → post 0)
    (h3 : ∀ g w : Nat, g < 3 → w < 32 → x = nI g → y = nI w → post (a (32 * g + w))) : wpX_read post (f, a, b) x y := by
  unfold wpX_read
  dsimp only
  by_cases hx : bs_in 3 x
  · by_cases hy : bs_in 32 y
    · obtain ⟨g, hg, rfl⟩ := hx
      obtain ⟨w, hw, rfl⟩ := hy
      rw [bs_cl (32 * g + w) (bs_w g w) (by omega)]
      exact bs_gt _ hg (br_f bs_10 (bs_wt _ hw (br_f bs_10 ⟨bs_vi (32 * g + w) (bs_w g w) (by omega), h3 g w hg hw rfl rfl⟩)))
    · have h := h1 (fun k => hy k.2)
      obtain ⟨g, hg, rfl⟩ := hx
      exact bs_gt _ hg (br_f bs_10 (bs_wf _ hy (br_t rfl h)))
  · exact bs_gf _ hx (br_t rfl (h1 (fun k => hx k.1)))
theorem bs_Yread (post : Int32 → Prop) (a b : Nat → Int32) (x y : Int32) (h1 : ¬ (bs_in 3 x ∧ bs_in 32 y) → post 0)
    (h3 : ∀ g w : Nat, g < 3 → w < 32 → x = nI g → y = nI w → post (a (32 * g + w))) : wpY_read post (a, b) x y := by
  unfold wpY_read
  dsimp only
  by_cases hx : bs_in 3 x
  · by_cases hy : bs_in 32 y
    · obtain ⟨g, hg, rfl⟩ := hx
      obtain ⟨w, hw, rfl⟩ := hy
      rw [bs_cl (32 * g + w) (bs_w g w) (by omega)]
      exact bs_ygt _ a b hg (br_t rfl (bs_ywt hw ⟨bs_vi (32 * g + w) (bs_w g w) (by omega), h3 g w hg hw rfl rfl⟩))
    · have h := h1 (fun k => hy k.2)
      obtain ⟨g, hg, rfl⟩ := hx
      exact bs_ygt _ a b hg (br_t rfl (bs_ywf hy h))
  · exact bs_ygf _ a b hx (br_f bs_10 (h1 (fun k => hx k.1)))
theorem bs_Xsum (post : Int32 → Prop) (f : Int32) (a b : Nat → Int32) (x y : Int32) (h1 : ¬ (bs_in 3 x ∧ bs_in 8 y) → post 0)
    (h3 : ∀ g q : Nat, g < 3 → q < 8 → x = nI g → y = nI q → post (bs_sm a (32 * g + 4 * q) 4 0 0)) : wpX_sum post (f, a, b) x y := by
  unfold wpX_sum
  dsimp only
  by_cases hx : bs_in 3 x
  · by_cases hy : bs_in 8 y
    · obtain ⟨g, hg, rfl⟩ := hx
      obtain ⟨q, hq, rfl⟩ := hy
      exact bs_gt _ hg (br_f bs_10 (bs_pt _ hq (br_f bs_10 (bs_pl _ g q ⟨5, bs_xsm post (32 * g + 4 * q) (by omega) f a b 4 0 0 rfl (h3 g q hg hq rfl rfl)⟩))))
    · have h := h1 (fun k => hy k.2)
      obtain ⟨g, hg, rfl⟩ := hx
      exact bs_gt _ hg (br_f bs_10 (bs_pf _ hy (br_t rfl h)))
  · exact bs_gf _ hx (br_t rfl (h1 (fun k => hx k.1)))
theorem bs_Ysum (post : Int32 → Prop) (a b : Nat → Int32) (x y : Int32) (h1 : ¬ (bs_in 3 x ∧ bs_in 8 y) → post 0)
    (h3 : ∀ g q : Nat, g < 3 → q < 8 → x = nI g → y = nI q → post (bs_sm a (32 * g + 4 * q) 4 0 0)) : wpY_sum post (a, b) x y := by
  unfold wpY_sum
  dsimp only
  by_cases hx : bs_in 3 x
  · by_cases hy : bs_in 8 y
    · obtain ⟨g, hg, rfl⟩ := hx
      obtain ⟨q, hq, rfl⟩ := hy
      exact bs_ygt _ a b hg (br_t rfl (bs_ypt _ a b hq (br_t rfl ⟨5, bs_ysm post g q hg hq a b 4 0 0 rfl (h3 g q hg hq rfl rfl)⟩)))
    · have h := h1 (fun k => hy k.2)
      obtain ⟨g, hg, rfl⟩ := hx
      exact bs_ygt _ a b hg (br_t rfl (bs_ypf _ a b hy (br_f bs_10 h)))
  · exact bs_ygf _ a b hx (br_f bs_10 (h1 (fun k => hx k.1)))
theorem bs_nb (a : Nat → Int32) (p q : Nat) : narrow .boolean (.int (bs_al a p q 4 0)) = .int (bs_al a p q 4 0) := by
  rcases bs_al01 a p q 4 0 with h | h <;> rw [h] <;> rfl
theorem bs_Xsame (post : Int32 → Prop) (f : Int32) (a b : Nat → Int32) (x y z w : Int32) (h1 : ¬ ((bs_in 3 x ∧ bs_in 3 z) ∧ (bs_in 8 y ∧ bs_in 8 w)) → post 0)
    (h3 : ∀ g q e t : Nat, g < 3 → q < 8 → e < 3 → t < 8 → x = nI g → y = nI q → z = nI e → w = nI t → post (bs_al a (32 * g + 4 * q) (32 * e + 4 * t) 4 0)) : wpX_same post (f, a, b) x y z w := by
  unfold wpX_same
  dsimp only
  by_cases hx : bs_in 3 x ∧ bs_in 3 z
  · by_cases hy : bs_in 8 y ∧ bs_in 8 w
    · obtain ⟨⟨g, hg, rfl⟩, ⟨e, he, rfl⟩⟩ := hx
      obtain ⟨⟨q, hq, rfl⟩, ⟨t, ht, rfl⟩⟩ := hy
      exact bs_r0 _ hg he hq ht (br_t rfl (bs_pl _ g q (bs_pl _ e t (bs_xal _ (32 * g + 4 * q) (32 * e + 4 * t) (by omega) (by omega) f a b ⟨bs_nb a _ _, h3 g q e t hg hq he ht rfl rfl rfl rfl⟩))))
    · have h := h1 (fun k => hy k.2)
      obtain ⟨⟨g, hg, rfl⟩, ⟨e, he, rfl⟩⟩ := hx
      exact bs_rp _ hg he hy (br_f bs_m2 h)
  · exact bs_rg _ hx (br_f bs_m1 (h1 (fun k => hx k.1)))
theorem bs_Ysame (post : Int32 → Prop) (a b : Nat → Int32) (x y z w : Int32) (h1 : ¬ ((bs_in 3 x ∧ bs_in 3 z) ∧ (bs_in 8 y ∧ bs_in 8 w)) → post 0)
    (h3 : ∀ g q e t : Nat, g < 3 → q < 8 → e < 3 → t < 8 → x = nI g → y = nI q → z = nI e → w = nI t → post (bs_al a (32 * g + 4 * q) (32 * e + 4 * t) 4 0)) : wpY_same post (a, b) x y z w := by
  unfold wpY_same
  dsimp only
  by_cases hx : bs_in 3 x
  · by_cases hz : bs_in 3 z
    · by_cases hy : bs_in 8 y
      · by_cases hw : bs_in 8 w
        · obtain ⟨g, hg, rfl⟩ := hx
          obtain ⟨e, he, rfl⟩ := hz
          obtain ⟨q, hq, rfl⟩ := hy
          obtain ⟨t, ht, rfl⟩ := hw
          rw [bs_q g q, bs_q e t]
          exact bs_ygt _ a b hg (br_t rfl (bs_ygt _ a b he (br_t rfl (bs_ypt _ a b hq (br_t rfl (bs_ypt _ a b ht (br_t rfl (bs_yal _ (8 * g + q) (8 * e + t) (32 * g + 4 * q) (32 * e + 4 * t) (by omega) (by omega) (by omega) (by omega) a b ⟨bs_nb a _ _, h3 g q e t hg hq he ht rfl rfl rfl rfl⟩))))))))
        · have h := h1 (fun k => hw k.2.2)
          obtain ⟨g, hg, rfl⟩ := hx
          obtain ⟨e, he, rfl⟩ := hz
          obtain ⟨q, hq, rfl⟩ := hy
          exact bs_ygt _ a b hg (br_t rfl (bs_ygt _ a b he (br_t rfl (bs_ypt _ a b hq (br_t rfl (bs_ypf _ a b hw (br_f bs_10 h)))))))
      · have h := h1 (fun k => hy k.2.1)
        obtain ⟨g, hg, rfl⟩ := hx
        obtain ⟨e, he, rfl⟩ := hz
        exact bs_ygt _ a b hg (br_t rfl (bs_ygt _ a b he (br_t rfl (bs_ypf _ a b hy (br_f bs_10 h)))))
    · have h := h1 (fun k => hz k.1.2)
      obtain ⟨g, hg, rfl⟩ := hx
      exact bs_ygt _ a b hg (br_t rfl (bs_ygf _ a b hz (br_f bs_10 h)))
  · exact bs_ygf _ a b hx (br_f bs_10 (h1 (fun k => hx k.1.1)))
theorem bs_Xcontents (post : Int32 → Prop) (f : Int32) (a b : Nat → Int32) (x : Int32) (h1 : ¬ bs_in 3 x → post (-1))
    (h3 : ∀ g : Nat, g < 3 → x = nI g → post (nI (0 + bs_co a (32 * g) 8 0))) : wpX_contents post (f, a, b) x := by
  unfold wpX_contents
  dsimp only
  by_cases hx : bs_in 3 x
  · obtain ⟨g, hg, rfl⟩ := hx
    exact bs_gt _ hg (br_f bs_10 (nm_r (bs_g32 g) ⟨9, bs_xco post (32 * g) (by omega) f a b 8 0 0 rfl (h3 g hg rfl)⟩))
  · exact bs_gf _ hx (br_t rfl (h1 hx))
theorem bs_Ycontents (post : Int32 → Prop) (a b : Nat → Int32) (x : Int32) (h1 : ¬ bs_in 3 x → post (-1))
    (h3 : ∀ g : Nat, g < 3 → x = nI g → post (nI (0 + bs_co a (32 * g) 8 0))) : wpY_contents post (a, b) x := by
  unfold wpY_contents
  dsimp only
  by_cases hx : bs_in 3 x
  · obtain ⟨g, hg, rfl⟩ := hx
    exact bs_ygt _ a b hg (br_t rfl ⟨9, bs_yco post g hg a b 8 0 0 rfl (h3 g hg rfl)⟩)
  · exact bs_ygf _ a b hx (br_f bs_10 (h1 hx))
theorem bs_Xtwins (post : Int32 → Prop) (f : Int32) (a b : Nat → Int32) (x y : Int32) (h1 : ¬ bs_in 3 x → post (-1)) (h2 : bs_in 3 x → ¬ bs_in 8 y → post (-2))
    (h3 : ∀ g q : Nat, g < 3 → q < 8 → x = nI g → y = nI q → post (nI (bs_ct a (32 * g + 4 * q) 24 0))) : wpX_twins post (f, a, b) x y := by
  unfold wpX_twins
  dsimp only
  by_cases hx : bs_in 3 x
  · by_cases hy : bs_in 8 y
    · obtain ⟨g, hg, rfl⟩ := hx
      obtain ⟨q, hq, rfl⟩ := hy
      exact bs_o0 _ hg hq (br_t rfl (bs_pl _ g q (bs_xce _ (32 * g + 4 * q) 0 24 (by omega) (by omega) f a b (h3 g q hg hq rfl rfl))))
    · have h := h2 hx hy
      obtain ⟨g, hg, rfl⟩ := hx
      exact bs_op _ hg hy (br_f bs_m2 h)
  · exact bs_og _ hx (br_f bs_m1 (h1 hx))
theorem bs_Ytwins (post : Int32 → Prop) (a b : Nat → Int32) (x y : Int32) (h1 : ¬ bs_in 3 x → post (-1)) (h2 : bs_in 3 x → ¬ bs_in 8 y → post (-2))
    (h3 : ∀ g q : Nat, g < 3 → q < 8 → x = nI g → y = nI q → post (nI (bs_ct a (32 * g + 4 * q) 24 0))) : wpY_twins post (a, b) x y := by
  unfold wpY_twins
  dsimp only
  by_cases hx : bs_in 3 x
  · by_cases hy : bs_in 8 y
    · obtain ⟨g, hg, rfl⟩ := hx
      obtain ⟨q, hq, rfl⟩ := hy
      have h := h3 g q hg hq rfl rfl
      rw [← Nat.zero_add (bs_ct a (32 * g + 4 * q) 24 0)] at h
      exact bs_ygt _ a b hg (br_t rfl (bs_ypt _ a b hq (br_t rfl ⟨25, bs_ytw post g q hg hq a b 24 0 0 rfl h⟩)))
    · have h := h2 hx hy
      obtain ⟨g, hg, rfl⟩ := hx
      exact bs_ygt _ a b hg (br_t rfl (bs_ypf _ a b hy (br_f bs_10 h)))
  · exact bs_ygf _ a b hx (br_f bs_10 (h1 hx))
end
section
/-! the relation, and what is owed -/
/-- the class's words and shares are the reference's; its frames are free -/
def i_Rel (_ : Nat) (u : SX) (v : SY) : Prop := u.2 = v
theorem i_up {k : Nat} {u : SX} {v : SY} (h : i_Rel k u v) : i_Rel (k + 5) u v := h
theorem bs_i0 (f k0 : Int32) : wpY_init (fun v => i_Rel 1 (f, (fun _ => 0), bs_on 3 0 (fun _ => 0)) v) k0 :=
  ⟨4, bs_yon _ (fun _ => 0) 3 0 (fun _ => 0) rfl rfl⟩
theorem i_vc0 (k0 : Int32) : wpX_init (fun u => wpY_init (fun v => i_Rel 1 u v) k0) k0 :=
  br_c (fun _ => br_c (fun _ => ⟨4, bs_xon _ k0 (fun _ => 0) 3 0 (fun _ => 0) rfl (bs_i0 k0 k0)⟩) (fun _ => ⟨4, bs_xon _ 16 (fun _ => 0) 3 0 (fun _ => 0) rfl (bs_i0 16 k0)⟩)) (fun _ => ⟨4, bs_xon _ 3 (fun _ => 0) 3 0 (fun _ => 0) rfl (bs_i0 3 k0)⟩)
theorem bs_eq {g e : Nat} (hg : g < 96) (he : e < 96) (h : nI g = nI e) : g = e := (nI_eq (by omega) (by omega)).mp h
theorem i_vc_write {k : Nat} {u : SX} {v : SY} (I : i_Rel k u v) (hk : k + 5 ≤ 2561) (v1 : Int32) (v2 : Int32) (v3 : Int32) : wpX_write (fun r u' => wpY_write (fun r' v' => r' = r ∧ i_Rel (k + 5) u' v') v v1 v2 v3) u v1 v2 v3 := by
  obtain ⟨f, a, b⟩ := u
  cases (show v = (a, b) from I.symm)
  refine bs_Xwrite _ f a b v1 v2 v3 (fun h => bs_Ywrite _ a b v1 v2 v3 (fun _ => ⟨rfl, rfl⟩) (fun k => absurd k h) (fun g w hg hw e1 e2 => absurd ⟨g, hg, e1⟩ h))
    (fun h n => bs_Ywrite _ a b v1 v2 v3 (fun k => absurd h k) (fun _ _ => ⟨rfl, rfl⟩) (fun g w hg hw e1 e2 => absurd ⟨w, hw, e2⟩ n))
    (fun g w hg hw e1 e2 => bs_Ywrite _ a b v1 v2 v3 (fun k => absurd ⟨g, hg, e1⟩ k) (fun _ k => absurd ⟨w, hw, e2⟩ k) (fun g' w' hg' hw' e1' e2' => ?_))
  cases bs_eq (by omega) (by omega) (e1.symm.trans e1')
  cases bs_eq (by omega) (by omega) (e2.symm.trans e2')
  exact ⟨rfl, rfl⟩
theorem i_vc_fill {k : Nat} {u : SX} {v : SY} (I : i_Rel k u v) (hk : k + 5 ≤ 2561) (v1 : Int32) (v2 : Int32) (v3 : Int32) (v4 : Int32) : wpX_fill (fun r u' => wpY_fill (fun r' v' => r' = r ∧ i_Rel (k + 5) u' v') v v1 v2 v3 v4) u v1 v2 v3 v4 := by
  obtain ⟨f, a, b⟩ := u
  cases (show v = (a, b) from I.symm)
  refine bs_Xfill _ f a b v1 v2 v3 v4 (fun h => bs_Yfill _ a b v1 v2 v3 v4 (fun _ => ⟨rfl, rfl⟩) (fun k => absurd k h) (fun g w hg hw e1 e2 => absurd ⟨g, hg, e1⟩ h))
    (fun h n => bs_Yfill _ a b v1 v2 v3 v4 (fun k => absurd h k) (fun _ _ => ⟨rfl, rfl⟩) (fun g w hg hw e1 e2 => absurd ⟨w, hw, e2⟩ n))
    (fun g w hg hw e1 e2 => bs_Yfill _ a b v1 v2 v3 v4 (fun k => absurd ⟨g, hg, e1⟩ k) (fun _ k => absurd ⟨w, hw, e2⟩ k) (fun g' w' hg' hw' e1' e2' => ?_))
  cases bs_eq (by omega) (by omega) (e1.symm.trans e1')
  cases bs_eq (by omega) (by omega) (e2.symm.trans e2')
  exact ⟨rfl, rfl⟩
theorem i_vc_copy {k : Nat} {u : SX} {v : SY} (I : i_Rel k u v) (hk : k + 5 ≤ 2561) (v1 : Int32) (v2 : Int32) (v3 : Int32) (v4 : Int32) : wpX_copy (fun r u' => wpY_copy (fun r' v' => r' = r ∧ i_Rel (k + 5) u' v') v v1 v2 v3 v4) u v1 v2 v3 v4 := by
  obtain ⟨f, a, b⟩ := u
  cases (show v = (a, b) from I.symm)
  refine bs_Xcopy _ f a b v1 v2 v3 v4 (fun h => bs_Ycopy _ a b v1 v2 v3 v4 (fun _ => ⟨rfl, rfl⟩) (fun k => absurd k h) (fun g q e t hg hq he ht e1 e2 e3 e4 => absurd ⟨⟨g, hg, e1⟩, ⟨e, he, e3⟩⟩ h))
    (fun h n => bs_Ycopy _ a b v1 v2 v3 v4 (fun k => absurd h k) (fun _ _ => ⟨rfl, rfl⟩) (fun g q e t hg hq he ht e1 e2 e3 e4 => absurd ⟨⟨q, hq, e2⟩, ⟨t, ht, e4⟩⟩ n))
    (fun g q e t hg hq he ht e1 e2 e3 e4 => bs_Ycopy _ a b v1 v2 v3 v4 (fun k => absurd ⟨⟨g, hg, e1⟩, ⟨e, he, e3⟩⟩ k) (fun _ k => absurd ⟨⟨q, hq, e2⟩, ⟨t, ht, e4⟩⟩ k) (fun g' q' e' t' hg' hq' he' ht' e1' e2' e3' e4' => ?_))
  cases bs_eq (by omega) (by omega) (e1.symm.trans e1')
  cases bs_eq (by omega) (by omega) (e2.symm.trans e2')
  cases bs_eq (by omega) (by omega) (e3.symm.trans e3')
  cases bs_eq (by omega) (by omega) (e4.symm.trans e4')
  exact ⟨rfl, rfl⟩
theorem i_vc_release {k : Nat} {u : SX} {v : SY} (I : i_Rel k u v) (hk : k + 5 ≤ 2561) (v1 : Int32) (v2 : Int32) : wpX_release (fun r u' => wpY_release (fun r' v' => r' = r ∧ i_Rel (k + 5) u' v') v v1 v2) u v1 v2 := by
  obtain ⟨f, a, b⟩ := u
  cases (show v = (a, b) from I.symm)
  refine bs_Xrelease _ f a b v1 v2 (fun h => bs_Yrelease _ a b v1 v2 (fun _ => ⟨rfl, rfl⟩) (fun k => absurd k h) (fun g w hg hw e1 e2 => absurd ⟨g, hg, e1⟩ h))
    (fun h n => bs_Yrelease _ a b v1 v2 (fun k => absurd h k) (fun _ _ => ⟨rfl, rfl⟩) (fun g w hg hw e1 e2 => absurd ⟨w, hw, e2⟩ n))
    (fun g w hg hw e1 e2 => bs_Yrelease _ a b v1 v2 (fun k => absurd ⟨g, hg, e1⟩ k) (fun _ k => absurd ⟨w, hw, e2⟩ k) (fun g' w' hg' hw' e1' e2' => ?_))
  cases bs_eq (by omega) (by omega) (e1.symm.trans e1')
  cases bs_eq (by omega) (by omega) (e2.symm.trans e2')
  exact ⟨rfl, rfl⟩
theorem i_vc_cloneGuest {k : Nat} {u : SX} {v : SY} (I : i_Rel k u v) (hk : k + 5 ≤ 2561) (v1 : Int32) (v2 : Int32) : wpX_cloneGuest (fun r u' => wpY_cloneGuest (fun r' v' => r' = r ∧ i_Rel (k + 5) u' v') v v1 v2) u v1 v2 := by
  obtain ⟨f, a, b⟩ := u
  cases (show v = (a, b) from I.symm)
  refine bs_Xclone _ f a b v1 v2 (fun h => bs_Yclone _ a b v1 v2 (fun _ => ⟨rfl, rfl⟩) (fun g e hg he e1 e3 => absurd ⟨⟨g, hg, e1⟩, ⟨e, he, e3⟩⟩ h))
    (fun g e hg he e1 e3 => bs_Yclone _ a b v1 v2 (fun k => absurd ⟨⟨g, hg, e1⟩, ⟨e, he, e3⟩⟩ k) (fun g' e' hg' he' e1' e3' => ?_))
  cases bs_eq (by omega) (by omega) (e1.symm.trans e1')
  cases bs_eq (by omega) (by omega) (e3.symm.trans e3')
  exact ⟨rfl, rfl⟩
theorem i_vc_shares {k : Nat} {u : SX} {v : SY} (I : i_Rel k u v) (hk : k + 5 ≤ 2561) (v1 : Int32) (v2 : Int32) : wpX_shares (fun r u' => wpY_shares (fun r' v' => r' = r ∧ i_Rel (k + 5) u' v') v v1 v2) u v1 v2 := by
  obtain ⟨f, a, b⟩ := u
  cases (show v = (a, b) from I.symm)
  unfold wpX_shares wpY_shares
  dsimp only
  by_cases hx : bs_in 3 v1
  · obtain ⟨g, hg, rfl⟩ := hx
    have hi : vp_in (nI g) 3 := vp_in_nI hg (by omega)
    exact bs_gt _ hg (br_f bs_10 (br_c (fun h => bs_ygt _ a b hg (br_t rfl (br_t h ⟨rfl, rfl⟩)))
      (fun h => br_c (fun n => ⟨hi, nm_e ⟨hi, nm_e (bs_ygt _ a b hg (br_t rfl (br_f h (br_t n ⟨hi, nm_e ⟨hi, nm_e ⟨rfl, rfl⟩⟩⟩))))⟩⟩)
        (fun n => bs_ygt _ a b hg (br_t rfl (br_f h (br_f n ⟨rfl, rfl⟩)))))))
  · exact bs_gf _ hx (br_t rfl (bs_ygf _ a b hx (br_f bs_10 ⟨rfl, rfl⟩)))
theorem i_vc_tidy {k : Nat} {u : SX} {v : SY} (I : i_Rel k u v) (hk : k + 5 ≤ 2561) (v1 : Int32) : wpX_tidy (fun u' => wpY_tidy (fun v' => i_Rel (k + 5) u' v') v v1) u v1 := by
  obtain ⟨f, a, b⟩ := u
  cases (show v = (a, b) from I.symm)
  exact rfl
theorem i_vc_read {k : Nat} {u : SX} {v : SY} (I : i_Rel k u v) (hk : k + 5 ≤ 2561) (v1 : Int32) (v2 : Int32) : wpX_read (fun r => wpY_read (fun r' => r' = r ∧ i_Rel (k + 5) u v) v v1 v2) u v1 v2 := by
  obtain ⟨f, a, b⟩ := u
  cases (show v = (a, b) from I.symm)
  refine bs_Xread _ f a b v1 v2 (fun h => bs_Yread _ a b v1 v2 (fun _ => ⟨rfl, rfl⟩) (fun g w hg hw e1 e2 => absurd ⟨⟨g, hg, e1⟩, ⟨w, hw, e2⟩⟩ h))
    (fun g w hg hw e1 e2 => bs_Yread _ a b v1 v2 (fun k => absurd ⟨⟨g, hg, e1⟩, ⟨w, hw, e2⟩⟩ k) (fun g' w' hg' hw' e1' e2' => ?_))
  cases bs_eq (by omega) (by omega) (e1.symm.trans e1')
  cases bs_eq (by omega) (by omega) (e2.symm.trans e2')
  exact ⟨rfl, rfl⟩
theorem i_vc_sum {k : Nat} {u : SX} {v : SY} (I : i_Rel k u v) (hk : k + 5 ≤ 2561) (v1 : Int32) (v2 : Int32) : wpX_sum (fun r => wpY_sum (fun r' => r' = r ∧ i_Rel (k + 5) u v) v v1 v2) u v1 v2 := by
  obtain ⟨f, a, b⟩ := u
  cases (show v = (a, b) from I.symm)
  refine bs_Xsum _ f a b v1 v2 (fun h => bs_Ysum _ a b v1 v2 (fun _ => ⟨rfl, rfl⟩) (fun g w hg hw e1 e2 => absurd ⟨⟨g, hg, e1⟩, ⟨w, hw, e2⟩⟩ h))
    (fun g w hg hw e1 e2 => bs_Ysum _ a b v1 v2 (fun k => absurd ⟨⟨g, hg, e1⟩, ⟨w, hw, e2⟩⟩ k) (fun g' w' hg' hw' e1' e2' => ?_))
  cases bs_eq (by omega) (by omega) (e1.symm.trans e1')
  cases bs_eq (by omega) (by omega) (e2.symm.trans e2')
  exact ⟨rfl, rfl⟩
theorem i_vc_same {k : Nat} {u : SX} {v : SY} (I : i_Rel k u v) (hk : k + 5 ≤ 2561) (v1 : Int32) (v2 : Int32) (v3 : Int32) (v4 : Int32) : wpX_same (fun r => wpY_same (fun r' => r' = r ∧ i_Rel (k + 5) u v) v v1 v2 v3 v4) u v1 v2 v3 v4 := by
  obtain ⟨f, a, b⟩ := u
  cases (show v = (a, b) from I.symm)
  refine bs_Xsame _ f a b v1 v2 v3 v4 (fun h => bs_Ysame _ a b v1 v2 v3 v4 (fun _ => ⟨rfl, rfl⟩) (fun g q e t hg hq he ht e1 e2 e3 e4 => absurd ⟨⟨⟨g, hg, e1⟩, ⟨e, he, e3⟩⟩, ⟨⟨q, hq, e2⟩, ⟨t, ht, e4⟩⟩⟩ h))
    (fun g q e t hg hq he ht e1 e2 e3 e4 => bs_Ysame _ a b v1 v2 v3 v4 (fun k => absurd ⟨⟨⟨g, hg, e1⟩, ⟨e, he, e3⟩⟩, ⟨⟨q, hq, e2⟩, ⟨t, ht, e4⟩⟩⟩ k) (fun g' q' e' t' hg' hq' he' ht' e1' e2' e3' e4' => ?_))
  cases bs_eq (by omega) (by omega) (e1.symm.trans e1')
  cases bs_eq (by omega) (by omega) (e2.symm.trans e2')
  cases bs_eq (by omega) (by omega) (e3.symm.trans e3')
  cases bs_eq (by omega) (by omega) (e4.symm.trans e4')
  exact ⟨rfl, rfl⟩
theorem i_vc_contents {k : Nat} {u : SX} {v : SY} (I : i_Rel k u v) (hk : k + 5 ≤ 2561) (v1 : Int32) : wpX_contents (fun r => wpY_contents (fun r' => r' = r ∧ i_Rel (k + 5) u v) v v1) u v1 := by
  obtain ⟨f, a, b⟩ := u
  cases (show v = (a, b) from I.symm)
  refine bs_Xcontents _ f a b v1 (fun h => bs_Ycontents _ a b v1 (fun _ => ⟨rfl, rfl⟩) (fun g hg e1 => absurd ⟨g, hg, e1⟩ h))
    (fun g hg e1 => bs_Ycontents _ a b v1 (fun k => absurd ⟨g, hg, e1⟩ k) (fun g' hg' e1' => ?_))
  cases bs_eq (by omega) (by omega) (e1.symm.trans e1')
  exact ⟨rfl, rfl⟩
theorem i_vc_twins {k : Nat} {u : SX} {v : SY} (I : i_Rel k u v) (hk : k + 5 ≤ 2561) (v1 : Int32) (v2 : Int32) : wpX_twins (fun r => wpY_twins (fun r' => r' = r ∧ i_Rel (k + 5) u v) v v1 v2) u v1 v2 := by
  obtain ⟨f, a, b⟩ := u
  cases (show v = (a, b) from I.symm)
  refine bs_Xtwins _ f a b v1 v2 (fun h => bs_Ytwins _ a b v1 v2 (fun _ => ⟨rfl, rfl⟩) (fun k => absurd k h) (fun g w hg hw e1 e2 => absurd ⟨g, hg, e1⟩ h))
    (fun h n => bs_Ytwins _ a b v1 v2 (fun k => absurd h k) (fun _ _ => ⟨rfl, rfl⟩) (fun g w hg hw e1 e2 => absurd ⟨w, hw, e2⟩ n))
    (fun g w hg hw e1 e2 => bs_Ytwins _ a b v1 v2 (fun k => absurd ⟨g, hg, e1⟩ k) (fun _ k => absurd ⟨w, hw, e2⟩ k) (fun g' w' hg' hw' e1' e2' => ?_))
  cases bs_eq (by omega) (by omega) (e1.symm.trans e1')
  cases bs_eq (by omega) (by omega) (e2.symm.trans e2')
  exact ⟨rfl, rfl⟩
end
