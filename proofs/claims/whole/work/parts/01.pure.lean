/-! rows of kit/rows, pasted; then the pure pictures -/
theorem pk_us {f : Nat → Int32} {k : Nat} {x : Int32} : upd f k x k = x := if_pos rfl
theorem pk_un {f : Nat → Int32} {k j : Nat} {x : Int32} (h : j ≠ k) : upd f k x j = f j := if_neg h
theorem pk_mul (a b : Nat) : nI a * nI b = nI (a * b) := (Int32.ofNat_mul a b).symm
theorem pk_ix (x : Int32) {n : Nat} (hn : n < 2 ^ 31) : x < 0 ∨ nI n ≤ x ∨ ∃ j : Nat, j < n ∧ x = nI j := by
  by_cases h : x < 0
  · exact Or.inl h
  · obtain ⟨j, hj, rfl⟩ := nI_of h
    by_cases h2 : j < n
    · exact Or.inr (Or.inr ⟨j, h2, rfl⟩)
    · exact Or.inr (Or.inl (nI_le (by omega) hj))
theorem pk_le {x y : Int32} {A B : Prop} (a b : Nat) (f : a ≤ b → A) (g : b < a → B) (hx : x = nI a := by rfl) (hy : y = nI b := by rfl) (ha : a < 2 ^ 31 := by omega) (hb : b < 2 ^ 31 := by omega) : (x ≤ y → A) ∧ (¬ x ≤ y → B) := by
  subst hx hy
  rw [nI_leI ha hb]
  exact ⟨f, fun z => g (by omega)⟩
theorem pk_lt {x y : Int32} {A B : Prop} (a b : Nat) (f : a < b → A) (g : b ≤ a → B) (hx : x = nI a := by rfl) (hy : y = nI b := by rfl) (ha : a < 2 ^ 31 := by omega) (hb : b < 2 ^ 31 := by omega) : (x < y → A) ∧ (¬ x < y → B) := by
  subst hx hy
  rw [nI_ltI ha hb]
  exact ⟨f, fun z => g (by omega)⟩
theorem pk_eq {x y : Int32} {A B : Prop} (a b : Nat) (f : a = b → A) (g : a ≠ b → B) (hx : x = nI a := by rfl) (hy : y = nI b := by rfl) (ha : a < 2 ^ 31 := by omega) (hb : b < 2 ^ 31 := by omega) : (x = y → A) ∧ (¬ x = y → B) := by
  subst hx hy
  rw [nI_eq ha hb]
  exact ⟨f, g⟩
theorem pk_in {x : Int32} (n N : Nat) (h : n < N) (hx : x = nI n := by rfl) (hN : N < 2 ^ 31 := by omega) : vp_in x N := by
  subst hx
  exact vp_in_nI h hN
theorem pk_cl {x : Int32} (n : Nat) (hx : x = nI n := by rfl) (h : n < 2 ^ 31 := by omega) : x.toNatClampNeg = n := by
  subst hx
  exact nI_clamp h
/-- x is the number of a thing below n -/
def bs_in (n : Nat) (x : Int32) : Prop := ∃ j : Nat, j < n ∧ x = nI j
theorem bs_ni {n : Nat} {x : Int32} (h : ¬ bs_in n x) : x < 0 ∨ ∃ j : Nat, j < 2 ^ 31 ∧ n ≤ j ∧ x = nI j := by
  by_cases h0 : x < 0
  · exact Or.inl h0
  · obtain ⟨j, hj, rfl⟩ := nI_of h0
    by_cases hn : j < n
    · exact absurd ⟨j, hn, rfl⟩ h
    · exact Or.inr ⟨j, hj, by omega, rfl⟩
theorem bs_w (g i : Nat) : nI g * 32 + nI i = nI (32 * g + i) := by
  show nI g * nI 32 + nI i = _
  rw [pk_mul, nI_add, Nat.mul_comm]
theorem bs_g32 (g : Nat) : nI g * 32 = nI (32 * g) := by
  show nI g * nI 32 = _
  rw [pk_mul, Nat.mul_comm]
theorem bs_g4 (g : Nat) : nI g * 4 = nI (4 * g) := by
  show nI g * nI 4 = _
  rw [pk_mul, Nat.mul_comm]
theorem bs_g8 (g : Nat) : nI g * 8 = nI (8 * g) := by
  show nI g * nI 8 = _
  rw [pk_mul, Nat.mul_comm]
theorem bs_p (g q : Nat) : nI g * 32 + nI q * 4 = nI (32 * g + 4 * q) := by
  rw [bs_g32, bs_g4, nI_add]
theorem bs_pw (g q i : Nat) : nI g * 32 + nI q * 4 + nI i = nI (32 * g + 4 * q + i) := by
  rw [bs_p, nI_add]
theorem bs_q (g q : Nat) : nI g * 8 + nI q = nI (8 * g + q) := by
  rw [bs_g8, nI_add]
theorem bs_4w (q i : Nat) : nI q * 4 + nI i = nI (4 * q + i) := by
  rw [bs_g4, nI_add]
/-- the array when d words more are filled, from the word i on -/
def bs_fl (p : Nat) (v s : Int32) : Nat → Nat → (Nat → Int32) → (Nat → Int32)
  | 0, _, a => a
  | d + 1, i, a => bs_fl p v s d (i + 1) (upd a (p + i) (v + nI i * s))
/-- the array when d words more are copied, from the word i on -/
def bs_cp (p q : Nat) : Nat → Nat → (Nat → Int32) → (Nat → Int32)
  | 0, _, a => a
  | d + 1, i, a => bs_cp p q d (i + 1) (upd a (q + i) (a (p + i)))
/-- are the d words from i on of the pages at p and q equal? -/
def bs_al (a : Nat → Int32) (p q : Nat) : Nat → Nat → Int32
  | 0, _ => 1
  | d + 1, i => if a (p + i) = a (q + i) then bs_al a p q d (i + 1) else 0
theorem bs_al01 (a : Nat → Int32) (p q : Nat) : ∀ d i : Nat, bs_al a p q d i = 0 ∨ bs_al a p q d i = 1 := by
  intro d
  induction d with
  | zero => exact fun _ => Or.inr rfl
  | succ d ih =>
    intro i
    by_cases h : a (p + i) = a (q + i)
    · simp only [bs_al, if_pos h]; exact ih (i + 1)
    · simp only [bs_al, if_neg h]; exact Or.inl (by trivial)
/-- how many of the d pages from the page at f on equal the page at p -/
def bs_ct (a : Nat → Int32) (p : Nat) : Nat → Nat → Nat
  | 0, _ => 0
  | d + 1, f => (if bs_al a p f 4 0 = 0 then 0 else 1) + bs_ct a p d (f + 4)
theorem bs_ctB (a : Nat → Int32) (p : Nat) : ∀ d f : Nat, bs_ct a p d f ≤ d := by
  intro d
  induction d with
  | zero => exact fun _ => Nat.le_refl 0
  | succ d ih =>
    intro f
    have h := ih (f + 4)
    simp only [bs_ct]
    split <;> omega
/-- how many of the d pages from the page j of the guest at b on are the first of their content -/
def bs_co (a : Nat → Int32) (b : Nat) : Nat → Nat → Nat
  | 0, _ => 0
  | d + 1, j => (if bs_ct a (b + 4 * j) j b = 0 then 1 else 0) + bs_co a b d (j + 1)
/-- the sum of d words more, from the word i on -/
def bs_sm (a : Nat → Int32) (p : Nat) : Nat → Nat → Int32 → Int32
  | 0, _, t => t
  | d + 1, i, t => bs_sm a p d (i + 1) (t + a (p + i) * nI (i + 1))
/-- the shares when d more are set to 1, from the guest i on -/
def bs_on : Nat → Nat → (Nat → Int32) → (Nat → Int32)
  | 0, _, b => b
  | d + 1, i, b => bs_on d (i + 1) (upd b i 1)
