/-! the small methods: is it a guest, a page, a word; the refusals; the place -/
theorem bs_gt (post : Int32 → Prop) {g : Nat} (hg : g < 3) (h : post 1) : wpX_isGuest post (nI g) :=
  br_f (nI_pos (by omega)) (br_f (nI_ge (b := 3) hg (by decide)) h)
theorem bs_gf (post : Int32 → Prop) {x : Int32} (hx : ¬ bs_in 3 x) (h : post 0) : wpX_isGuest post x := by
  rcases bs_ni hx with h0 | ⟨j, hj, h3, rfl⟩
  · exact br_t h0 h
  · exact br_f (nI_pos hj) (br_t (nI_le (a := 3) h3 hj) h)
theorem bs_pt (post : Int32 → Prop) {g : Nat} (hg : g < 8) (h : post 1) : wpX_isPage post (nI g) :=
  br_f (nI_pos (by omega)) (br_f (nI_ge (b := 8) hg (by decide)) h)
theorem bs_pf (post : Int32 → Prop) {x : Int32} (hx : ¬ bs_in 8 x) (h : post 0) : wpX_isPage post x := by
  rcases bs_ni hx with h0 | ⟨j, hj, h3, rfl⟩
  · exact br_t h0 h
  · exact br_f (nI_pos hj) (br_t (nI_le (a := 8) h3 hj) h)
theorem bs_wt (post : Int32 → Prop) {g : Nat} (hg : g < 32) (h : post 1) : wpX_isWord post (nI g) :=
  br_f (nI_pos (by omega)) (br_f (nI_ge (b := 32) hg (by decide)) h)
theorem bs_wf (post : Int32 → Prop) {x : Int32} (hx : ¬ bs_in 32 x) (h : post 0) : wpX_isWord post x := by
  rcases bs_ni hx with h0 | ⟨j, hj, h3, rfl⟩
  · exact br_t h0 h
  · exact br_f (nI_pos hj) (br_t (nI_le (a := 32) h3 hj) h)
theorem bs_ygt (post : Int32 → Prop) (a b : Nat → Int32) {g : Nat} (hg : g < 3) (h : post 0) : wpY_badGuest post (a, b) (nI g) :=
  br_f (nI_pos (by omega)) (br_t (nI_le (b := 2) (by omega) (by decide)) h)
theorem bs_ygf (post : Int32 → Prop) (a b : Nat → Int32) {x : Int32} (hx : ¬ bs_in 3 x) (h : post 1) : wpY_badGuest post (a, b) x := by
  rcases bs_ni hx with h0 | ⟨j, hj, h3, rfl⟩
  · exact br_t h0 h
  · exact br_f (nI_pos hj) (br_f (nI_ge (a := 2) (by omega) hj) h)
theorem bs_ypt (post : Int32 → Prop) (a b : Nat → Int32) {g : Nat} (hg : g < 8) (h : post 0) : wpY_badPage post (a, b) (nI g) :=
  br_f (nI_pos (by omega)) (br_t (nI_le (b := 7) (by omega) (by decide)) h)
theorem bs_ypf (post : Int32 → Prop) (a b : Nat → Int32) {x : Int32} (hx : ¬ bs_in 8 x) (h : post 1) : wpY_badPage post (a, b) x := by
  rcases bs_ni hx with h0 | ⟨j, hj, h3, rfl⟩
  · exact br_t h0 h
  · exact br_f (nI_pos hj) (br_f (nI_ge (a := 7) (by omega) hj) h)
/-- the reference's own test of a word -/
theorem bs_ywt {A B : Prop} {w : Nat} (hw : w < 32) (h : A) : (nI w < 0 → B) ∧ (¬ nI w < 0 → ((nI w ≤ 31 → A) ∧ (¬ nI w ≤ 31 → B))) :=
  br_f (nI_pos (by omega)) (br_t (nI_le (b := 31) (by omega) (by decide)) h)
theorem bs_ywf {A B : Prop} {x : Int32} (hx : ¬ bs_in 32 x) (h : B) : (x < 0 → B) ∧ (¬ x < 0 → ((x ≤ 31 → A) ∧ (¬ x ≤ 31 → B))) := by
  rcases bs_ni hx with h0 | ⟨j, hj, h3, rfl⟩
  · exact br_t h0 h
  · exact br_f (nI_pos hj) (br_f (nI_ge (a := 31) (by omega) hj) h)
theorem bs_10 : ¬ (1 : Int32) = 0 := by decide
theorem bs_m1 : ¬ (-1 : Int32) = 0 := by decide
theorem bs_m2 : ¬ (-2 : Int32) = 0 := by decide
theorem bs_rg (post : Int32 → Prop) {a b c d : Int32} (hx : ¬ (bs_in 3 a ∧ bs_in 3 c)) (h : post (-1)) : wpX_refusalOfPair post a b c d := by
  unfold wpX_refusalOfPair
  by_cases ha : bs_in 3 a
  · obtain ⟨g, hg, rfl⟩ := ha
    have hc : ¬ bs_in 3 c := fun z => hx ⟨⟨g, hg, rfl⟩, z⟩
    exact bs_gt _ hg (br_f bs_10 (bs_gf _ hc (br_t rfl h)))
  · exact bs_gf _ ha (br_t rfl h)
theorem bs_rp (post : Int32 → Prop) {g e : Nat} {b d : Int32} (hg : g < 3) (he : e < 3) (hx : ¬ (bs_in 8 b ∧ bs_in 8 d)) (h : post (-2)) : wpX_refusalOfPair post (nI g) b (nI e) d := by
  unfold wpX_refusalOfPair
  refine bs_gt _ hg (br_f bs_10 (bs_gt _ he (br_f bs_10 ?_)))
  by_cases hb : bs_in 8 b
  · obtain ⟨q, hq, rfl⟩ := hb
    have hc : ¬ bs_in 8 d := fun z => hx ⟨⟨q, hq, rfl⟩, z⟩
    exact bs_pt _ hq (br_f bs_10 (bs_pf _ hc (br_t rfl h)))
  · exact bs_pf _ hb (br_t rfl h)
theorem bs_r0 (post : Int32 → Prop) {g e q t : Nat} (hg : g < 3) (he : e < 3) (hq : q < 8) (ht : t < 8) (h : post 0) : wpX_refusalOfPair post (nI g) (nI q) (nI e) (nI t) := by
  unfold wpX_refusalOfPair
  exact bs_gt _ hg (br_f bs_10 (bs_gt _ he (br_f bs_10 (bs_pt _ hq (br_f bs_10 (bs_pt _ ht (br_f bs_10 h)))))))
theorem bs_og (post : Int32 → Prop) {x y : Int32} (hx : ¬ bs_in 3 x) (h : post (-1)) : wpX_refusalOf post x y := by
  unfold wpX_refusalOf
  exact bs_rg _ (fun z => hx z.1) h
theorem bs_op (post : Int32 → Prop) {g : Nat} {y : Int32} (hg : g < 3) (hy : ¬ bs_in 8 y) (h : post (-2)) : wpX_refusalOf post (nI g) y := by
  unfold wpX_refusalOf
  exact bs_rp _ hg hg (fun z => hy z.1) h
theorem bs_o0 (post : Int32 → Prop) {g q : Nat} (hg : g < 3) (hq : q < 8) (h : post 0) : wpX_refusalOf post (nI g) (nI q) := by
  unfold wpX_refusalOf
  exact bs_r0 _ hg hg hq hq h
theorem bs_pl (post : Int32 → Prop) (g q : Nat) (h : post (nI (32 * g + 4 * q))) : wpX_placeOf post (nI g) (nI q) := by
  unfold wpX_placeOf
  rw [bs_p]
  exact h
