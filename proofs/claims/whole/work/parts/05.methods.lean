/-! each public method of both sides, with a general post -/
theorem bs_Xwrite (post : Int32 → SX → Prop) (f : Int32) (a b : Nat → Int32) (x y v : Int32) (h1 : ¬ bs_in 3 x → post (-1) (f, a, b)) (h2 : bs_in 3 x → ¬ bs_in 32 y → post (-3) (f, a, b))
    (h3 : ∀ g w : Nat, g < 3 → w < 32 → x = nI g → y = nI w → post 0 (f, upd a (32 * g + w) v, b)) : wpX_write post (f, a, b) x y v := by
  unfold wpX_write
  dsimp only
  by_cases hx : bs_in 3 x
  · by_cases hy : bs_in 32 y
    · obtain ⟨g, hg, rfl⟩ := hx
      obtain ⟨w, hw, rfl⟩ := hy
      refine bs_gt _ hg (br_f bs_10 (bs_wt _ hw (br_f bs_10 ⟨bs_vi (32 * g + w) (bs_w g w) (by omega), nm_r (e' := upd a (32 * g + w) v) ?_ (h3 g w hg hw rfl rfl)⟩)))
      rw [bs_cl (32 * g + w) (bs_w g w) (by omega)]
    · have h := h2 hx hy
      obtain ⟨g, hg, rfl⟩ := hx
      exact bs_gt _ hg (br_f bs_10 (bs_wf _ hy (br_t rfl h)))
  · exact bs_gf _ hx (br_t rfl (h1 hx))
theorem bs_Ywrite (post : Int32 → SY → Prop) (a b : Nat → Int32) (x y v : Int32) (h1 : ¬ bs_in 3 x → post (-1) (a, b)) (h2 : bs_in 3 x → ¬ bs_in 32 y → post (-3) (a, b))
    (h3 : ∀ g w : Nat, g < 3 → w < 32 → x = nI g → y = nI w → post 0 (upd a (32 * g + w) v, b)) : wpY_write post (a, b) x y v := by
  unfold wpY_write
  dsimp only
  by_cases hx : bs_in 3 x
  · by_cases hy : bs_in 32 y
    · obtain ⟨g, hg, rfl⟩ := hx
      obtain ⟨w, hw, rfl⟩ := hy
      refine bs_ygt _ a b hg (br_t rfl (bs_ywt hw ⟨bs_vi (32 * g + w) (bs_w g w) (by omega), nm_r (e' := upd a (32 * g + w) v) ?_ (h3 g w hg hw rfl rfl)⟩))
      rw [bs_cl (32 * g + w) (bs_w g w) (by omega)]
    · have h := h2 hx hy
      obtain ⟨g, hg, rfl⟩ := hx
      exact bs_ygt _ a b hg (br_t rfl (bs_ywf hy h))
  · exact bs_ygf _ a b hx (br_f bs_10 (h1 hx))
theorem bs_xfp (post : SX → Prop) (p : Nat) (hp : p + 4 ≤ 96) (v s f : Int32) (a b : Nat → Int32) (h : post (f, bs_fl p v s 4 0 a, b)) : wpX_fillPlace post (f, a, b) (nI p) v s :=
  ⟨5, bs_xfl post p hp v s f b 4 0 a rfl h⟩
theorem bs_xcw (post : SX → Prop) (p q c : Nat) (hp : p + c ≤ 96) (hq : q + c ≤ 96) (f : Int32) (a b : Nat → Int32) (h : post (f, bs_cp p q c 0 a, b)) : wpX_copyWords post (f, a, b) (nI p) (nI q) (nI c) :=
  ⟨c + 1, bs_xcp post p q c hp hq f b c 0 a (Nat.zero_add c) h⟩
theorem bs_Xfill (post : Int32 → SX → Prop) (f : Int32) (a b : Nat → Int32) (x y v s : Int32) (h1 : ¬ bs_in 3 x → post (-1) (f, a, b)) (h2 : bs_in 3 x → ¬ bs_in 8 y → post (-2) (f, a, b))
    (h3 : ∀ g q : Nat, g < 3 → q < 8 → x = nI g → y = nI q → post 0 (f, bs_fl (32 * g + 4 * q) v s 4 0 a, b)) : wpX_fill post (f, a, b) x y v s := by
  unfold wpX_fill
  dsimp only
  by_cases hx : bs_in 3 x
  · by_cases hy : bs_in 8 y
    · obtain ⟨g, hg, rfl⟩ := hx
      obtain ⟨q, hq, rfl⟩ := hy
      exact bs_o0 _ hg hq (br_t rfl (bs_pl _ g q (bs_xfp _ (32 * g + 4 * q) (by omega) v s f a b (h3 g q hg hq rfl rfl))))
    · have h := h2 hx hy
      obtain ⟨g, hg, rfl⟩ := hx
      exact bs_op _ hg hy (br_f bs_m2 h)
  · exact bs_og _ hx (br_f bs_m1 (h1 hx))
theorem bs_Yfill (post : Int32 → SY → Prop) (a b : Nat → Int32) (x y v s : Int32) (h1 : ¬ bs_in 3 x → post (-1) (a, b)) (h2 : bs_in 3 x → ¬ bs_in 8 y → post (-2) (a, b))
    (h3 : ∀ g q : Nat, g < 3 → q < 8 → x = nI g → y = nI q → post 0 (bs_fl (32 * g + 4 * q) v s 4 0 a, b)) : wpY_fill post (a, b) x y v s := by
  unfold wpY_fill
  dsimp only
  by_cases hx : bs_in 3 x
  · by_cases hy : bs_in 8 y
    · obtain ⟨g, hg, rfl⟩ := hx
      obtain ⟨q, hq, rfl⟩ := hy
      exact bs_ygt _ a b hg (br_t rfl (bs_ypt _ a b hq (br_t rfl ⟨5, bs_yfl post g q hg hq v s b 4 0 a rfl (h3 g q hg hq rfl rfl)⟩)))
    · have h := h2 hx hy
      obtain ⟨g, hg, rfl⟩ := hx
      exact bs_ygt _ a b hg (br_t rfl (bs_ypf _ a b hy (br_f bs_10 h)))
  · exact bs_ygf _ a b hx (br_f bs_10 (h1 hx))
theorem bs_Xrelease (post : Int32 → SX → Prop) (f : Int32) (a b : Nat → Int32) (x y : Int32) (h1 : ¬ bs_in 3 x → post (-1) (f, a, b)) (h2 : bs_in 3 x → ¬ bs_in 8 y → post (-2) (f, a, b))
    (h3 : ∀ g q : Nat, g < 3 → q < 8 → x = nI g → y = nI q → post 0 (f, bs_fl (32 * g + 4 * q) 0 0 4 0 a, b)) : wpX_release post (f, a, b) x y := by
  unfold wpX_release
  dsimp only
  by_cases hx : bs_in 3 x
  · by_cases hy : bs_in 8 y
    · obtain ⟨g, hg, rfl⟩ := hx
      obtain ⟨q, hq, rfl⟩ := hy
      exact bs_o0 _ hg hq (br_t rfl (bs_pl _ g q (bs_xfp _ (32 * g + 4 * q) (by omega) 0 0 f a b (h3 g q hg hq rfl rfl))))
    · have h := h2 hx hy
      obtain ⟨g, hg, rfl⟩ := hx
      exact bs_op _ hg hy (br_f bs_m2 h)
  · exact bs_og _ hx (br_f bs_m1 (h1 hx))
theorem bs_Yrelease (post : Int32 → SY → Prop) (a b : Nat → Int32) (x y : Int32) (h1 : ¬ bs_in 3 x → post (-1) (a, b)) (h2 : bs_in 3 x → ¬ bs_in 8 y → post (-2) (a, b))
    (h3 : ∀ g q : Nat, g < 3 → q < 8 → x = nI g → y = nI q → post 0 (bs_fl (32 * g + 4 * q) 0 0 4 0 a, b)) : wpY_release post (a, b) x y := by
  unfold wpY_release
  dsimp only
  exact bs_Yfill _ a b x y 0 0 h1 h2 h3
theorem bs_Xcopy (post : Int32 → SX → Prop) (f : Int32) (a b : Nat → Int32) (x y z w : Int32) (h1 : ¬ (bs_in 3 x ∧ bs_in 3 z) → post (-1) (f, a, b)) (h2 : bs_in 3 x ∧ bs_in 3 z → ¬ (bs_in 8 y ∧ bs_in 8 w) → post (-2) (f, a, b))
    (h3 : ∀ g q e t : Nat, g < 3 → q < 8 → e < 3 → t < 8 → x = nI g → y = nI q → z = nI e → w = nI t → post 0 (f, bs_cp (32 * g + 4 * q) (32 * e + 4 * t) 4 0 a, b)) : wpX_copy post (f, a, b) x y z w := by
  unfold wpX_copy
  dsimp only
  by_cases hx : bs_in 3 x ∧ bs_in 3 z
  · by_cases hy : bs_in 8 y ∧ bs_in 8 w
    · obtain ⟨⟨g, hg, rfl⟩, ⟨e, he, rfl⟩⟩ := hx
      obtain ⟨⟨q, hq, rfl⟩, ⟨t, ht, rfl⟩⟩ := hy
      exact bs_r0 _ hg he hq ht (br_t rfl (bs_pl _ g q (bs_pl _ e t (bs_xcw _ (32 * g + 4 * q) (32 * e + 4 * t) 4 (by omega) (by omega) f a b (h3 g q e t hg hq he ht rfl rfl rfl rfl)))))
    · have h := h2 hx hy
      obtain ⟨⟨g, hg, rfl⟩, ⟨e, he, rfl⟩⟩ := hx
      exact bs_rp _ hg he hy (br_f bs_m2 h)
  · exact bs_rg _ hx (br_f bs_m1 (h1 hx))
theorem bs_Ycopy (post : Int32 → SY → Prop) (a b : Nat → Int32) (x y z w : Int32) (h1 : ¬ (bs_in 3 x ∧ bs_in 3 z) → post (-1) (a, b)) (h2 : bs_in 3 x ∧ bs_in 3 z → ¬ (bs_in 8 y ∧ bs_in 8 w) → post (-2) (a, b))
    (h3 : ∀ g q e t : Nat, g < 3 → q < 8 → e < 3 → t < 8 → x = nI g → y = nI q → z = nI e → w = nI t → post 0 (bs_cp (32 * g + 4 * q) (32 * e + 4 * t) 4 0 a, b)) : wpY_copy post (a, b) x y z w := by
  unfold wpY_copy
  dsimp only
  by_cases hx : bs_in 3 x
  · by_cases hz : bs_in 3 z
    · by_cases hy : bs_in 8 y
      · by_cases hw : bs_in 8 w
        · obtain ⟨g, hg, rfl⟩ := hx
          obtain ⟨e, he, rfl⟩ := hz
          obtain ⟨q, hq, rfl⟩ := hy
          obtain ⟨t, ht, rfl⟩ := hw
          exact bs_ygt _ a b hg (br_t rfl (bs_ygt _ a b he (br_t rfl (bs_ypt _ a b hq (br_t rfl (bs_ypt _ a b ht (br_t rfl ⟨5, bs_ycp post g q e t hg hq he ht b 4 0 a rfl (h3 g q e t hg hq he ht rfl rfl rfl rfl)⟩)))))))
        · have h := h2 ⟨hx, hz⟩ (fun k => hw k.2)
          obtain ⟨g, hg, rfl⟩ := hx
          obtain ⟨e, he, rfl⟩ := hz
          obtain ⟨q, hq, rfl⟩ := hy
          exact bs_ygt _ a b hg (br_t rfl (bs_ygt _ a b he (br_t rfl (bs_ypt _ a b hq (br_t rfl (bs_ypf _ a b hw (br_f bs_10 h)))))))
      · have h := h2 ⟨hx, hz⟩ (fun k => hy k.1)
        obtain ⟨g, hg, rfl⟩ := hx
        obtain ⟨e, he, rfl⟩ := hz
        exact bs_ygt _ a b hg (br_t rfl (bs_ygt _ a b he (br_t rfl (bs_ypf _ a b hy (br_f bs_10 h)))))
    · have h := h1 (fun k => hz k.2)
      obtain ⟨g, hg, rfl⟩ := hx
      exact bs_ygt _ a b hg (br_t rfl (bs_ygf _ a b hz (br_f bs_10 h)))
  · exact bs_ygf _ a b hx (br_f bs_10 (h1 (fun k => hx k.1)))
theorem bs_Xclone (post : Int32 → SX → Prop) (f : Int32) (a b : Nat → Int32) (x z : Int32) (h1 : ¬ (bs_in 3 x ∧ bs_in 3 z) → post (-1) (f, a, b))
    (h3 : ∀ g e : Nat, g < 3 → e < 3 → x = nI g → z = nI e → post 0 (f, bs_cp (32 * g) (32 * e) 32 0 a, b)) : wpX_cloneGuest post (f, a, b) x z := by
  unfold wpX_cloneGuest
  dsimp only
  by_cases hx : bs_in 3 x
  · by_cases hz : bs_in 3 z
    · obtain ⟨g, hg, rfl⟩ := hx
      obtain ⟨e, he, rfl⟩ := hz
      rw [bs_g32 g, bs_g32 e]
      exact bs_gt _ hg (br_f bs_10 (bs_gt _ he (br_f bs_10 (bs_xcw _ (32 * g) (32 * e) 32 (by omega) (by omega) f a b (h3 g e hg he rfl rfl)))))
    · have h := h1 (fun k => hz k.2)
      obtain ⟨g, hg, rfl⟩ := hx
      exact bs_gt _ hg (br_f bs_10 (bs_gf _ hz (br_t rfl h)))
  · exact bs_gf _ hx (br_t rfl (h1 (fun k => hx k.1)))
theorem bs_Yclone (post : Int32 → SY → Prop) (a b : Nat → Int32) (x z : Int32) (h1 : ¬ (bs_in 3 x ∧ bs_in 3 z) → post (-1) (a, b))
    (h3 : ∀ g e : Nat, g < 3 → e < 3 → x = nI g → z = nI e → post 0 (bs_cp (32 * g) (32 * e) 32 0 a, b)) : wpY_cloneGuest post (a, b) x z := by
  unfold wpY_cloneGuest
  dsimp only
  by_cases hx : bs_in 3 x
  · by_cases hz : bs_in 3 z
    · obtain ⟨g, hg, rfl⟩ := hx
      obtain ⟨e, he, rfl⟩ := hz
      exact bs_ygt _ a b hg (br_t rfl (bs_ygt _ a b he (br_t rfl ⟨33, bs_ycg post g e hg he b 32 0 a rfl (h3 g e hg he rfl rfl)⟩)))
    · have h := h1 (fun k => hz k.2)
      obtain ⟨g, hg, rfl⟩ := hx
      exact bs_ygt _ a b hg (br_t rfl (bs_ygf _ a b hz (br_f bs_10 h)))
  · exact bs_ygf _ a b hx (br_f bs_10 (h1 (fun k => hx k.1)))
