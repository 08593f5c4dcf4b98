/-! the methods that only read -/
theorem bs_Xread (post : Int32 → Prop) (f : Int32) (a b : Nat → Int32) (x y : Int32) (h1 : ¬ (bs_in 3 x ∧ bs_in 32 y) → post 0)
    (h3 : ∀ g w : Nat, g < 3 → w < 32 → x = nI g → y = nI w → post (a (32 * g + w))) : wpX_read post (f, a, b) x y := by
  unfold wpX_read
  dsimp only
  by_cases hx : bs_in 3 x
  · by_cases hy : bs_in 32 y
    · obtain ⟨g, hg, rfl⟩ := hx
      obtain ⟨w, hw, rfl⟩ := hy
      rw [bs_cl (32 * g + w) (bs_w g w) (by omega)]
      exact bs_gt _ hg (br_f bs_10 (bs_wt _ hw (br_f bs_10 ⟨bs_vi (32 * g + w) (bs_w g w) (by omega), h3 g w hg hw rfl rfl⟩)))
    · have h := h1 (fun k => hy k.2)
      obtain ⟨g, hg, rfl⟩ := hx
      exact bs_gt _ hg (br_f bs_10 (bs_wf _ hy (br_t rfl h)))
  · exact bs_gf _ hx (br_t rfl (h1 (fun k => hx k.1)))
theorem bs_Yread (post : Int32 → Prop) (a b : Nat → Int32) (x y : Int32) (h1 : ¬ (bs_in 3 x ∧ bs_in 32 y) → post 0)
    (h3 : ∀ g w : Nat, g < 3 → w < 32 → x = nI g → y = nI w → post (a (32 * g + w))) : wpY_read post (a, b) x y := by
  unfold wpY_read
  dsimp only
  by_cases hx : bs_in 3 x
  · by_cases hy : bs_in 32 y
    · obtain ⟨g, hg, rfl⟩ := hx
      obtain ⟨w, hw, rfl⟩ := hy
      rw [bs_cl (32 * g + w) (bs_w g w) (by omega)]
      exact bs_ygt _ a b hg (br_t rfl (bs_ywt hw ⟨bs_vi (32 * g + w) (bs_w g w) (by omega), h3 g w hg hw rfl rfl⟩))
    · have h := h1 (fun k => hy k.2)
      obtain ⟨g, hg, rfl⟩ := hx
      exact bs_ygt _ a b hg (br_t rfl (bs_ywf hy h))
  · exact bs_ygf _ a b hx (br_f bs_10 (h1 (fun k => hx k.1)))
theorem bs_Xsum (post : Int32 → Prop) (f : Int32) (a b : Nat → Int32) (x y : Int32) (h1 : ¬ (bs_in 3 x ∧ bs_in 8 y) → post 0)
    (h3 : ∀ g q : Nat, g < 3 → q < 8 → x = nI g → y = nI q → post (bs_sm a (32 * g + 4 * q) 4 0 0)) : wpX_sum post (f, a, b) x y := by
  unfold wpX_sum
  dsimp only
  by_cases hx : bs_in 3 x
  · by_cases hy : bs_in 8 y
    · obtain ⟨g, hg, rfl⟩ := hx
      obtain ⟨q, hq, rfl⟩ := hy
      exact bs_gt _ hg (br_f bs_10 (bs_pt _ hq (br_f bs_10 (bs_pl _ g q ⟨5, bs_xsm post (32 * g + 4 * q) (by omega) f a b 4 0 0 rfl (h3 g q hg hq rfl rfl)⟩))))
    · have h := h1 (fun k => hy k.2)
      obtain ⟨g, hg, rfl⟩ := hx
      exact bs_gt _ hg (br_f bs_10 (bs_pf _ hy (br_t rfl h)))
  · exact bs_gf _ hx (br_t rfl (h1 (fun k => hx k.1)))
theorem bs_Ysum (post : Int32 → Prop) (a b : Nat → Int32) (x y : Int32) (h1 : ¬ (bs_in 3 x ∧ bs_in 8 y) → post 0)
    (h3 : ∀ g q : Nat, g < 3 → q < 8 → x = nI g → y = nI q → post (bs_sm a (32 * g + 4 * q) 4 0 0)) : wpY_sum post (a, b) x y := by
  unfold wpY_sum
  dsimp only
  by_cases hx : bs_in 3 x
  · by_cases hy : bs_in 8 y
    · obtain ⟨g, hg, rfl⟩ := hx
      obtain ⟨q, hq, rfl⟩ := hy
      exact bs_ygt _ a b hg (br_t rfl (bs_ypt _ a b hq (br_t rfl ⟨5, bs_ysm post g q hg hq a b 4 0 0 rfl (h3 g q hg hq rfl rfl)⟩)))
    · have h := h1 (fun k => hy k.2)
      obtain ⟨g, hg, rfl⟩ := hx
      exact bs_ygt _ a b hg (br_t rfl (bs_ypf _ a b hy (br_f bs_10 h)))
  · exact bs_ygf _ a b hx (br_f bs_10 (h1 (fun k => hx k.1)))
theorem bs_nb (a : Nat → Int32) (p q : Nat) : narrow .boolean (.int (bs_al a p q 4 0)) = .int (bs_al a p q 4 0) := by
  rcases bs_al01 a p q 4 0 with h | h <;> rw [h] <;> rfl
theorem bs_Xsame (post : Int32 → Prop) (f : Int32) (a b : Nat → Int32) (x y z w : Int32) (h1 : ¬ ((bs_in 3 x ∧ bs_in 3 z) ∧ (bs_in 8 y ∧ bs_in 8 w)) → post 0)
    (h3 : ∀ g q e t : Nat, g < 3 → q < 8 → e < 3 → t < 8 → x = nI g → y = nI q → z = nI e → w = nI t → post (bs_al a (32 * g + 4 * q) (32 * e + 4 * t) 4 0)) : wpX_same post (f, a, b) x y z w := by
  unfold wpX_same
  dsimp only
  by_cases hx : bs_in 3 x ∧ bs_in 3 z
  · by_cases hy : bs_in 8 y ∧ bs_in 8 w
    · obtain ⟨⟨g, hg, rfl⟩, ⟨e, he, rfl⟩⟩ := hx
      obtain ⟨⟨q, hq, rfl⟩, ⟨t, ht, rfl⟩⟩ := hy
      exact bs_r0 _ hg he hq ht (br_t rfl (bs_pl _ g q (bs_pl _ e t (bs_xal _ (32 * g + 4 * q) (32 * e + 4 * t) (by omega) (by omega) f a b ⟨bs_nb a _ _, h3 g q e t hg hq he ht rfl rfl rfl rfl⟩))))
    · have h := h1 (fun k => hy k.2)
      obtain ⟨⟨g, hg, rfl⟩, ⟨e, he, rfl⟩⟩ := hx
      exact bs_rp _ hg he hy (br_f bs_m2 h)
  · exact bs_rg _ hx (br_f bs_m1 (h1 (fun k => hx k.1)))
theorem bs_Ysame (post : Int32 → Prop) (a b : Nat → Int32) (x y z w : Int32) (h1 : ¬ ((bs_in 3 x ∧ bs_in 3 z) ∧ (bs_in 8 y ∧ bs_in 8 w)) → post 0)
    (h3 : ∀ g q e t : Nat, g < 3 → q < 8 → e < 3 → t < 8 → x = nI g → y = nI q → z = nI e → w = nI t → post (bs_al a (32 * g + 4 * q) (32 * e + 4 * t) 4 0)) : wpY_same post (a, b) x y z w := by
  unfold wpY_same
  dsimp only
  by_cases hx : bs_in 3 x
  · by_cases hz : bs_in 3 z
    · by_cases hy : bs_in 8 y
      · by_cases hw : bs_in 8 w
        · obtain ⟨g, hg, rfl⟩ := hx
          obtain ⟨e, he, rfl⟩ := hz
          obtain ⟨q, hq, rfl⟩ := hy
          obtain ⟨t, ht, rfl⟩ := hw
          rw [bs_q g q, bs_q e t]
          exact bs_ygt _ a b hg (br_t rfl (bs_ygt _ a b he (br_t rfl (bs_ypt _ a b hq (br_t rfl (bs_ypt _ a b ht (br_t rfl (bs_yal _ (8 * g + q) (8 * e + t) (32 * g + 4 * q) (32 * e + 4 * t) (by omega) (by omega) (by omega) (by omega) a b ⟨bs_nb a _ _, h3 g q e t hg hq he ht rfl rfl rfl rfl⟩))))))))
        · have h := h1 (fun k => hw k.2.2)
          obtain ⟨g, hg, rfl⟩ := hx
          obtain ⟨e, he, rfl⟩ := hz
          obtain ⟨q, hq, rfl⟩ := hy
          exact bs_ygt _ a b hg (br_t rfl (bs_ygt _ a b he (br_t rfl (bs_ypt _ a b hq (br_t rfl (bs_ypf _ a b hw (br_f bs_10 h)))))))
      · have h := h1 (fun k => hy k.2.1)
        obtain ⟨g, hg, rfl⟩ := hx
        obtain ⟨e, he, rfl⟩ := hz
        exact bs_ygt _ a b hg (br_t rfl (bs_ygt _ a b he (br_t rfl (bs_ypf _ a b hy (br_f bs_10 h)))))
    · have h := h1 (fun k => hz k.1.2)
      obtain ⟨g, hg, rfl⟩ := hx
      exact bs_ygt _ a b hg (br_t rfl (bs_ygf _ a b hz (br_f bs_10 h)))
  · exact bs_ygf _ a b hx (br_f bs_10 (h1 (fun k => hx k.1.1)))
theorem bs_Xcontents (post : Int32 → Prop) (f : Int32) (a b : Nat → Int32) (x : Int32) (h1 : ¬ bs_in 3 x → post (-1))
    (h3 : ∀ g : Nat, g < 3 → x = nI g → post (nI (0 + bs_co a (32 * g) 8 0))) : wpX_contents post (f, a, b) x := by
  unfold wpX_contents
  dsimp only
  by_cases hx : bs_in 3 x
  · obtain ⟨g, hg, rfl⟩ := hx
    exact bs_gt _ hg (br_f bs_10 (nm_r (bs_g32 g) ⟨9, bs_xco post (32 * g) (by omega) f a b 8 0 0 rfl (h3 g hg rfl)⟩))
  · exact bs_gf _ hx (br_t rfl (h1 hx))
theorem bs_Ycontents (post : Int32 → Prop) (a b : Nat → Int32) (x : Int32) (h1 : ¬ bs_in 3 x → post (-1))
    (h3 : ∀ g : Nat, g < 3 → x = nI g → post (nI (0 + bs_co a (32 * g) 8 0))) : wpY_contents post (a, b) x := by
  unfold wpY_contents
  dsimp only
  by_cases hx : bs_in 3 x
  · obtain ⟨g, hg, rfl⟩ := hx
    exact bs_ygt _ a b hg (br_t rfl ⟨9, bs_yco post g hg a b 8 0 0 rfl (h3 g hg rfl)⟩)
  · exact bs_ygf _ a b hx (br_f bs_10 (h1 hx))
theorem bs_Xtwins (post : Int32 → Prop) (f : Int32) (a b : Nat → Int32) (x y : Int32) (h1 : ¬ bs_in 3 x → post (-1)) (h2 : bs_in 3 x → ¬ bs_in 8 y → post (-2))
    (h3 : ∀ g q : Nat, g < 3 → q < 8 → x = nI g → y = nI q → post (nI (bs_ct a (32 * g + 4 * q) 24 0))) : wpX_twins post (f, a, b) x y := by
  unfold wpX_twins
  dsimp only
  by_cases hx : bs_in 3 x
  · by_cases hy : bs_in 8 y
    · obtain ⟨g, hg, rfl⟩ := hx
      obtain ⟨q, hq, rfl⟩ := hy
      exact bs_o0 _ hg hq (br_t rfl (bs_pl _ g q (bs_xce _ (32 * g + 4 * q) 0 24 (by omega) (by omega) f a b (h3 g q hg hq rfl rfl))))
    · have h := h2 hx hy
      obtain ⟨g, hg, rfl⟩ := hx
      exact bs_op _ hg hy (br_f bs_m2 h)
  · exact bs_og _ hx (br_f bs_m1 (h1 hx))
theorem bs_Ytwins (post : Int32 → Prop) (a b : Nat → Int32) (x y : Int32) (h1 : ¬ bs_in 3 x → post (-1)) (h2 : bs_in 3 x → ¬ bs_in 8 y → post (-2))
    (h3 : ∀ g q : Nat, g < 3 → q < 8 → x = nI g → y = nI q → post (nI (bs_ct a (32 * g + 4 * q) 24 0))) : wpY_twins post (a, b) x y := by
  unfold wpY_twins
  dsimp only
  by_cases hx : bs_in 3 x
  · by_cases hy : bs_in 8 y
    · obtain ⟨g, hg, rfl⟩ := hx
      obtain ⟨q, hq, rfl⟩ := hy
      have h := h3 g q hg hq rfl rfl
      rw [← Nat.zero_add (bs_ct a (32 * g + 4 * q) 24 0)] at h
      exact bs_ygt _ a b hg (br_t rfl (bs_ypt _ a b hq (br_t rfl ⟨25, bs_ytw post g q hg hq a b 24 0 0 rfl h⟩)))
    · have h := h2 hx hy
      obtain ⟨g, hg, rfl⟩ := hx
      exact bs_ygt _ a b hg (br_t rfl (bs_ypf _ a b hy (br_f bs_10 h)))
  · exact bs_ygf _ a b hx (br_f bs_10 (h1 hx))
