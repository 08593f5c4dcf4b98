/-! the relation, and what is owed -/
/-- the class's words and shares are the reference's; its frames are free -/
def i_Rel (_ : Nat) (u : SX) (v : SY) : Prop := u.2 = v
theorem i_up {k : Nat} {u : SX} {v : SY} (h : i_Rel k u v) : i_Rel (k + 5) u v := h
theorem bs_i0 (f k0 : Int32) : wpY_init (fun v => i_Rel 1 (f, (fun _ => 0), bs_on 3 0 (fun _ => 0)) v) k0 :=
  ⟨4, bs_yon _ (fun _ => 0) 3 0 (fun _ => 0) rfl rfl⟩
theorem i_vc0 (k0 : Int32) : wpX_init (fun u => wpY_init (fun v => i_Rel 1 u v) k0) k0 :=
  br_c (fun _ => br_c (fun _ => ⟨4, bs_xon _ k0 (fun _ => 0) 3 0 (fun _ => 0) rfl (bs_i0 k0 k0)⟩) (fun _ => ⟨4, bs_xon _ 16 (fun _ => 0) 3 0 (fun _ => 0) rfl (bs_i0 16 k0)⟩)) (fun _ => ⟨4, bs_xon _ 3 (fun _ => 0) 3 0 (fun _ => 0) rfl (bs_i0 3 k0)⟩)
theorem bs_eq {g e : Nat} (hg : g < 96) (he : e < 96) (h : nI g = nI e) : g = e := (nI_eq (by omega) (by omega)).mp h
theorem i_vc_write {k : Nat} {u : SX} {v : SY} (I : i_Rel k u v) (hk : k + 5 ≤ 2561) (v1 : Int32) (v2 : Int32) (v3 : Int32) : wpX_write (fun r u' => wpY_write (fun r' v' => r' = r ∧ i_Rel (k + 5) u' v') v v1 v2 v3) u v1 v2 v3 := by
  obtain ⟨f, a, b⟩ := u
  cases (show v = (a, b) from I.symm)
  refine bs_Xwrite _ f a b v1 v2 v3 (fun h => bs_Ywrite _ a b v1 v2 v3 (fun _ => ⟨rfl, rfl⟩) (fun k => absurd k h) (fun g w hg hw e1 e2 => absurd ⟨g, hg, e1⟩ h))
    (fun h n => bs_Ywrite _ a b v1 v2 v3 (fun k => absurd h k) (fun _ _ => ⟨rfl, rfl⟩) (fun g w hg hw e1 e2 => absurd ⟨w, hw, e2⟩ n))
    (fun g w hg hw e1 e2 => bs_Ywrite _ a b v1 v2 v3 (fun k => absurd ⟨g, hg, e1⟩ k) (fun _ k => absurd ⟨w, hw, e2⟩ k) (fun g' w' hg' hw' e1' e2' => ?_))
  cases bs_eq (by omega) (by omega) (e1.symm.trans e1')
  cases bs_eq (by omega) (by omega) (e2.symm.trans e2')
  exact ⟨rfl, rfl⟩
theorem i_vc_fill {k : Nat} {u : SX} {v : SY} (I : i_Rel k u v) (hk : k + 5 ≤ 2561) (v1 : Int32) (v2 : Int32) (v3 : Int32) (v4 : Int32) : wpX_fill (fun r u' => wpY_fill (fun r' v' => r' = r ∧ i_Rel (k + 5) u' v') v v1 v2 v3 v4) u v1 v2 v3 v4 := by
  obtain ⟨f, a, b⟩ := u
  cases (show v = (a, b) from I.symm)
  refine bs_Xfill _ f a b v1 v2 v3 v4 (fun h => bs_Yfill _ a b v1 v2 v3 v4 (fun _ => ⟨rfl, rfl⟩) (fun k => absurd k h) (fun g w hg hw e1 e2 => absurd ⟨g, hg, e1⟩ h))
    (fun h n => bs_Yfill _ a b v1 v2 v3 v4 (fun k => absurd h k) (fun _ _ => ⟨rfl, rfl⟩) (fun g w hg hw e1 e2 => absurd ⟨w, hw, e2⟩ n))
    (fun g w hg hw e1 e2 => bs_Yfill _ a b v1 v2 v3 v4 (fun k => absurd ⟨g, hg, e1⟩ k) (fun _ k => absurd ⟨w, hw, e2⟩ k) (fun g' w' hg' hw' e1' e2' => ?_))
  cases bs_eq (by omega) (by omega) (e1.symm.trans e1')
  cases bs_eq (by omega) (by omega) (e2.symm.trans e2')
  exact ⟨rfl, rfl⟩
theorem i_vc_copy {k : Nat} {u : SX} {v : SY} (I : i_Rel k u v) (hk : k + 5 ≤ 2561) (v1 : Int32) (v2 : Int32) (v3 : Int32) (v4 : Int32) : wpX_copy (fun r u' => wpY_copy (fun r' v' => r' = r ∧ i_Rel (k + 5) u' v') v v1 v2 v3 v4) u v1 v2 v3 v4 := by
  obtain ⟨f, a, b⟩ := u
  cases (show v = (a, b) from I.symm)
  refine bs_Xcopy _ f a b v1 v2 v3 v4 (fun h => bs_Ycopy _ a b v1 v2 v3 v4 (fun _ => ⟨rfl, rfl⟩) (fun k => absurd k h) (fun g q e t hg hq he ht e1 e2 e3 e4 => absurd ⟨⟨g, hg, e1⟩, ⟨e, he, e3⟩⟩ h))
    (fun h n => bs_Ycopy _ a b v1 v2 v3 v4 (fun k => absurd h k) (fun _ _ => ⟨rfl, rfl⟩) (fun g q e t hg hq he ht e1 e2 e3 e4 => absurd ⟨⟨q, hq, e2⟩, ⟨t, ht, e4⟩⟩ n))
    (fun g q e t hg hq he ht e1 e2 e3 e4 => bs_Ycopy _ a b v1 v2 v3 v4 (fun k => absurd ⟨⟨g, hg, e1⟩, ⟨e, he, e3⟩⟩ k) (fun _ k => absurd ⟨⟨q, hq, e2⟩, ⟨t, ht, e4⟩⟩ k) (fun g' q' e' t' hg' hq' he' ht' e1' e2' e3' e4' => ?_))
  cases bs_eq (by omega) (by omega) (e1.symm.trans e1')
  cases bs_eq (by omega) (by omega) (e2.symm.trans e2')
  cases bs_eq (by omega) (by omega) (e3.symm.trans e3')
  cases bs_eq (by omega) (by omega) (e4.symm.trans e4')
  exact ⟨rfl, rfl⟩
theorem i_vc_release {k : Nat} {u : SX} {v : SY} (I : i_Rel k u v) (hk : k + 5 ≤ 2561) (v1 : Int32) (v2 : Int32) : wpX_release (fun r u' => wpY_release (fun r' v' => r' = r ∧ i_Rel (k + 5) u' v') v v1 v2) u v1 v2 := by
  obtain ⟨f, a, b⟩ := u
  cases (show v = (a, b) from I.symm)
  refine bs_Xrelease _ f a b v1 v2 (fun h => bs_Yrelease _ a b v1 v2 (fun _ => ⟨rfl, rfl⟩) (fun k => absurd k h) (fun g w hg hw e1 e2 => absurd ⟨g, hg, e1⟩ h))
    (fun h n => bs_Yrelease _ a b v1 v2 (fun k => absurd h k) (fun _ _ => ⟨rfl, rfl⟩) (fun g w hg hw e1 e2 => absurd ⟨w, hw, e2⟩ n))
    (fun g w hg hw e1 e2 => bs_Yrelease _ a b v1 v2 (fun k => absurd ⟨g, hg, e1⟩ k) (fun _ k => absurd ⟨w, hw, e2⟩ k) (fun g' w' hg' hw' e1' e2' => ?_))
  cases bs_eq (by omega) (by omega) (e1.symm.trans e1')
  cases bs_eq (by omega) (by omega) (e2.symm.trans e2')
  exact ⟨rfl, rfl⟩
theorem i_vc_cloneGuest {k : Nat} {u : SX} {v : SY} (I : i_Rel k u v) (hk : k + 5 ≤ 2561) (v1 : Int32) (v2 : Int32) : wpX_cloneGuest (fun r u' => wpY_cloneGuest (fun r' v' => r' = r ∧ i_Rel (k + 5) u' v') v v1 v2) u v1 v2 := by
  obtain ⟨f, a, b⟩ := u
  cases (show v = (a, b) from I.symm)
  refine bs_Xclone _ f a b v1 v2 (fun h => bs_Yclone _ a b v1 v2 (fun _ => ⟨rfl, rfl⟩) (fun g e hg he e1 e3 => absurd ⟨⟨g, hg, e1⟩, ⟨e, he, e3⟩⟩ h))
    (fun g e hg he e1 e3 => bs_Yclone _ a b v1 v2 (fun k => absurd ⟨⟨g, hg, e1⟩, ⟨e, he, e3⟩⟩ k) (fun g' e' hg' he' e1' e3' => ?_))
  cases bs_eq (by omega) (by omega) (e1.symm.trans e1')
  cases bs_eq (by omega) (by omega) (e3.symm.trans e3')
  exact ⟨rfl, rfl⟩
theorem i_vc_shares {k : Nat} {u : SX} {v : SY} (I : i_Rel k u v) (hk : k + 5 ≤ 2561) (v1 : Int32) (v2 : Int32) : wpX_shares (fun r u' => wpY_shares (fun r' v' => r' = r ∧ i_Rel (k + 5) u' v') v v1 v2) u v1 v2 := by
  obtain ⟨f, a, b⟩ := u
  cases (show v = (a, b) from I.symm)
  unfold wpX_shares wpY_shares
  dsimp only
  by_cases hx : bs_in 3 v1
  · obtain ⟨g, hg, rfl⟩ := hx
    have hi : vp_in (nI g) 3 := vp_in_nI hg (by omega)
    exact bs_gt _ hg (br_f bs_10 (br_c (fun h => bs_ygt _ a b hg (br_t rfl (br_t h ⟨rfl, rfl⟩)))
      (fun h => br_c (fun n => ⟨hi, nm_e ⟨hi, nm_e (bs_ygt _ a b hg (br_t rfl (br_f h (br_t n ⟨hi, nm_e ⟨hi, nm_e ⟨rfl, rfl⟩⟩⟩))))⟩⟩)
        (fun n => bs_ygt _ a b hg (br_t rfl (br_f h (br_f n ⟨rfl, rfl⟩)))))))
  · exact bs_gf _ hx (br_t rfl (bs_ygf _ a b hx (br_f bs_10 ⟨rfl, rfl⟩)))
theorem i_vc_tidy {k : Nat} {u : SX} {v : SY} (I : i_Rel k u v) (hk : k + 5 ≤ 2561) (v1 : Int32) : wpX_tidy (fun u' => wpY_tidy (fun v' => i_Rel (k + 5) u' v') v v1) u v1 := by
  obtain ⟨f, a, b⟩ := u
  cases (show v = (a, b) from I.symm)
  exact rfl
theorem i_vc_read {k : Nat} {u : SX} {v : SY} (I : i_Rel k u v) (hk : k + 5 ≤ 2561) (v1 : Int32) (v2 : Int32) : wpX_read (fun r => wpY_read (fun r' => r' = r ∧ i_Rel (k + 5) u v) v v1 v2) u v1 v2 := by
  obtain ⟨f, a, b⟩ := u
  cases (show v = (a, b) from I.symm)
  refine bs_Xread _ f a b v1 v2 (fun h => bs_Yread _ a b v1 v2 (fun _ => ⟨rfl, rfl⟩) (fun g w hg hw e1 e2 => absurd ⟨⟨g, hg, e1⟩, ⟨w, hw, e2⟩⟩ h))
    (fun g w hg hw e1 e2 => bs_Yread _ a b v1 v2 (fun k => absurd ⟨⟨g, hg, e1⟩, ⟨w, hw, e2⟩⟩ k) (fun g' w' hg' hw' e1' e2' => ?_))
  cases bs_eq (by omega) (by omega) (e1.symm.trans e1')
  cases bs_eq (by omega) (by omega) (e2.symm.trans e2')
  exact ⟨rfl, rfl⟩
theorem i_vc_sum {k : Nat} {u : SX} {v : SY} (I : i_Rel k u v) (hk : k + 5 ≤ 2561) (v1 : Int32) (v2 : Int32) : wpX_sum (fun r => wpY_sum (fun r' => r' = r ∧ i_Rel (k + 5) u v) v v1 v2) u v1 v2 := by
  obtain ⟨f, a, b⟩ := u
  cases (show v = (a, b) from I.symm)
  refine bs_Xsum _ f a b v1 v2 (fun h => bs_Ysum _ a b v1 v2 (fun _ => ⟨rfl, rfl⟩) (fun g w hg hw e1 e2 => absurd ⟨⟨g, hg, e1⟩, ⟨w, hw, e2⟩⟩ h))
    (fun g w hg hw e1 e2 => bs_Ysum _ a b v1 v2 (fun k => absurd ⟨⟨g, hg, e1⟩, ⟨w, hw, e2⟩⟩ k) (fun g' w' hg' hw' e1' e2' => ?_))
  cases bs_eq (by omega) (by omega) (e1.symm.trans e1')
  cases bs_eq (by omega) (by omega) (e2.symm.trans e2')
  exact ⟨rfl, rfl⟩
theorem i_vc_same {k : Nat} {u : SX} {v : SY} (I : i_Rel k u v) (hk : k + 5 ≤ 2561) (v1 : Int32) (v2 : Int32) (v3 : Int32) (v4 : Int32) : wpX_same (fun r => wpY_same (fun r' => r' = r ∧ i_Rel (k + 5) u v) v v1 v2 v3 v4) u v1 v2 v3 v4 := by
  obtain ⟨f, a, b⟩ := u
  cases (show v = (a, b) from I.symm)
  refine bs_Xsame _ f a b v1 v2 v3 v4 (fun h => bs_Ysame _ a b v1 v2 v3 v4 (fun _ => ⟨rfl, rfl⟩) (fun g q e t hg hq he ht e1 e2 e3 e4 => absurd ⟨⟨⟨g, hg, e1⟩, ⟨e, he, e3⟩⟩, ⟨⟨q, hq, e2⟩, ⟨t, ht, e4⟩⟩⟩ h))
    (fun g q e t hg hq he ht e1 e2 e3 e4 => bs_Ysame _ a b v1 v2 v3 v4 (fun k => absurd ⟨⟨⟨g, hg, e1⟩, ⟨e, he, e3⟩⟩, ⟨⟨q, hq, e2⟩, ⟨t, ht, e4⟩⟩⟩ k) (fun g' q' e' t' hg' hq' he' ht' e1' e2' e3' e4' => ?_))
  cases bs_eq (by omega) (by omega) (e1.symm.trans e1')
  cases bs_eq (by omega) (by omega) (e2.symm.trans e2')
  cases bs_eq (by omega) (by omega) (e3.symm.trans e3')
  cases bs_eq (by omega) (by omega) (e4.symm.trans e4')
  exact ⟨rfl, rfl⟩
theorem i_vc_contents {k : Nat} {u : SX} {v : SY} (I : i_Rel k u v) (hk : k + 5 ≤ 2561) (v1 : Int32) : wpX_contents (fun r => wpY_contents (fun r' => r' = r ∧ i_Rel (k + 5) u v) v v1) u v1 := by
  obtain ⟨f, a, b⟩ := u
  cases (show v = (a, b) from I.symm)
  refine bs_Xcontents _ f a b v1 (fun h => bs_Ycontents _ a b v1 (fun _ => ⟨rfl, rfl⟩) (fun g hg e1 => absurd ⟨g, hg, e1⟩ h))
    (fun g hg e1 => bs_Ycontents _ a b v1 (fun k => absurd ⟨g, hg, e1⟩ k) (fun g' hg' e1' => ?_))
  cases bs_eq (by omega) (by omega) (e1.symm.trans e1')
  exact ⟨rfl, rfl⟩
theorem i_vc_twins {k : Nat} {u : SX} {v : SY} (I : i_Rel k u v) (hk : k + 5 ≤ 2561) (v1 : Int32) (v2 : Int32) : wpX_twins (fun r => wpY_twins (fun r' => r' = r ∧ i_Rel (k + 5) u v) v v1 v2) u v1 v2 := by
  obtain ⟨f, a, b⟩ := u
  cases (show v = (a, b) from I.symm)
  refine bs_Xtwins _ f a b v1 v2 (fun h => bs_Ytwins _ a b v1 v2 (fun _ => ⟨rfl, rfl⟩) (fun k => absurd k h) (fun g w hg hw e1 e2 => absurd ⟨g, hg, e1⟩ h))
    (fun h n => bs_Ytwins _ a b v1 v2 (fun k => absurd h k) (fun _ _ => ⟨rfl, rfl⟩) (fun g w hg hw e1 e2 => absurd ⟨w, hw, e2⟩ n))
    (fun g w hg hw e1 e2 => bs_Ytwins _ a b v1 v2 (fun k => absurd ⟨g, hg, e1⟩ k) (fun _ k => absurd ⟨w, hw, e2⟩ k) (fun g' w' hg' hw' e1' e2' => ?_))
  cases bs_eq (by omega) (by omega) (e1.symm.trans e1')
  cases bs_eq (by omega) (by omega) (e2.symm.trans e2')
  exact ⟨rfl, rfl⟩
