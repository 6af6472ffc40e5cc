theorem lb_lt24 {c : Nat} (h : c < 24) : nI c < 24 := nI_lt (b := 24) h (by decide)
theorem lb_ne24 {c : Nat} (h : c < 24) : ¬ nI c = 24 := by
  show ¬ nI c = nI 24
  rw [nI_eq (by omega) (by decide)]
  omega
/-! ===== the component: is it sound, and its states ===== -/
section
variable (lv pt : Int32) (cs : Nat → Int64) (W : Nat → Int32) (fs gs E q : Nat → Int64)
theorem cx_0 {post : Int32 → Prop} {ct x y : Int32} (h : post (lb_i (lb_x 3 x ∧ lb_x 4 y))) : wpX_isSoundCondition post (lv, ct, pt, cs, W, fs, gs, E, q) 0 x y :=
  br_f (by decide) (br_f (by decide) (br_t rfl (xa_isVariable (lb_br (fun n => lb_p0 h (fun z => n z.1)) (fun m => xa_isValue (lb_br (fun n => lb_p0 h (fun z => n z.2)) (fun m2 => lb_p1 h ⟨m, m2⟩)))))))
theorem cx_1 {post : Int32 → Prop} {ct x y : Int32} (h : post (lb_i (lb_x 3 x ∧ lb_x 3 y))) : wpX_isSoundCondition post (lv, ct, pt, cs, W, fs, gs, E, q) 1 x y :=
  br_f (by decide) (br_f (by decide) (br_f (by decide) (br_t rfl (xa_isVariable (lb_br (fun n => lb_p0 h (fun z => n z.1)) (fun m => xa_isVariable (lb_br (fun n => lb_p0 h (fun z => n z.2)) (fun m2 => lb_p1 h ⟨m, m2⟩))))))))
theorem cx_2 {post : Int32 → Prop} {c : Nat} {x y : Int32} (hc : c ≤ 24) (h : post (lb_i (lb_x c x))) : wpX_isSoundCondition post (lv, nI c, pt, cs, W, fs, gs, E, q) 2 x y :=
  br_f (by decide) (br_f (by decide) (br_f (by decide) (br_f (by decide) (br_t rfl (xa_isCond lv pt cs W fs gs E q hc (And.intro (lb_nar _) h))))))
theorem cx_82 {post : Int32 → Prop} {c : Nat} {x y : Int32} (hc : c ≤ 24) (h : post (lb_i (lb_x c x ∧ lb_x c y))) : wX_isSoundCondition_82 post x y lv (nI c) pt cs W fs gs E q := by
  unfold wX_isSoundCondition_82
  exact xa_isCond lv pt cs W fs gs E q hc (lb_br (fun n => lb_p0 h (fun z => n z.1)) (fun m => xa_isCond lv pt cs W fs gs E q hc (lb_br (fun n => lb_p0 h (fun z => n z.2)) (fun m2 => lb_p1 h ⟨m, m2⟩))))
theorem cx_3 {post : Int32 → Prop} {c : Nat} {x y : Int32} (hc : c ≤ 24) (h : post (lb_i (lb_x c x ∧ lb_x c y))) : wpX_isSoundCondition post (lv, nI c, pt, cs, W, fs, gs, E, q) 3 x y :=
  br_f (by decide) (br_f (by decide) (br_f (by decide) (br_f (by decide) (br_f (by decide) (br_t rfl (cx_82 lv pt cs W fs gs E q hc h))))))
theorem cx_4 {post : Int32 → Prop} {c : Nat} {x y : Int32} (hc : c ≤ 24) (h : post (lb_i (lb_x c x ∧ lb_x c y))) : wpX_isSoundCondition post (lv, nI c, pt, cs, W, fs, gs, E, q) 4 x y :=
  br_f (by decide) (br_f (by decide) (br_f (by decide) (br_f (by decide) (br_f (by decide) (br_f (by decide) (br_t rfl (cx_82 lv pt cs W fs gs E q hc h)))))))
theorem cx_b {post : Int32 → Prop} {ct k x y : Int32} (hk : k < 0 ∨ 4 < k) (h : post 0) : wpX_isSoundCondition post (lv, ct, pt, cs, W, fs, gs, E, q) k x y :=
  br_c (fun _ => h) (fun z => br_c (fun _ => h) (fun z2 => (hk.elim z z2).elim))
end
/-! ===== the reference ===== -/
section
variable (fp fg : Int32) (W : Nat → Int32) (E : Nat → Int64) (F G b r : Nat → Int32)
theorem cy_112 {post : Int32 → SY → Prop} {k x y : Int32} {c : Nat} {hd : Nat → Int32} {CV : Nat → Prop} (hc : c < 24) (body : ∀ n i hd', i < 64 → (∀ j, j < 64 * c → hd' j = hd j) → wY_condition_288 post (wY_condition_112 post k x y (nI c) fp fg n) k x y (nI i) (lb_i (CV i)) (nI c) fp fg hd' W E F G b r → wY_condition_112 post k x y (nI c) fp fg (n + 1) (nI i) hd' W E F G b r) (H : post (nI c) (nI (c + 1), fp, fg, lb_fi hd (64 * c) 64 (fun s => lb_i (CV s)), W, E, F, G, b, r)) : ∀ d i, i + d = 64 → wY_condition_112 post k x y (nI c) fp fg (d + 1) (nI i) (lb_fi hd (64 * c) i (fun s => lb_i (CV s))) W E F G b r := by
  intro d
  induction d with
  | zero =>
    intro i hi
    have e : i = 64 := by omega
    subst e
    refine br_t lb_64x (nm_r (nI_1 c) ?_)
    rw [nI_pred]
    exact H
  | succ d ih =>
    intro i hi
    have hl : i < 64 := by omega
    refine body (d + 1) i _ hl (fun j hj => lb_fiN (Or.inl hj)) (And.intro (lb_in2 hc hl rfl (by decide)) (nm_r (e' := lb_fi hd (64 * c) (i + 1) (fun s => lb_i (CV s))) ?_ (nm_r (nI_1 i) (ih (i + 1) (by omega)))))
    rw [lb_at2 (by omega) hl, lb_vn]
    exact lb_fiS hd (64 * c) i (fun s => lb_i (CV s))
theorem cy_85 {post : Int32 → SY → Prop} {k x y z : Int32} {c : Nat} {hd : Nat → Int32} {CV : Nat → Prop} {P Q : Prop} (hc : c < 24) (hk : lb_x 5 k) (hz : z = lb_i Q) (bad : ¬ (P ∧ Q) → post (-1) (nI c, fp, fg, hd, W, E, F, G, b, r)) (body : P ∧ Q → ∀ n i hd', i < 64 → (∀ j, j < 64 * c → hd' j = hd j) → wY_condition_288 post (wY_condition_112 post k x y (nI c) fp fg n) k x y (nI i) (lb_i (CV i)) (nI c) fp fg hd' W E F G b r → wY_condition_112 post k x y (nI c) fp fg (n + 1) (nI i) hd' W E F G b r) (H : P ∧ Q → post (nI c) (nI (c + 1), fp, fg, lb_fi hd (64 * c) 64 (fun s => lb_i (CV s)), W, E, F, G, b, r)) : wY_condition_85 post k x y (lb_i P) z (nI c) fp fg hd W E F G b r := by
  subst hz
  unfold wY_condition_85
  refine ya_inK (n := 4) (by decide) rfl (lb_br (fun n => absurd hk n) (fun _ => lb_br (fun n => bad (fun z => n z.1)) (fun p => lb_br (fun n => bad (fun z => n z.2)) (fun q => ?_))))
  have h := cy_112 fp fg W E F G b r hc (body ⟨p, q⟩) (H ⟨p, q⟩) 64 0 rfl
  rw [lb_fi0] at h
  exact ⟨65, h⟩
theorem cy_85b {post : Int32 → SY → Prop} {fc k x y x4 z : Int32} {hd : Nat → Int32} (hk : ¬ lb_x 5 k) (bad : post (-1) (fc, fp, fg, hd, W, E, F, G, b, r)) : wY_condition_85 post k x y x4 z fc fp fg hd W E F G b r := by
  unfold wY_condition_85
  exact ya_inK (n := 4) (by decide) rfl (lb_br (fun _ => bad) (fun m => absurd m hk))
theorem cy_0 {post : Int32 → SY → Prop} {x y : Int32} {c : Nat} {hd : Nat → Int32} (hc : c < 24) (bad : ¬ (lb_x 3 x ∧ lb_x 4 y) → post (-1) (nI c, fp, fg, hd, W, E, F, G, b, r)) (H : lb_x 3 x ∧ lb_x 4 y → post (nI c) (nI (c + 1), fp, fg, lb_fi hd (64 * c) 64 (fun s => lb_i (lb_va x (nI s) = y)), W, E, F, G, b, r)) : wpY_condition post (nI c, fp, fg, hd, W, E, F, G, b, r) 0 x y := by
  refine br_f (lb_ne24 hc) (br_t rfl ?_)
  unfold wY_condition_21
  refine ya_inK (n := 2) (by decide) rfl ?_
  refine br_t rfl ?_
  refine ya_inK (n := 3) (by decide) rfl ?_
  refine cy_85 fp fg W E F G b r (CV := fun s => lb_va x (nI s) = y) hc ⟨0, by omega, rfl⟩ rfl bad (fun _ n i hd' hi _ h => br_f (lb_64 hi) (br_t rfl (br_c (fun e => ?_) (fun e => ?_)))) H
  · rw [lb_i1 (P := lb_va x (nI i) = y) e] at h
    exact h
  · rw [lb_i0 (P := lb_va x (nI i) = y) e] at h
    exact h
theorem cy_1 {post : Int32 → SY → Prop} {x y : Int32} {c : Nat} {hd : Nat → Int32} (hc : c < 24) (bad : ¬ (lb_x 3 x ∧ lb_x 3 y) → post (-1) (nI c, fp, fg, hd, W, E, F, G, b, r)) (H : lb_x 3 x ∧ lb_x 3 y → post (nI c) (nI (c + 1), fp, fg, lb_fi hd (64 * c) 64 (fun s => lb_i (¬ lb_va y (nI s) < lb_va x (nI s))), W, E, F, G, b, r)) : wpY_condition post (nI c, fp, fg, hd, W, E, F, G, b, r) 1 x y := by
  refine br_f (lb_ne24 hc) (br_f (by decide) (br_t rfl ?_))
  unfold wY_condition_21
  refine ya_inK (n := 2) (by decide) rfl ?_
  refine br_f (by decide) (br_t rfl ?_)
  refine ya_inK (n := 2) (by decide) rfl ?_
  refine cy_85 fp fg W E F G b r (CV := fun s => ¬ lb_va y (nI s) < lb_va x (nI s)) hc ⟨1, by omega, rfl⟩ rfl bad (fun _ n i hd' hi _ h => br_f (lb_64 hi) (br_f (by decide) (br_t rfl (br_c (fun e => ?_) (fun e => ?_))))) H
  · rw [lb_i0 (fun z => z e)] at h
    exact h
  · rw [lb_i1 (P := ¬ lb_va y (nI i) < lb_va x (nI i)) e] at h
    exact h
theorem cy_2 {post : Int32 → SY → Prop} {x y : Int32} {c : Nat} {hd : Nat → Int32} {cs : Nat → Int64} (hc : c < 24) (RC : ∀ i s, i < 24 → s < 64 → hd (64 * i + s) = lb_i (lb_b (cs i) s)) (bad : ¬ (lb_x c x ∧ True) → post (-1) (nI c, fp, fg, hd, W, E, F, G, b, r)) (H : lb_x c x ∧ True → post (nI c) (nI (c + 1), fp, fg, lb_fi hd (64 * c) 64 (fun s => lb_i (¬ lb_b (cs x.toNatClampNeg) s)), W, E, F, G, b, r)) : wpY_condition post (nI c, fp, fg, hd, W, E, F, G, b, r) 2 x y := by
  refine br_f (lb_ne24 hc) (br_f (by decide) (br_f (by decide) (ya_isCond fp fg hd W E F G b r (by omega) ?_)))
  refine br_f (by decide) (br_f (by decide) (br_t rfl ?_))
  refine cy_85 fp fg W E F G b r (CV := fun s => ¬ lb_b (cs x.toNatClampNeg) s) hc ⟨2, by omega, rfl⟩ (lb_i1 True.intro).symm bad (fun ok n i hd' hi hh h => ?_) H
  obtain ⟨⟨j, hj, ej⟩, _⟩ := ok
  subst ej
  have ejj : (nI j).toNatClampNeg = j := lb_cl (by omega)
  have eh : hd' ((64 * nI j) + nI i).toNatClampNeg = lb_i (lb_b (cs (nI j).toNatClampNeg) i) := by rw [lb_at2 (by omega) hi, hh _ (by omega), ejj, RC j i (by omega) hi]
  refine br_f (lb_64 hi) (br_f (by decide) (br_f (by decide) (br_t rfl (And.intro (lb_in2 (n := 24) (by omega) hi rfl (by decide)) (lb_brE eh (fun e => ?_) (fun e => ?_))))))
  · rw [lb_i1 e] at h
    exact h
  · rw [lb_i0 (fun z => z e)] at h
    exact h
theorem cy_3 {post : Int32 → SY → Prop} {x y : Int32} {c : Nat} {hd : Nat → Int32} {cs : Nat → Int64} (hc : c < 24) (RC : ∀ i s, i < 24 → s < 64 → hd (64 * i + s) = lb_i (lb_b (cs i) s)) (bad : ¬ (lb_x c x ∧ lb_x c y) → post (-1) (nI c, fp, fg, hd, W, E, F, G, b, r)) (H : lb_x c x ∧ lb_x c y → post (nI c) (nI (c + 1), fp, fg, lb_fi hd (64 * c) 64 (fun s => lb_i (lb_b (cs x.toNatClampNeg) s ∧ lb_b (cs y.toNatClampNeg) s)), W, E, F, G, b, r)) : wpY_condition post (nI c, fp, fg, hd, W, E, F, G, b, r) 3 x y := by
  have key : ∀ z, z = lb_i (lb_x c y) → wY_condition_85 post 3 x y (lb_i (lb_x c x)) z (nI c) fp fg hd W E F G b r := by
    intro z hz
    refine cy_85 fp fg W E F G b r (CV := fun s => lb_b (cs x.toNatClampNeg) s ∧ lb_b (cs y.toNatClampNeg) s) hc ⟨3, by omega, rfl⟩ hz bad (fun ok n i hd' hi hh h => ?_) H
    obtain ⟨⟨j, hj, ej⟩, ⟨l, hl, el⟩⟩ := ok
    subst ej el
    have ejj : (nI j).toNatClampNeg = j := lb_cl (by omega)
    have ell : (nI l).toNatClampNeg = l := lb_cl (by omega)
    have eh : hd' ((64 * nI j) + nI i).toNatClampNeg = lb_i (lb_b (cs (nI j).toNatClampNeg) i) := by rw [lb_at2 (by omega) hi, hh _ (by omega), ejj, RC j i (by omega) hi]
    have el : hd' ((64 * nI l) + nI i).toNatClampNeg = lb_i (lb_b (cs (nI l).toNatClampNeg) i) := by rw [lb_at2 (by omega) hi, hh _ (by omega), ell, RC l i (by omega) hi]
    refine br_f (lb_64 hi) (br_f (by decide) (br_f (by decide) (br_f (by decide) (br_t rfl (And.intro (lb_in2 (n := 24) (by omega) hi rfl (by decide)) (lb_brE eh (fun e => ?_) (fun e => And.intro (lb_in2 (n := 24) (by omega) hi rfl (by decide)) (lb_brE el (fun e2 => ?_) (fun e2 => ?_)))))))))
    · rw [lb_i0 (fun z => e z.1)] at h
      exact h
    · rw [lb_i0 (fun z => e2 z.2)] at h
      exact h
    · rw [lb_i1 ⟨e, e2⟩] at h
      exact h
  refine br_f (lb_ne24 hc) (br_f (by decide) (br_f (by decide) (ya_isCond fp fg hd W E F G b r (by omega) ?_)))
  refine br_f (by decide) (br_f (by decide) (br_f (by decide) (ya_isCond fp fg hd W E F G b r (by omega) (lb_br (fun n => key 0 (lb_i0 n).symm) (fun m => key 1 (lb_i1 m).symm)))))
theorem cy_4 {post : Int32 → SY → Prop} {x y : Int32} {c : Nat} {hd : Nat → Int32} {cs : Nat → Int64} (hc : c < 24) (RC : ∀ i s, i < 24 → s < 64 → hd (64 * i + s) = lb_i (lb_b (cs i) s)) (bad : ¬ (lb_x c x ∧ lb_x c y) → post (-1) (nI c, fp, fg, hd, W, E, F, G, b, r)) (H : lb_x c x ∧ lb_x c y → post (nI c) (nI (c + 1), fp, fg, lb_fi hd (64 * c) 64 (fun s => lb_i (lb_b (cs x.toNatClampNeg) s ∨ lb_b (cs y.toNatClampNeg) s)), W, E, F, G, b, r)) : wpY_condition post (nI c, fp, fg, hd, W, E, F, G, b, r) 4 x y := by
  have key : ∀ z, z = lb_i (lb_x c y) → wY_condition_85 post 4 x y (lb_i (lb_x c x)) z (nI c) fp fg hd W E F G b r := by
    intro z hz
    refine cy_85 fp fg W E F G b r (CV := fun s => lb_b (cs x.toNatClampNeg) s ∨ lb_b (cs y.toNatClampNeg) s) hc ⟨4, by omega, rfl⟩ hz bad (fun ok n i hd' hi hh h => ?_) H
    obtain ⟨⟨j, hj, ej⟩, ⟨l, hl, el⟩⟩ := ok
    subst ej el
    have ejj : (nI j).toNatClampNeg = j := lb_cl (by omega)
    have ell : (nI l).toNatClampNeg = l := lb_cl (by omega)
    have eh : hd' ((64 * nI j) + nI i).toNatClampNeg = lb_i (lb_b (cs (nI j).toNatClampNeg) i) := by rw [lb_at2 (by omega) hi, hh _ (by omega), ejj, RC j i (by omega) hi]
    have el : hd' ((64 * nI l) + nI i).toNatClampNeg = lb_i (lb_b (cs (nI l).toNatClampNeg) i) := by rw [lb_at2 (by omega) hi, hh _ (by omega), ell, RC l i (by omega) hi]
    refine br_f (lb_64 hi) (br_f (by decide) (br_f (by decide) (br_f (by decide) (br_f (by decide) (And.intro (lb_in2 (n := 24) (by omega) hi rfl (by decide)) (lb_brE eh (fun e => And.intro (lb_in2 (n := 24) (by omega) hi rfl (by decide)) (lb_brE el (fun e2 => ?_) (fun e2 => ?_))) (fun e => ?_)))))))
    · rw [lb_i0 (fun z => z.elim e e2)] at h
      exact h
    · rw [lb_i1 (Or.inr e2)] at h
      exact h
    · rw [lb_i1 (Or.inl e)] at h
      exact h
  refine br_f (lb_ne24 hc) (br_f (by decide) (br_f (by decide) (ya_isCond fp fg hd W E F G b r (by omega) ?_)))
  refine br_f (by decide) (br_f (by decide) (br_f (by decide) (ya_isCond fp fg hd W E F G b r (by omega) (lb_br (fun n => key 0 (lb_i0 n).symm) (fun m => key 1 (lb_i1 m).symm)))))
theorem cy_b {post : Int32 → SY → Prop} {k x y : Int32} {c : Nat} {hd : Nat → Int32} (hc : c < 24) (hk : k < 0 ∨ 4 < k) (bad : post (-1) (nI c, fp, fg, hd, W, E, F, G, b, r)) : wpY_condition post (nI c, fp, fg, hd, W, E, F, G, b, r) k x y := by
  have n5 : ¬ lb_x 5 k := fun z => hk.elim (lb_x0 z (by decide)) (lb_gt (n := 4) z (by decide))
  have n0 : ¬ k = 0 := fun z => n5 ⟨0, by omega, z⟩
  have n1 : ¬ k = 1 := fun z => n5 ⟨1, by omega, z⟩
  have n2 : ¬ k = 2 := fun z => n5 ⟨2, by omega, z⟩
  refine br_f (lb_ne24 hc) (br_f n0 (br_f n1 (ya_isCond fp fg hd W E F G b r (by omega) ?_)))
  exact br_f n0 (br_f n1 (br_f n2 (ya_isCond fp fg hd W E F G b r (by omega) (lb_br (fun n => cy_85b fp fg W E F G b r n5 bad) (fun m => cy_85b fp fg W E F G b r n5 bad)))))
end
theorem cd_fin {k c p : Nat} {lv g : Int32} {cs : Nat → Int64} {W : Nat → Int32} {fs gs E q : Nat → Int64} {hd F G b r : Nat → Int32} {w : Int64} {CV : Nat → Prop} (hc : c < 24) (hp : p ≤ 32) (RC : ∀ i s, i < 24 → s < 64 → hd (64 * i + s) = lb_i (lb_b (cs i) s)) (RF : ∀ i s, i < 32 → s < 64 → F (64 * i + s) = lb_i (lb_b (fs i) s)) (RG : ∀ i s, i < 32 → s < 64 → G (64 * i + s) = lb_i (lb_b (gs i) s)) (hw : ∀ s, s < 64 → (lb_b w s ↔ CV s)) : i_Rel k (lv, nI (c + 1), nI p, vp_updL cs c w, W, fs, gs, E, q) (nI (c + 1), nI p, g, lb_fi hd (64 * c) 64 (fun s => lb_i (CV s)), W, E, F, G, b, r) := by
  refine ⟨lv, c + 1, p, vp_updL cs c w, W, fs, gs, E, q, g, lb_fi hd (64 * c) 64 (fun s => lb_i (CV s)), F, G, b, r, by omega, hp, rfl, rfl, ?_, RF, RG⟩
  intro i s hi hs
  by_cases e : i = c
  · subst e
    rw [lb_fiI hs, pk_uLs, lb_ic (hw s hs)]
  · rw [lb_fiN (by omega), pk_uLn e]
    exact RC i s hi hs
theorem i_vc_condition {k : Nat} {u : SX} {v : SY} (I : i_Rel k u v) (hk : k + 5 ≤ 2560) (v1 : Int32) (v2 : Int32) (v3 : Int32) : wpX_condition (fun r u' => wpY_condition (fun r' v' => r' = r ∧ i_Rel (k + 5) u' v') v v1 v2 v3) u v1 v2 v3 := by
  have J : i_Rel (k + 5) u v := I
  obtain ⟨lv, c, p, cs, W, fs, gs, E, q, g, hd, F, G, b, r, hc, hp, eu, ev, RC, RF, RG⟩ := I
  subst eu ev
  by_cases h24 : c = 24
  · subst h24
    exact br_f (nI_nlt (a := 24) (b := 24) (by decide) (by decide)) (br_t rfl ⟨rfl, J⟩)
  have hc : c < 24 := by omega
  have vc : vp_in (nI c) 24 := lb_vi hc (by decide)
  refine br_t (lb_lt24 hc) ?_
  rcases pk_ix v1 (n := 5) (by decide) with hb | hb | ⟨j, hj, ej⟩
  · exact cx_b lv (nI p) cs W fs gs E q (Or.inl hb) (br_t rfl (cy_b (nI p) g W E F G b r hc (Or.inl hb) ⟨rfl, J⟩))
  · have hb : 4 < v1 := Int32.lt_of_lt_of_le (show (4 : Int32) < nI 5 by decide) hb
    exact cx_b lv (nI p) cs W fs gs E q (Or.inr hb) (br_t rfl (cy_b (nI p) g W E F G b r hc (Or.inr hb) ⟨rfl, J⟩))
  · have hj : j = 0 ∨ j = 1 ∨ j = 2 ∨ j = 3 ∨ j = 4 := by omega
    rcases hj with h | h | h | h | h <;> subst h <;> subst ej
    · refine cx_0 lv (nI p) cs W fs gs E q (lb_br (fun n => cy_0 (nI p) g W E F G b r hc (fun _ => ⟨rfl, J⟩) (fun m => absurd m n)) (fun ok => ?_))
      exact br_f (by decide) (br_f (by decide) (br_t rfl (xa_swv (fun w hw => And.intro vc (nm_r (lb_uL (by omega)) (nm_r (nI_1 c) (cy_0 (nI p) g W E F G b r hc (fun n => absurd ok n) (fun _ => ⟨rfl, cd_fin hc hp RC RF RG hw⟩))))))))
    · refine cx_1 lv (nI p) cs W fs gs E q (lb_br (fun n => cy_1 (nI p) g W E F G b r hc (fun _ => ⟨rfl, J⟩) (fun m => absurd m n)) (fun ok => ?_))
      exact br_f (by decide) (br_f (by decide) (br_f (by decide) (br_t rfl (xa_sam (fun w hw => And.intro vc (nm_r (lb_uL (by omega)) (nm_r (nI_1 c) (cy_1 (nI p) g W E F G b r hc (fun n => absurd ok n) (fun _ => ⟨rfl, cd_fin hc hp RC RF RG hw⟩)))))))))
    · refine cx_2 lv (nI p) cs W fs gs E q (by omega) (lb_br (fun n => cy_2 (nI p) g W E F G b r hc RC (fun _ => ⟨rfl, J⟩) (fun m => absurd m.1 n)) (fun ok => ?_))
      have v2i : vp_in v2 24 := by
        obtain ⟨i, hi, ei⟩ := ok
        subst ei
        exact lb_vi (by omega) (by decide)
      exact br_f (by decide) (br_f (by decide) (br_f (by decide) (br_f (by decide) (br_t rfl (And.intro v2i (And.intro vc (nm_r (lb_uL (by omega)) (nm_r (nI_1 c) (cy_2 (nI p) g W E F G b r hc RC (fun n => absurd ⟨ok, True.intro⟩ n) (fun _ => ⟨rfl, cd_fin hc hp RC RF RG (fun s hs => lb_not _ hs)⟩))))))))))
    · refine cx_3 lv (nI p) cs W fs gs E q (by omega) (lb_br (fun n => cy_3 (nI p) g W E F G b r hc RC (fun _ => ⟨rfl, J⟩) (fun m => absurd m n)) (fun ok => ?_))
      have v2i : vp_in v2 24 := by
        obtain ⟨⟨i, hi, ei⟩, _⟩ := ok
        subst ei
        exact lb_vi (by omega) (by decide)
      have v3i : vp_in v3 24 := by
        obtain ⟨_, ⟨i, hi, ei⟩⟩ := ok
        subst ei
        exact lb_vi (by omega) (by decide)
      exact br_f (by decide) (br_f (by decide) (br_f (by decide) (br_f (by decide) (br_f (by decide) (br_t rfl (And.intro v2i (And.intro v3i (And.intro vc (nm_r (lb_uL (by omega)) (nm_r (nI_1 c) (cy_3 (nI p) g W E F G b r hc RC (fun n => absurd ok n) (fun _ => ⟨rfl, cd_fin hc hp RC RF RG (fun s hs => lb_and _ _ s)⟩))))))))))))
    · refine cx_4 lv (nI p) cs W fs gs E q (by omega) (lb_br (fun n => cy_4 (nI p) g W E F G b r hc RC (fun _ => ⟨rfl, J⟩) (fun m => absurd m n)) (fun ok => ?_))
      have v2i : vp_in v2 24 := by
        obtain ⟨⟨i, hi, ei⟩, _⟩ := ok
        subst ei
        exact lb_vi (by omega) (by decide)
      have v3i : vp_in v3 24 := by
        obtain ⟨_, ⟨i, hi, ei⟩⟩ := ok
        subst ei
        exact lb_vi (by omega) (by decide)
      exact br_f (by decide) (br_t (by decide) (And.intro v2i (And.intro v3i (And.intro vc (nm_r (lb_uL (by omega)) (nm_r (nI_1 c) (cy_4 (nI p) g W E F G b r hc RC (fun n => absurd ok n) (fun _ => ⟨rfl, cd_fin hc hp RC RF RG (fun s hs => lb_or _ _ s)⟩))))))))
