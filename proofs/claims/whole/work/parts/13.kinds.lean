theorem lb_brE {v : Int32} {P A B : Prop} (e : v = lb_i P) (f : ¬ P → A) (g : P → B) : (v = 0 → A) ∧ (¬ v = 0 → B) := by
  subst e
  exact lb_br f g
theorem lb_n3 {A B C : Prop} : (¬ ((A ∨ B) ∨ ¬ C)) ↔ (¬ A ∧ ¬ B ∧ C) :=
  ⟨fun h => ⟨fun a => h (Or.inl (Or.inl a)), fun b => h (Or.inl (Or.inr b)), Classical.byContradiction (fun c => h (Or.inr c))⟩, fun h z => z.elim (fun z => z.elim h.1 h.2.1) (fun z => z h.2.2)⟩
theorem lb_n2 {A C : Prop} : (¬ (A ∨ ¬ C)) ↔ (¬ A ∧ C) :=
  ⟨fun h => ⟨fun a => h (Or.inl a), Classical.byContradiction (fun c => h (Or.inr c))⟩, fun h z => z.elim h.1 (fun z => z h.2)⟩
theorem lb_6 {P : Nat → Prop} (h0 : P 0) (h1 : P 1) (h2 : P 2) (h3 : P 3) (h4 : P 4) (h5 : P 5) {k : Nat} (hk : k < 6) : P k := by
  have h : k = 0 ∨ k = 1 ∨ k = 2 ∨ k = 3 ∨ k = 4 ∨ k = 5 := by omega
  rcases h with h | h | h | h | h | h <;> subst h <;> assumption
section
variable (lv ct pt : Int32) (cs : Nat → Int64) (W : Nat → Int32) (fs gs E q : Nat → Int64)
theorem xk_is {post : Int64 → Prop} {k c p : Nat} {y : Int32} (hk : k < 6) (hy : k < 3 → y = nI c ∧ c < 24) (hp : p < 32) (H : ∀ w, (∀ s, s < 64 → (lb_b w s ↔ sp_K E fs gs cs p c s k)) → post w) : wpX_statesOfKind post (lv, ct, pt, cs, W, fs, gs, E, q) (nI k) (nI p) y := by
  have vp : vp_in (nI p) 32 := lb_vi hp (by decide)
  have ep : (nI p).toNatClampNeg = p := lb_cl (by omega)
  revert H hy
  refine lb_6 (P := fun k => (k < 3 → y = nI c ∧ c < 24) → (∀ w, (∀ s, s < 64 → (lb_b w s ↔ sp_K E fs gs cs p c s k)) → post w) → wpX_statesOfKind post (lv, ct, pt, cs, W, fs, gs, E, q) (nI k) (nI p) y) ?_ ?_ ?_ ?_ ?_ ?_ hk
  · intro hy H
    obtain ⟨ey, hc⟩ := hy (by omega)
    subst ey
    have ec : (nI c).toNatClampNeg = c := lb_cl (by omega)
    refine br_f (by decide) (br_f (by decide) (br_t rfl (And.intro vp (And.intro vp (And.intro (lb_vi hc (by decide)) (xa_mE lv ct pt cs W fs gs E q hp (fun w hw => H _ (fun s hs => ?_))))))))
    rw [lb_not _ hs, lb_or, lb_or, hw s hs, ec, ep, sp_meN]
    exact lb_n3
  · intro hy H
    obtain ⟨ey, hc⟩ := hy (by omega)
    subst ey
    have ec : (nI c).toNatClampNeg = c := lb_cl (by omega)
    refine br_f (by decide) (br_f (by decide) (br_f (by decide) (br_t rfl (And.intro vp (And.intro (lb_vi hc (by decide)) (xa_mE lv ct pt cs W fs gs E q hp (fun w hw => H _ (fun s hs => ?_))))))))
    rw [lb_not _ hs, lb_or, hw s hs, ec, ep, sp_meN]
    exact lb_n2
  · intro hy H
    obtain ⟨ey, hc⟩ := hy (by omega)
    subst ey
    have ec : (nI c).toNatClampNeg = c := lb_cl (by omega)
    refine br_f (by decide) (br_f (by decide) (br_f (by decide) (br_f (by decide) (br_t rfl (And.intro (lb_vi hc (by decide)) (xa_mE lv ct pt cs W fs gs E q hp (fun w hw => H _ (fun s hs => ?_))))))))
    rw [hw s hs, ec, sp_meP]
    exact Iff.rfl
  · intro _ H
    refine br_f (by decide) (br_f (by decide) (br_f (by decide) (br_f (by decide) (br_f (by decide) (br_t rfl (And.intro vp (H _ (fun s hs => ?_))))))))
    rw [ep]
    exact Iff.rfl
  · intro _ H
    refine br_f (by decide) (br_f (by decide) (br_f (by decide) (br_f (by decide) (br_f (by decide) (br_f (by decide) (br_t rfl (And.intro vp (H _ (fun s hs => ?_)))))))))
    rw [ep]
    exact Iff.rfl
  · intro _ H
    refine br_f (by decide) (br_t (by decide) (And.intro vp (And.intro vp (xa_mE lv ct pt cs W fs gs E q hp (fun w hw => H _ (fun s hs => ?_))))))
    rw [lb_not _ hs, lb_or, lb_or, hw s hs, ep, sp_meA]
    exact lb_n3
end
section
variable (fc fp fg : Int32) (hd W : Nat → Int32) (E : Nat → Int64) (F G b r : Nat → Int32)
theorem yk_lo {post : Int32 → Prop} {k : Int32} {c a : Nat} {T : Int64} (ha : a < 2048) (hc : c < 24) (hk : ¬ 2 < k) (hT : ∀ t, t < 64 → hd (64 * c + t) = lb_i (lb_b T t)) (H : wY_isKind_18 post k (nI c) (nI a) fc fp fg hd W E F G b r 1 (lb_i (∃ t, t < 64 ∧ lb_b (E a) t ∧ lb_b T t)) (lb_i (¬ ∃ t, t < 64 ∧ lb_b (E a) t ∧ ¬ lb_b T t)) (nI 64)) : ∀ d i, i + d = 64 → wY_isKind_18 post k (nI c) (nI a) fc fp fg hd W E F G b r (d + 1) (lb_i (∃ t, t < i ∧ lb_b (E a) t ∧ lb_b T t)) (lb_i (¬ ∃ t, t < i ∧ lb_b (E a) t ∧ ¬ lb_b T t)) (nI i) := by
  have va : vp_in (nI a) 2048 := lb_vi ha (by decide)
  have ea : (nI a).toNatClampNeg = a := lb_cl ha
  intro d
  induction d with
  | zero =>
    intro i hi
    have e : i = 64 := by omega
    subst e
    exact H
  | succ d ih =>
    intro i hi
    have hl : i < 64 := by omega
    have vh : vp_in ((64 * nI c) + nI i) 1536 := lb_in2 hc hl rfl (by decide)
    have eh : hd ((64 * nI c) + nI i).toNatClampNeg = lb_i (lb_b T i) := by rw [lb_at2 (by omega) hl, hT i hl]
    have k1 := ih (i + 1) (by omega)
    rw [lb_ic (lb_exS (P := fun t => lb_b (E a) t ∧ lb_b T t)), lb_ic (not_congr (lb_exS (P := fun t => lb_b (E a) t ∧ ¬ lb_b T t)))] at k1
    refine br_f (lb_64 hl) (And.intro va (br_c (fun z => ?_) (fun z => ?_)))
    · rw [ea, lb_t1 hl] at z
      refine br_f (by decide) (br_f hk (And.intro vh (lb_brE eh (fun n => br_f (by decide) (br_f hk (And.intro vh (lb_brE eh (fun _ => nm_r (nI_1 i) ?_) (fun p => absurd p n))))) (fun p => br_f (by decide) (br_f hk (And.intro vh (lb_brE eh (fun n => absurd p n) (fun _ => nm_r (nI_1 i) ?_))))))))
      · rw [lb_ic (show ((∃ t, t < i ∧ lb_b (E a) t ∧ lb_b T t) ∨ (lb_b (E a) i ∧ lb_b T i)) ↔ ∃ t, t < i ∧ lb_b (E a) t ∧ lb_b T t from ⟨fun y => y.elim id (fun y => absurd y.2 n), Or.inl⟩), lb_i0 (P := ¬ ((∃ t, t < i ∧ lb_b (E a) t ∧ ¬ lb_b T t) ∨ (lb_b (E a) i ∧ ¬ lb_b T i))) (fun y => y (Or.inr ⟨z, n⟩))] at k1
        exact k1
      · rw [lb_i1 (Or.inr ⟨z, p⟩), lb_ic (not_congr (show ((∃ t, t < i ∧ lb_b (E a) t ∧ ¬ lb_b T t) ∨ (lb_b (E a) i ∧ ¬ lb_b T i)) ↔ ∃ t, t < i ∧ lb_b (E a) t ∧ ¬ lb_b T t from ⟨fun y => y.elim id (fun y => absurd p y.2), Or.inl⟩))] at k1
        exact k1
    · rw [ea, lb_t1 hl] at z
      rw [lb_ic (show ((∃ t, t < i ∧ lb_b (E a) t ∧ lb_b T t) ∨ (lb_b (E a) i ∧ lb_b T i)) ↔ ∃ t, t < i ∧ lb_b (E a) t ∧ lb_b T t from ⟨fun y => y.elim id (fun y => absurd y.1 z), Or.inl⟩), lb_ic (not_congr (show ((∃ t, t < i ∧ lb_b (E a) t ∧ ¬ lb_b T t) ∨ (lb_b (E a) i ∧ ¬ lb_b T i)) ↔ ∃ t, t < i ∧ lb_b (E a) t ∧ ¬ lb_b T t from ⟨fun y => y.elim id (fun y => absurd y.1 z), Or.inl⟩))] at k1
      exact br_t rfl (br_t rfl (nm_r (nI_1 i) k1))
theorem yk_hi {post : Int32 → Prop} {k y : Int32} {a : Nat} (ha : a < 2048) (hk : 2 < k) (H : wY_isKind_18 post k y (nI a) fc fp fg hd W E F G b r 1 0 1 (nI 64)) : ∀ d i, i + d = 64 → wY_isKind_18 post k y (nI a) fc fp fg hd W E F G b r (d + 1) 0 1 (nI i) := by
  have va : vp_in (nI a) 2048 := lb_vi ha (by decide)
  intro d
  induction d with
  | zero =>
    intro i hi
    have e : i = 64 := by omega
    subst e
    exact H
  | succ d ih =>
    intro i hi
    have hl : i < 64 := by omega
    have k1 := ih (i + 1) (by omega)
    exact br_f (lb_64 hl) (And.intro va (br_c (fun _ => br_f (by decide) (br_t hk (br_f (by decide) (br_t hk (nm_r (nI_1 i) k1))))) (fun _ => br_t rfl (br_t rfl (nm_r (nI_1 i) k1)))))
theorem yk_all {X T : Nat → Prop} : (¬ ∃ t, t < 64 ∧ X t ∧ ¬ T t) ↔ ∀ t, t < 64 → X t → T t :=
  ⟨fun h t ht hx => Classical.byContradiction (fun n => h ⟨t, ht, hx, n⟩), fun h z => by obtain ⟨t, ht, hx, n⟩ := z; exact n (h t ht hx)⟩
theorem yk_is {post : Int32 → Prop} {fs gs cs : Nat → Int64} {k c p s : Nat} {y : Int32} (hk : k < 6) (hy : k < 3 → y = nI c ∧ c < 24) (hp : p < 32) (hs : s < 64) (RC : ∀ i s, i < 24 → s < 64 → hd (64 * i + s) = lb_i (lb_b (cs i) s)) (RF : ∀ i s, i < 32 → s < 64 → F (64 * i + s) = lb_i (lb_b (fs i) s)) (RG : ∀ i s, i < 32 → s < 64 → G (64 * i + s) = lb_i (lb_b (gs i) s)) (h : post (lb_i (sp_K E fs gs cs p c s k))) : wpY_isKind post (fc, fp, fg, hd, W, E, F, G, b, r) (nI k) (nI p) y (nI s) := by
  have ha : 64 * p + s < 2048 := by omega
  have va : vp_in (nI (64 * p + s)) 2048 := lb_vi ha (by decide)
  have ea : (nI (64 * p + s)).toNatClampNeg = 64 * p + s := lb_cl ha
  have eF : F (nI (64 * p + s)).toNatClampNeg = lb_i (lb_b (fs p) s) := by rw [ea, RF p s hp hs]
  have eG : G (nI (64 * p + s)).toNatClampNeg = lb_i (lb_b (gs p) s) := by rw [ea, RG p s hp hs]
  have s0 : ∀ X : Nat → Prop, (0 : Int32) = lb_i (∃ t, t < 0 ∧ X t) := fun X => (lb_i0 (fun z => by obtain ⟨t, ht, _⟩ := z; omega)).symm
  have s1 : ∀ X : Nat → Prop, (1 : Int32) = lb_i (¬ ∃ t, t < 0 ∧ X t) := fun X => (lb_i1 (fun z => by obtain ⟨t, ht, _⟩ := z; omega)).symm
  have lo : ∀ k : Int32, ¬ 2 < k → y = nI c → c < 24 → wY_isKind_18 post k (nI c) (nI (64 * p + s)) fc fp fg hd W E F G b r 1 (lb_i (∃ t, t < 64 ∧ lb_b (E (64 * p + s)) t ∧ lb_b (cs c) t)) (lb_i (¬ ∃ t, t < 64 ∧ lb_b (E (64 * p + s)) t ∧ ¬ lb_b (cs c) t)) (nI 64) → wpY_isKind post (fc, fp, fg, hd, W, E, F, G, b, r) k (nI p) y (nI s) := by
    intro k hk ey hc hH
    subst ey
    have g := yk_lo fc fp fg hd W E F G b r (T := cs c) ha hc hk (fun t ht => RC c t hc ht) hH 64 0 rfl
    rw [← s0 (fun t => lb_b (E (64 * p + s)) t ∧ lb_b (cs c) t), ← s1 (fun t => lb_b (E (64 * p + s)) t ∧ ¬ lb_b (cs c) t)] at g
    exact nm_r (lb_ix2 p s) ⟨65, g⟩
  have hi : ∀ k : Int32, 2 < k → wY_isKind_18 post k y (nI (64 * p + s)) fc fp fg hd W E F G b r 1 0 1 (nI 64) → wpY_isKind post (fc, fp, fg, hd, W, E, F, G, b, r) k (nI p) y (nI s) := fun k hk hH => nm_r (lb_ix2 p s) ⟨65, yk_hi fc fp fg hd W E F G b r ha hk hH 64 0 rfl⟩
  revert h hy
  refine lb_6 (P := fun k => (k < 3 → y = nI c ∧ c < 24) → post (lb_i (sp_K E fs gs cs p c s k)) → wpY_isKind post (fc, fp, fg, hd, W, E, F, G, b, r) (nI k) (nI p) y (nI s)) ?_ ?_ ?_ ?_ ?_ ?_ hk
  · intro hy h
    obtain ⟨ey, hc⟩ := hy (by omega)
    refine lo 0 (by decide) ey hc (br_t lb_64x (br_t rfl (And.intro va (lb_brE eF (fun nf => And.intro va (lb_brE eG (fun ng => lb_br (fun na => lb_p0 h (fun z => na (yk_all.mpr z.2.2))) (fun a => lb_p1 h ⟨nf, ng, yk_all.mp a⟩)) (fun g => lb_p0 h (fun z => z.2.1 g)))) (fun f => lb_p0 h (fun z => z.1 f))))))
  · intro hy h
    obtain ⟨ey, hc⟩ := hy (by omega)
    refine lo 1 (by decide) ey hc (br_t lb_64x (br_f (by decide) (br_t rfl (And.intro va (lb_brE eF (fun nf => lb_br (fun na => lb_p0 h (fun z => na (yk_all.mpr z.2))) (fun a => lb_p1 h ⟨nf, yk_all.mp a⟩)) (fun f => lb_p0 h (fun z => z.1 f)))))))
  · intro hy h
    obtain ⟨ey, hc⟩ := hy (by omega)
    exact lo 2 (by decide) ey hc (br_t lb_64x (br_f (by decide) (br_f (by decide) (br_t rfl (And.intro (lb_nar _) h)))))
  · intro _ h
    refine hi 3 (by decide) (br_t lb_64x (br_f (by decide) (br_f (by decide) (br_f (by decide) (br_t rfl (And.intro va ?_))))))
    rw [eF]
    exact And.intro (lb_nar _) h
  · intro _ h
    refine hi 4 (by decide) (br_t lb_64x (br_f (by decide) (br_f (by decide) (br_f (by decide) (br_f (by decide) (br_t rfl (And.intro va ?_)))))))
    rw [eG]
    exact And.intro (lb_nar _) h
  · intro _ h
    refine hi 5 (by decide) (br_t lb_64x (br_f (by decide) (br_f (by decide) (br_f (by decide) (br_f (by decide) (br_f (by decide) (And.intro va (lb_brE eF (fun nf => And.intro va (lb_brE eG (fun ng => And.intro va (br_c (fun z => lb_p1 h ⟨nf, ng, ?_⟩) (fun z => lb_p0 h (fun w => z ?_)))) (fun g => lb_p0 h (fun z => z.2.1 g)))) (fun f => lb_p0 h (fun z => z.1 f))))))))))
    · rw [ea] at z
      exact z
    · rw [ea]
      exact w.2.2
end
