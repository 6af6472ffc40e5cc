theorem sp_ec {E E' : Nat → Int64} {T : Int64} {y : Nat} (h : ∀ t, t < 64 → E' (64 * y + t) = E (64 * y + t)) : sp_e E' T y = sp_e E T y := by
  funext t u
  apply propext
  unfold sp_e
  constructor
  · intro z
    have ht := lb_lt z.1
    rw [h t ht] at z
    exact z
  · intro z
    have ht := lb_lt z.1
    rw [← h t ht] at z
    exact z
section
variable (fc fp fg : Int32) (hd W : Nat → Int32) (E : Nat → Int64) (F G b r : Nat → Int32)
theorem yl_127 {post : SY → Prop} {J : Int32 → (Nat → Int32) → (Nat → Int32) → (Nat → Int64) → (Nat → Int32) → (Nat → Int32) → (Nat → Int32) → (Nat → Int32) → Prop} {a c y i : Nat} {z0 f : Int32} {PP Q g1 g2 : Prop} (ha : a < 2048) (hy : y < 32) (hi : i < 64) (hya : 64 * y + 64 ≤ a) (hz : z0 = lb_i PP) (hG : G (64 * y + i) = lb_i g1) (hr : r i = lb_i g2) (H : J (nI (i + 1)) hd W E (upd F a (lb_i PP)) (upd G a (lb_i (Q ∨ g1 ∨ g2))) b r) : wY_loop_127 post J (nI a) (nI c) (nI y) (nI i) z0 (nI a) fc fp fg hd W E (upd F a f) (upd G a (lb_i Q)) b r := by
  subst hz
  have va : vp_in (nI a) 2048 := lb_vi ha (by decide)
  have vi : vp_in (nI i) 64 := lb_vi hi (by decide)
  have vj : vp_in ((64 * nI y) + nI i) 2048 := lb_in2 hy hi rfl (by decide)
  have ea : (nI a).toNatClampNeg = a := lb_cl ha
  have ei : (nI i).toNatClampNeg = i := lb_cl (by omega)
  have ej : ((64 * nI y) + nI i).toNatClampNeg = 64 * y + i := lb_at2 (by omega) hi
  have hne : 64 * y + i ≠ a := by omega
  refine And.intro va (nm_r (e' := upd F a (lb_i PP)) (by rw [ea, lb_uu, lb_vn]) (And.intro va (br_c (fun z => And.intro vj (br_c (fun x => And.intro vi (br_c (fun w => And.intro va (nm_r (e' := upd G a (lb_i (Q ∨ g1 ∨ g2))) ?_ (nm_r (nI_1 i) H))) (fun w => And.intro va (nm_r (e' := upd G a (lb_i (Q ∨ g1 ∨ g2))) ?_ (nm_r (nI_1 i) H))))) (fun x => And.intro va (nm_r (e' := upd G a (lb_i (Q ∨ g1 ∨ g2))) ?_ (nm_r (nI_1 i) H))))) (fun z => And.intro va (nm_r (e' := upd G a (lb_i (Q ∨ g1 ∨ g2))) ?_ (nm_r (nI_1 i) H))))))
  · rw [ea, pk_us] at z
    rw [ej, pk_un hne, hG] at x
    rw [ei, hr] at w
    rw [ea, lb_uu, lb_v0, lb_i0 (fun c => c.elim (lb_iz.mp z) (fun c => c.elim (lb_iz.mp x) (lb_iz.mp w)))]
  · rw [ei, hr] at w
    rw [ea, lb_uu, lb_v1, lb_i1 (Or.inr (Or.inr (lb_in.mp w)))]
  · rw [ej, pk_un hne, hG] at x
    rw [ea, lb_uu, lb_v1, lb_i1 (Or.inr (Or.inl (lb_in.mp x)))]
  · rw [ea, pk_us] at z
    rw [ea, lb_uu, lb_v1, lb_i1 (Or.inl (lb_in.mp z))]
theorem yl_67 {post : SY → Prop} {J : Int32 → (Nat → Int32) → (Nat → Int32) → (Nat → Int64) → (Nat → Int32) → (Nat → Int32) → (Nat → Int32) → (Nat → Int32) → Prop} {a c y i : Nat} {P Q P' Q' Ri Ti Ii f1 g1 : Prop} (ha : a < 2048) (hc : c < 24) (hy : y < 32) (hi : i < 64) (hya : 64 * y + 64 ≤ a) (hT : hd (64 * c + i) = lb_i Ti) (hF : F (64 * y + i) = lb_i f1) (hG : G (64 * y + i) = lb_i g1) (hb : b i = lb_i Ri) (hr : r i = lb_i (Ri ∧ Ii)) (hP : P' ↔ (P ∨ ((Ri ∧ Ti) ∧ f1))) (hQ : Q' ↔ (Q ∨ ((Ri ∧ Ti) ∧ (g1 ∨ Ii)))) (H : J (nI (i + 1)) hd W E (upd F a (lb_i P')) (upd G a (lb_i Q')) b r) : wY_loop_67 post J (nI a) (nI c) (nI y) (nI i) fc fp fg hd W E (upd F a (lb_i P)) (upd G a (lb_i Q)) b r := by
  have va : vp_in (nI a) 2048 := lb_vi ha (by decide)
  have vi : vp_in (nI i) 64 := lb_vi hi (by decide)
  have vj : vp_in ((64 * nI y) + nI i) 2048 := lb_in2 hy hi rfl (by decide)
  have ea : (nI a).toNatClampNeg = a := lb_cl ha
  have ei : (nI i).toNatClampNeg = i := lb_cl (by omega)
  have ej : ((64 * nI y) + nI i).toNatClampNeg = 64 * y + i := lb_at2 (by omega) hi
  have ec : ((64 * nI c) + nI i).toNatClampNeg = 64 * c + i := lb_at2 (by omega) hi
  have hne : 64 * y + i ≠ a := by omega
  have kn : ¬ (Ri ∧ Ti) → J (nI (i + 1)) hd W E (upd F a (lb_i P)) (upd G a (lb_i Q)) b r := by
    intro n
    have e1 : P' ↔ P := hP.trans ⟨fun z => z.elim id (fun z => absurd z.1 n), Or.inl⟩
    have e2 : Q' ↔ Q := hQ.trans ⟨fun z => z.elim id (fun z => absurd z.1 n), Or.inl⟩
    rw [lb_ic e1, lb_ic e2] at H
    exact H
  refine And.intro vi (br_c (fun z => nm_r (nI_1 i) (kn ?_)) (fun z => And.intro (lb_in2 hc hi rfl (by decide)) (br_c (fun x => nm_r (nI_1 i) (kn ?_)) (fun x => ?_))))
  · rw [ei, hb] at z
    exact fun c => lb_iz.mp z c.1
  · rw [ec, hT] at x
    exact fun c => lb_iz.mp x c.2
  · rw [ei, hb] at z
    rw [ec, hT] at x
    have hR := lb_in.mp z
    have hTi := lb_in.mp x
    have e1 : P' ↔ (P ∨ f1) := hP.trans ⟨fun z => z.elim Or.inl (fun z => Or.inr z.2), fun z => z.elim Or.inl (fun z => Or.inr ⟨⟨hR, hTi⟩, z⟩)⟩
    have e2 : Q' ↔ (Q ∨ g1 ∨ (Ri ∧ Ii)) := hQ.trans ⟨fun z => z.elim Or.inl (fun z => z.2.elim (fun z => Or.inr (Or.inl z)) (fun z => Or.inr (Or.inr ⟨hR, z⟩))), fun z => z.elim Or.inl (fun z => z.elim (fun z => Or.inr ⟨⟨hR, hTi⟩, Or.inl z⟩) (fun z => Or.inr ⟨⟨hR, hTi⟩, Or.inr z.2⟩))⟩
    rw [lb_ic e1, lb_ic e2] at H
    refine And.intro va (br_c (fun w => And.intro vj (br_c (fun v => ?_) (fun v => ?_))) (fun w => ?_))
    · rw [ea, pk_us] at w
      rw [ej, pk_un hne, hF] at v
      exact yl_127 fc fp fg hd W E F G b r ha hy hi hya (lb_i0 (fun c => c.elim (lb_iz.mp w) (lb_iz.mp v))).symm hG hr H
    · rw [ej, pk_un hne, hF] at v
      exact yl_127 fc fp fg hd W E F G b r ha hy hi hya (lb_i1 (Or.inr (lb_in.mp v))).symm hG hr H
    · rw [ea, pk_us] at w
      exact yl_127 fc fp fg hd W E F G b r ha hy hi hya (lb_i1 (Or.inl (lb_in.mp w))).symm hG hr H
theorem yl_18 {post : SY → Prop} {a c y : Nat} {T : Int64} {R I FF GG : Nat → Prop} (ha : a < 2048) (hc : c < 24) (hy : y < 32) (hya : 64 * y + 64 ≤ a) (hT : ∀ t, t < 64 → hd (64 * c + t) = lb_i (lb_b T t)) (hF : ∀ t, t < 64 → F (64 * y + t) = lb_i (FF t)) (hG : ∀ t, t < 64 → G (64 * y + t) = lb_i (GG t)) (hb : ∀ t, t < 64 → b t = lb_i (R t)) (hr : ∀ t, t < 64 → r t = lb_i (R t ∧ I t)) (H : ∀ e, (∀ j, j < 64 → (lb_b e j ↔ (R j ∧ ¬ lb_b T j))) → post (fc, fp, fg, hd, W, vp_updL E a e, upd F a (lb_i (∃ t, t < 64 ∧ (R t ∧ lb_b T t) ∧ FF t)), upd G a (lb_i (∃ t, t < 64 ∧ (R t ∧ lb_b T t) ∧ (GG t ∨ I t))), b, r)) : ∀ d i e, i + d = 64 → lb_acc (fun t => R t ∧ ¬ lb_b T t) i e → wY_loop_18 post (nI a) (nI c) (nI y) fc fp fg (d + 1) (nI i) hd W (vp_updL E a e) (upd F a (lb_i (∃ t, t < i ∧ (R t ∧ lb_b T t) ∧ FF t))) (upd G a (lb_i (∃ t, t < i ∧ (R t ∧ lb_b T t) ∧ (GG t ∨ I t)))) b r := by
  have va : vp_in (nI a) 2048 := lb_vi ha (by decide)
  have ea : (nI a).toNatClampNeg = a := lb_cl ha
  intro d
  induction d with
  | zero =>
    intro i e hi h
    have e64 : i = 64 := by omega
    subst e64
    exact br_t lb_64x (H e (lb_accX h))
  | succ d ih =>
    intro i e hi h
    have hl : i < 64 := by omega
    have vi : vp_in (nI i) 64 := lb_vi hl (by decide)
    have ei : (nI i).toNatClampNeg = i := lb_cl (by omega)
    have ec : ((64 * nI c) + nI i).toNatClampNeg = 64 * c + i := lb_at2 (by omega) hl
    have k : ∀ e', lb_acc (fun t => R t ∧ ¬ lb_b T t) (i + 1) e' → wY_loop_67 post (wY_loop_18 post (nI a) (nI c) (nI y) fc fp fg (d + 1)) (nI a) (nI c) (nI y) (nI i) fc fp fg hd W (vp_updL E a e') (upd F a (lb_i (∃ t, t < i ∧ (R t ∧ lb_b T t) ∧ FF t))) (upd G a (lb_i (∃ t, t < i ∧ (R t ∧ lb_b T t) ∧ (GG t ∨ I t)))) b r := fun e' h' =>
      yl_67 fc fp fg hd W (vp_updL E a e') F G b r ha hc hy hl hya (hT i hl) (hF i hl) (hG i hl) (hb i hl) (hr i hl) (lb_exS (P := fun t => (R t ∧ lb_b T t) ∧ FF t)) (lb_exS (P := fun t => (R t ∧ lb_b T t) ∧ (GG t ∨ I t))) (ih (i + 1) e' (by omega) h')
    refine br_f (lb_64 hl) (And.intro vi (br_c (fun z => k e ?_) (fun z => And.intro (lb_in2 hc hl rfl (by decide)) (br_c (fun x => And.intro va (And.intro va (nm_r (e' := vp_updL E a (e ||| ((1 : Int64) <<< ((nI i).toInt64 &&& 63)))) (by rw [ea, pk_uLs, lb_uuL]) (k _ ?_)))) (fun x => k e ?_)))))
    · rw [ei, hb i hl] at z
      exact lb_accF h (fun c => lb_iz.mp z c.1)
    · rw [ei, hb i hl] at z
      rw [ec, hT i hl] at x
      exact lb_accT hl h ⟨lb_in.mp z, lb_iz.mp x⟩
    · rw [ec, hT i hl] at x
      exact lb_accF h (fun c => c.2 (lb_in.mp x))
theorem yl_loop {post : SY → Prop} {a c y s : Nat} {T f g : Int64} {z1 z2 : Int32} (ha : a < 2048) (hc : c < 24) (hy : y < 32) (hs : s < 64) (hya : 64 * y + 64 ≤ a) (hT : ∀ t, t < 64 → hd (64 * c + t) = lb_i (lb_b T t)) (hF : ∀ t, t < 64 → F (64 * y + t) = lb_i (lb_b f t)) (hG : ∀ t, t < 64 → G (64 * y + t) = lb_i (lb_b g t)) (h1 : z1 = lb_i False) (h2 : z2 = lb_i False) (H : ∀ b' r' g', post (fc, fp, g', hd, W, vp_updL E a (sp_WE E T y s), upd F a (lb_i (sp_WF E T f y s)), upd G a (lb_i (sp_WG E T g y s)), b', r')) : wpY_loop post (fc, fp, fg, hd, W, vp_updL E a 0, upd F a z1, upd G a z2, b, r) (nI a) (nI s) (nI c) (nI y) := by
  subst h1 h2
  have ec : sp_e (vp_updL E a 0) T y = sp_e E T y := sp_ec (fun t ht => pk_uLn (by omega))
  have k0 : ∀ X : Nat → Prop, False ↔ ∃ t, t < 0 ∧ X t := fun X => ⟨False.elim, fun z => by obtain ⟨t, ht, _⟩ := z; omega⟩
  unfold wpY_loop
  refine ys_spread fc fp hd W (vp_updL E a 0) _ _ b r hc hy hs hT (fun b' g1 hb => ?_)
  refine yn_find fc fp hd W (vp_updL E a 0) _ _ b' r hc hy hs hT hb (fun r' g2 hr => ?_)
  rw [ec] at hb hr
  have k := yl_18 fc fp g2 hd W E F G b' r' (T := T) (R := gr_R (sp_e E T y) s) (I := gr_inf (sp_e E T y)) (FF := lb_b f) (GG := lb_b g) (post := post) ha hc hy hya hT hF hG hb hr (fun e he => by
    have e1 : e = sp_WE E T y s := lb_Se he
    have e2 : (∃ t, t < 64 ∧ (gr_R (sp_e E T y) s t ∧ lb_b T t) ∧ lb_b f t) ↔ sp_WF E T f y s := ⟨fun z => by obtain ⟨t, _, z1, z2⟩ := z; exact ⟨t, z1.1, z1.2, z2⟩, fun z => by obtain ⟨t, z1, z2, z3⟩ := z; exact ⟨t, lb_lt z2, ⟨z1, z2⟩, z3⟩⟩
    have e3 : (∃ t, t < 64 ∧ (gr_R (sp_e E T y) s t ∧ lb_b T t) ∧ (lb_b g t ∨ gr_inf (sp_e E T y) t)) ↔ sp_WG E T g y s := ⟨fun z => by obtain ⟨t, _, z1, z2⟩ := z; exact ⟨t, z1.1, z1.2, z2⟩, fun z => by obtain ⟨t, z1, z2, z3⟩ := z; exact ⟨t, lb_lt z2, ⟨z1, z2⟩, z3⟩⟩
    rw [e1, lb_ic e2, lb_ic e3]
    exact H b' r' g2) 64 0 0 rfl (lb_acc0 _)
  rw [← lb_ic (k0 _), ← lb_ic (k0 _)] at k
  exact ⟨65, k⟩
/-! ===== simple ===== -/
theorem yi_0 {post : SY → Prop} {a s : Nat} {x y z : Int32} (ha : a < 2048) (H : post (fc, fp, fg, hd, W, vp_updL E a ((1 : Int64) <<< ((nI s).toInt64 &&& 63)), F, G, b, r)) : wpY_simple post (fc, fp, fg, hd, W, vp_updL E a 0, F, G, b, r) (nI a) (nI s) 0 x y z :=
  br_t rfl (br_f (by decide) (And.intro (lb_vi ha (by decide)) (nm_r (by rw [lb_cl ha, lb_uuL]) (br_f (by decide) (br_f (by decide) (br_f (by decide) (br_f (by decide) H)))))))
theorem yi_1 {post : SY → Prop} {a s : Nat} {x y z z1 : Int32} (ha : a < 2048) (H : post (fc, fp, fg, hd, W, E, upd F a 1, G, b, r)) : wpY_simple post (fc, fp, fg, hd, W, E, upd F a z1, G, b, r) (nI a) (nI s) 1 x y z :=
  br_f (by decide) (br_f (by decide) (br_f (by decide) (br_t rfl (br_t rfl (And.intro (lb_vi ha (by decide)) (nm_r (e' := upd F a 1) (by rw [lb_cl ha, lb_uu, lb_v1]) (br_f (by decide) (br_f (by decide) H))))))))
theorem yi_2 {post : SY → Prop} {a s : Nat} {x y z : Int32} (ha : a < 2048) (H : post (fc, fp, fg, hd, W, vp_updL E a (xo_set x y z s), F, G, b, r)) : wpY_simple post (fc, fp, fg, hd, W, vp_updL E a 0, F, G, b, r) (nI a) (nI s) 2 x y z := by
  refine br_f (by decide) (br_f (by decide) (br_f (by decide) (br_t rfl (br_f (by decide) (br_f (by decide) (br_t rfl (br_c (fun e => nm_e (And.intro (lb_vi ha (by decide)) (nm_r (e' := vp_updL E a (xo_set x y z s)) ?_ (br_f (by decide) H)))) (fun e => nm_e (And.intro (lb_vi ha (by decide)) (nm_r (e' := vp_updL E a (xo_set x y z s)) ?_ (br_f (by decide) H)))))))))))
  · rw [lb_cl ha, lb_uuL]
    unfold xo_set
    rw [if_pos e]
    rfl
  · rw [lb_cl ha, lb_uuL]
    unfold xo_set
    rw [if_neg e]
    rfl
theorem yi_135 {post : SY → Prop} {a s : Nat} {x : Int32} (ha : a < 2048) (H : post (fc, fp, fg, hd, W, vp_updL E a (xo_any x s 4), F, G, b, r)) : ∀ d v, v + d = 4 → wY_simple_135 post (nI a) (nI s) x fc fp fg (d + 1) (nI v) hd W (vp_updL E a (xo_any x s v)) F G b r := by
  intro d
  induction d with
  | zero =>
    intro v hv
    have e : v = 4 := by omega
    subst e
    exact br_t lb_4x H
  | succ d ih =>
    intro v hv
    refine br_f (lb_4 (by omega)) (And.intro (lb_vi ha (by decide)) (And.intro (lb_vi ha (by decide)) (nm_r (e' := vp_updL E a (xo_any x s (v + 1))) ?_ (nm_r (nI_1 v) (ih (v + 1) (by omega))))))
    rw [lb_cl ha, pk_uLs, lb_uuL]
    rfl
theorem yi_3 {post : SY → Prop} {a s : Nat} {x y z : Int32} (ha : a < 2048) (H : post (fc, fp, fg, hd, W, vp_updL E a (xo_any x s 4), F, G, b, r)) : wpY_simple post (fc, fp, fg, hd, W, vp_updL E a 0, F, G, b, r) (nI a) (nI s) 3 x y z :=
  br_f (by decide) (br_f (by decide) (br_f (by decide) (br_t rfl (br_f (by decide) (br_f (by decide) (br_f (by decide) (br_t rfl ⟨5, yi_135 fc fp fg hd W E F G b r ha H 4 0 rfl⟩)))))))
theorem lb_stT {T : Int64} {s : Nat} (hs : s < 64) (h : lb_b T s) : T &&& ((1 : Int64) <<< ((nI s).toInt64 &&& 63)) = (1 : Int64) <<< ((nI s).toInt64 &&& 63) := by
  apply lb_ext
  intro j _
  rw [lb_and, lb_shl hs]
  exact ⟨fun z => z.2, fun z => by subst z; exact ⟨h, rfl⟩⟩
theorem lb_stF {T : Int64} {s : Nat} (hs : s < 64) (h : ¬ lb_b T s) : T &&& ((1 : Int64) <<< ((nI s).toInt64 &&& 63)) = 0 := by
  apply lb_ext
  intro j _
  rw [lb_and, lb_shl hs]
  exact ⟨fun z => by obtain ⟨z1, z2⟩ := z; subst z2; exact absurd z1 h, fun z => absurd z (lb_0 j)⟩
theorem yi_4 {post : SY → Prop} {a s c : Nat} {y z : Int32} {T : Int64} (ha : a < 2048) (hs : s < 64) (hc : c < 24) (hT : hd (64 * c + s) = lb_i (lb_b T s)) (H : post (fc, fp, fg, hd, W, vp_updL E a (T &&& ((1 : Int64) <<< ((nI s).toInt64 &&& 63))), F, G, b, r)) : wpY_simple post (fc, fp, fg, hd, W, vp_updL E a 0, F, G, b, r) (nI a) (nI s) 4 (nI c) y z := by
  refine br_f (by decide) (br_t rfl (And.intro (lb_in2 hc hs rfl (by decide)) (br_c (fun e => ?_) (fun e => ?_))))
  · rw [lb_at2 (by omega) hs, hT] at e
    rw [lb_stF hs (lb_iz.mp e)] at H
    exact br_t rfl (br_f (by decide) (br_f (by decide) (br_f (by decide) (br_f (by decide) H))))
  · rw [lb_at2 (by omega) hs, hT] at e
    rw [lb_stT hs (lb_in.mp e)] at H
    exact br_f (by decide) (And.intro (lb_vi ha (by decide)) (nm_r (by rw [lb_cl ha, lb_uuL]) (br_f (by decide) (br_f (by decide) (br_f (by decide) (br_f (by decide) H))))))
theorem yi_5 {post : SY → Prop} {a s c : Nat} {y z z1 : Int32} {T : Int64} (ha : a < 2048) (hs : s < 64) (hc : c < 24) (hT : hd (64 * c + s) = lb_i (lb_b T s)) (hz : z1 = lb_i False) (H : post (fc, fp, fg, hd, W, vp_updL E a (T &&& ((1 : Int64) <<< ((nI s).toInt64 &&& 63))), upd F a (lb_i (¬ lb_b T s)), G, b, r)) : wpY_simple post (fc, fp, fg, hd, W, vp_updL E a 0, upd F a z1, G, b, r) (nI a) (nI s) 5 (nI c) y z := by
  subst hz
  refine br_f (by decide) (br_f (by decide) (br_t rfl (And.intro (lb_in2 hc hs rfl (by decide)) (br_c (fun e => ?_) (fun e => ?_)))))
  · rw [lb_at2 (by omega) hs, hT] at e
    rw [lb_stF hs (lb_iz.mp e), lb_i1 (lb_iz.mp e)] at H
    exact br_t rfl (br_f (by decide) (br_t rfl (br_t rfl (And.intro (lb_vi ha (by decide)) (nm_r (e' := upd F a 1) (by rw [lb_cl ha, lb_uu, lb_v1]) (br_f (by decide) (br_f (by decide) H)))))))
  · rw [lb_at2 (by omega) hs, hT] at e
    rw [lb_stT hs (lb_in.mp e), lb_ic (show (¬ lb_b T s) ↔ False from ⟨fun z => z (lb_in.mp e), False.elim⟩)] at H
    exact br_f (by decide) (And.intro (lb_vi ha (by decide)) (nm_r (by rw [lb_cl ha, lb_uuL]) (br_f (by decide) (br_t rfl (br_f (by decide) (br_f (by decide) (br_f (by decide) H)))))))
end
