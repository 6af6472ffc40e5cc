theorem lb_p0 {post : Int32 → Prop} {P : Prop} (h : post (lb_i P)) (n : ¬ P) : post 0 := by rw [lb_i0 n] at h; exact h
theorem lb_p1 {post : Int32 → Prop} {P : Prop} (h : post (lb_i P)) (n : P) : post 1 := by rw [lb_i1 n] at h; exact h
theorem lb_ui {b : Nat → Int32} {s : Nat} {x : Int32} (h : s < 2048) : upd b (nI s).toNatClampNeg x = upd b s x := by rw [lb_cl h]
theorem ya_in {post : Int32 → Prop} {u : SY} {x m : Int32} {P : Prop} (e : (0 ≤ x ∧ x ≤ m) ↔ P) (h : post (lb_i P)) : wpY_in post u x 0 m := by
  obtain ⟨a1, a2, a3, a4, a5, a6, a7, a8, a9, a10⟩ := u
  refine br_c (fun z => lb_p0 h (fun p => ?_)) (fun z => br_c (fun y => lb_p0 h (fun p => ?_)) (fun y => lb_p1 h (e.mp ⟨Int32.not_lt.mp z, Int32.not_lt.mp y⟩)))
  · exact Int32.not_lt.mpr (e.mpr p).1 z
  · exact Int32.not_lt.mpr (e.mpr p).2 y
theorem ya_inK {post : Int32 → Prop} {u : SY} {x m : Int32} {n : Nat} (hn : n + 1 < 2 ^ 31) (hm : m = nI n) (h : post (lb_i (lb_x (n + 1) x))) : wpY_in post u x 0 m := by
  subst hm
  exact ya_in (lb_xK hn x) h
section
variable (fc fp fg : Int32) (hd W : Nat → Int32) (E : Nat → Int64) (F G b r : Nat → Int32)
theorem ya_isCond {post : Int32 → Prop} {c : Nat} {x : Int32} (hc : c ≤ 24) (h : post (lb_i (lb_x c x))) : wpY_isCondition post (nI c, fp, fg, hd, W, E, F, G, b, r) x := by
  unfold wpY_isCondition
  exact ya_in (lb_xJ (n := c) (by omega) x) (And.intro (lb_nar _) h)
theorem ya_isProg {post : Int32 → Prop} {p : Nat} {x : Int32} (hp : p ≤ 32) (h : post (lb_i (lb_x p x))) : wpY_isProgram post (fc, nI p, fg, hd, W, E, F, G, b, r) x := by
  unfold wpY_isProgram
  exact ya_in (lb_xJ (n := p) (by omega) x) (And.intro (lb_nar _) h)
/-! ===== take: row a takes what row j has ===== -/
theorem yt_47 {post : SY → Prop} {a j : Nat} {z0 f : Int32} {PP Q Q' : Prop} (ha : a < 2048) (hj : j < 2048) (hne : j ≠ a) (hz : z0 = lb_i PP) (hG : G j = lb_i Q') (H : post (fc, fp, fg, hd, W, E, upd F a (lb_i PP), upd G a (lb_i (Q ∨ Q')), b, r)) : wY_take_47 post (nI a) (nI j) z0 (nI a) fc fp fg hd W E (upd F a f) (upd G a (lb_i Q)) b r := by
  subst hz
  have va : vp_in (nI a) 2048 := lb_vi ha (by decide)
  have vj : vp_in (nI j) 2048 := lb_vi hj (by decide)
  have ea : (nI a).toNatClampNeg = a := lb_cl ha
  have ej : (nI j).toNatClampNeg = j := lb_cl hj
  refine And.intro va (nm_r (e' := upd F a (lb_i PP)) (by rw [ea, lb_uu, lb_vn]) (And.intro va (br_c (fun z => And.intro vj (br_c (fun y => And.intro va (nm_r (e' := upd G a (lb_i (Q ∨ Q'))) ?_ H)) (fun y => And.intro va (nm_r (e' := upd G a (lb_i (Q ∨ Q'))) ?_ H)))) (fun z => And.intro va (nm_r (e' := upd G a (lb_i (Q ∨ Q'))) ?_ H)))))
  · rw [ea, pk_us] at z
    rw [ej, pk_un hne, hG] at y
    rw [ea, lb_uu, lb_v0, lb_i0 (fun c => c.elim (lb_iz.mp z) (lb_iz.mp y))]
  · rw [ej, pk_un hne, hG] at y
    rw [ea, lb_uu, lb_v1, lb_i1 (Or.inr (lb_in.mp y))]
  · rw [ea, pk_us] at z
    rw [ea, lb_uu, lb_v1, lb_i1 (Or.inl (lb_in.mp z))]
theorem yt_take {post : SY → Prop} {a j : Nat} {e : Int64} {P P' Q Q' : Prop} (ha : a < 2048) (hj : j < 2048) (hne : j ≠ a) (hF : F j = lb_i P') (hG : G j = lb_i Q') (H : post (fc, fp, fg, hd, W, vp_updL E a (e ||| E j), upd F a (lb_i (P ∨ P')), upd G a (lb_i (Q ∨ Q')), b, r)) : wpY_take post (fc, fp, fg, hd, W, vp_updL E a e, upd F a (lb_i P), upd G a (lb_i Q), b, r) (nI a) (nI j) := by
  have va : vp_in (nI a) 2048 := lb_vi ha (by decide)
  have vj : vp_in (nI j) 2048 := lb_vi hj (by decide)
  have ea : (nI a).toNatClampNeg = a := lb_cl ha
  have ej : (nI j).toNatClampNeg = j := lb_cl hj
  refine And.intro va (And.intro vj (And.intro va (nm_r (e' := vp_updL E a (e ||| E j)) (by rw [ea, ej, pk_uLs, pk_uLn hne, lb_uuL]) (And.intro va (br_c (fun z => And.intro vj (br_c (fun y => ?_) (fun y => ?_))) (fun z => ?_))))))
  · rw [ea, pk_us] at z
    rw [ej, pk_un hne, hF] at y
    exact yt_47 fc fp fg hd W _ F G b r ha hj hne (lb_i0 (fun c => c.elim (lb_iz.mp z) (lb_iz.mp y))).symm hG H
  · rw [ej, pk_un hne, hF] at y
    exact yt_47 fc fp fg hd W _ F G b r ha hj hne (lb_i1 (Or.inr (lb_in.mp y))).symm hG H
  · rw [ea, pk_us] at z
    exact yt_47 fc fp fg hd W _ F G b r ha hj hne (lb_i1 (Or.inl (lb_in.mp z))).symm hG H
/-! ===== follow ===== -/
theorem yf_27 {post : SY → Prop} {a f y : Nat} {P0 Q0 : Prop} {FF GG : Nat → Prop} (ha : a < 2048) (hf : f < 2048) (hfa : f ≠ a) (hy : 64 * y + 64 ≤ a) (hF : ∀ t, t < 64 → F (64 * y + t) = lb_i (FF t)) (hG : ∀ t, t < 64 → G (64 * y + t) = lb_i (GG t)) (H : ∀ e, (∀ j, j < 64 → (lb_b e j ↔ ∃ t, t < 64 ∧ lb_b (E f) t ∧ lb_b (E (64 * y + t)) j)) → post (fc, fp, fg, hd, W, vp_updL E a e, upd F a (lb_i (P0 ∨ ∃ t, t < 64 ∧ lb_b (E f) t ∧ FF t)), upd G a (lb_i (Q0 ∨ ∃ t, t < 64 ∧ lb_b (E f) t ∧ GG t)), b, r)) : ∀ d i e, i + d = 64 → lb_uni (fun t => E (64 * y + t)) (lb_b (E f)) i e → wY_follow_27 post (nI a) (nI f) (nI y) (d + 1) (nI i) fc fp fg hd W (vp_updL E a e) (upd F a (lb_i (P0 ∨ ∃ t, t < i ∧ lb_b (E f) t ∧ FF t))) (upd G a (lb_i (Q0 ∨ ∃ t, t < i ∧ lb_b (E f) t ∧ GG t))) b r := by
  have vf : vp_in (nI f) 2048 := lb_vi hf (by decide)
  have ef : (nI f).toNatClampNeg = f := lb_cl hf
  have kT : ∀ (A : Prop) (X : Nat → Prop) (i : Nat), lb_b (E f) i → ((A ∨ ∃ t, t < i ∧ lb_b (E f) t ∧ X t) ∨ X i ↔ (A ∨ ∃ t, t < i + 1 ∧ lb_b (E f) t ∧ X t)) := by
    intro A X i p
    rw [lb_exS (P := fun t => lb_b (E f) t ∧ X t)]
    constructor
    · intro z
      rcases z with (z | z) | z
      · exact Or.inl z
      · exact Or.inr (Or.inl z)
      · exact Or.inr (Or.inr ⟨p, z⟩)
    · intro z
      rcases z with z | z | z
      · exact Or.inl (Or.inl z)
      · exact Or.inl (Or.inr z)
      · exact Or.inr z.2
  have kF : ∀ (A : Prop) (X : Nat → Prop) (i : Nat), ¬ lb_b (E f) i → ((A ∨ ∃ t, t < i ∧ lb_b (E f) t ∧ X t) ↔ (A ∨ ∃ t, t < i + 1 ∧ lb_b (E f) t ∧ X t)) := by
    intro A X i p
    rw [lb_exF (P := fun t => lb_b (E f) t ∧ X t) (fun z => p z.1)]
  intro d
  induction d with
  | zero =>
    intro i e hi h
    have e64 : i = 64 := by omega
    subst e64
    exact br_t lb_64x (H e h)
  | succ d ih =>
    intro i e hi h
    have hl : i < 64 := by omega
    refine br_f (lb_64 hl) (And.intro vf (br_c (fun z => ?_) (fun z => nm_r (nI_1 i) ?_)))
    · rw [ef, pk_uLn hfa, lb_t1 hl] at z
      rw [lb_ix2]
      refine yt_take fc fp fg hd W E F G b r ha (by omega) (by omega) (hF i hl) (hG i hl) (nm_r (nI_1 i) ?_)
      rw [lb_ic (kT P0 FF i z), lb_ic (kT Q0 GG i z)]
      exact ih (i + 1) _ (by omega) (lb_uniT h z)
    · rw [ef, pk_uLn hfa, lb_t1 hl] at z
      rw [lb_ic (kF P0 FF i z), lb_ic (kF Q0 GG i z)]
      exact ih (i + 1) e (by omega) (lb_uniF h z)
theorem yf_follow {post : SY → Prop} {a f y : Nat} {P0 Q0 : Prop} {FF GG : Nat → Prop} {z1 z2 : Int32} (ha : a < 2048) (hf : f < 2048) (hfa : f ≠ a) (hy : 64 * y + 64 ≤ a) (hP : F f = lb_i P0) (hQ : G f = lb_i Q0) (hF : ∀ t, t < 64 → F (64 * y + t) = lb_i (FF t)) (hG : ∀ t, t < 64 → G (64 * y + t) = lb_i (GG t)) (H : ∀ e, (∀ j, j < 64 → (lb_b e j ↔ ∃ t, t < 64 ∧ lb_b (E f) t ∧ lb_b (E (64 * y + t)) j)) → post (fc, fp, fg, hd, W, vp_updL E a e, upd F a (lb_i (P0 ∨ ∃ t, t < 64 ∧ lb_b (E f) t ∧ FF t)), upd G a (lb_i (Q0 ∨ ∃ t, t < 64 ∧ lb_b (E f) t ∧ GG t)), b, r)) : wpY_follow post (fc, fp, fg, hd, W, vp_updL E a 0, upd F a z1, upd G a z2, b, r) (nI a) (nI f) (nI y) := by
  have va : vp_in (nI a) 2048 := lb_vi ha (by decide)
  have vf : vp_in (nI f) 2048 := lb_vi hf (by decide)
  have ea : (nI a).toNatClampNeg = a := lb_cl ha
  have ef : (nI f).toNatClampNeg = f := lb_cl hf
  have k := yf_27 fc fp fg hd W E F G b r (P0 := P0) (Q0 := Q0) ha hf hfa hy hF hG H 64 0 0 rfl (lb_uni0 _ _)
  have k0 : ∀ (A : Prop) (X : Nat → Prop), (A ∨ ∃ t, t < 0 ∧ lb_b (E f) t ∧ X t) ↔ A := fun A X => ⟨fun z => z.elim id (fun z => by obtain ⟨t, ht, _⟩ := z; omega), Or.inl⟩
  rw [lb_ic (k0 P0 FF), lb_ic (k0 Q0 GG)] at k
  exact And.intro vf (And.intro va (nm_r (e' := upd F a (lb_i P0)) (by rw [ea, ef, pk_un hfa, hP, lb_vn, lb_uu]) (And.intro vf (And.intro va (nm_r (e' := upd G a (lb_i Q0)) (by rw [ea, ef, pk_un hfa, hQ, lb_vn, lb_uu]) ⟨65, k⟩)))))
end
