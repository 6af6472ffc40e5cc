/-! ===== the component: is it sound, its weight ===== -/
section
variable (lv : Int32) (cs : Nat → Int64) (W : Nat → Int32) (fs gs E q : Nat → Int64)
theorem px_0 {post : Int32 → Prop} {ct pt x y z : Int32} (h : post (lb_i True)) : wpX_isSoundProgram post (lv, ct, pt, cs, W, fs, gs, E, q) 0 x y z := br_f (by decide) (br_f (by decide) (br_t rfl (lb_p1 h True.intro)))
theorem px_1 {post : Int32 → Prop} {ct pt x y z : Int32} (h : post (lb_i True)) : wpX_isSoundProgram post (lv, ct, pt, cs, W, fs, gs, E, q) 1 x y z := br_f (by decide) (br_f (by decide) (br_f (by decide) (br_t rfl (lb_p1 h True.intro))))
theorem px_2 {post : Int32 → Prop} {ct pt x y z : Int32} (h : post (lb_i (lb_x 3 x ∧ lb_x 4 y ∧ lb_x 4 z))) : wpX_isSoundProgram post (lv, ct, pt, cs, W, fs, gs, E, q) 2 x y z := br_f (by decide) (br_f (by decide) (br_f (by decide) (br_f (by decide) (br_t rfl (xa_isVariable (lb_br (fun n => lb_p0 h (fun z => n z.1)) (fun m => xa_isValue (lb_br (fun n => lb_p0 h (fun z => n z.2.1)) (fun m2 => xa_isValue (lb_br (fun n => lb_p0 h (fun z => n z.2.2)) (fun m3 => lb_p1 h ⟨m, m2, m3⟩)))))))))))
theorem px_3 {post : Int32 → Prop} {ct pt x y z : Int32} (h : post (lb_i (lb_x 3 x))) : wpX_isSoundProgram post (lv, ct, pt, cs, W, fs, gs, E, q) 3 x y z := br_f (by decide) (br_f (by decide) (br_f (by decide) (br_f (by decide) (br_f (by decide) (br_t rfl (xa_isVariable (And.intro (lb_nar _) h)))))))
theorem px_91 {post : Int32 → Prop} {pt x : Int32} {c : Nat} (hc : c ≤ 24) (h : post (lb_i (lb_x c x))) : wX_isSoundProgram_91 post x lv (nI c) pt cs W fs gs E q := by
  unfold wX_isSoundProgram_91
  exact xa_isCond lv pt cs W fs gs E q hc (And.intro (lb_nar _) h)
theorem px_97 {post : Int32 → Prop} {ct x y : Int32} {p : Nat} (hp : p ≤ 32) (h : post (lb_i (lb_x p x ∧ lb_x p y))) : wX_isSoundProgram_97 post x y lv ct (nI p) cs W fs gs E q := by
  unfold wX_isSoundProgram_97
  exact xa_isProg lv ct cs W fs gs E q hp (lb_br (fun n => lb_p0 h (fun z => n z.1)) (fun m => xa_isProg lv ct cs W fs gs E q hp (lb_br (fun n => lb_p0 h (fun z => n z.2)) (fun m2 => lb_p1 h ⟨m, m2⟩))))
theorem px_4 {post : Int32 → Prop} {pt x y z : Int32} {c : Nat} (hc : c ≤ 24) (h : post (lb_i (lb_x c x))) : wpX_isSoundProgram post (lv, nI c, pt, cs, W, fs, gs, E, q) 4 x y z := br_f (by decide) (br_f (by decide) (br_f (by decide) (br_f (by decide) (br_f (by decide) (br_f (by decide) (br_t rfl (px_91 lv cs W fs gs E q hc h)))))))
theorem px_5 {post : Int32 → Prop} {pt x y z : Int32} {c : Nat} (hc : c ≤ 24) (h : post (lb_i (lb_x c x))) : wpX_isSoundProgram post (lv, nI c, pt, cs, W, fs, gs, E, q) 5 x y z := br_f (by decide) (br_f (by decide) (br_f (by decide) (br_f (by decide) (br_f (by decide) (br_f (by decide) (br_f (by decide) (br_t rfl (px_91 lv cs W fs gs E q hc h))))))))
theorem px_6 {post : Int32 → Prop} {ct x y z : Int32} {p : Nat} (hp : p ≤ 32) (h : post (lb_i (lb_x p x ∧ lb_x p y))) : wpX_isSoundProgram post (lv, ct, nI p, cs, W, fs, gs, E, q) 6 x y z := br_f (by decide) (br_f (by decide) (br_f (by decide) (br_f (by decide) (br_f (by decide) (br_f (by decide) (br_f (by decide) (br_f (by decide) (br_t rfl (px_97 lv cs W fs gs E q hp h)))))))))
theorem px_7 {post : Int32 → Prop} {x y z : Int32} {c p : Nat} (hc : c ≤ 24) (hp : p ≤ 32) (h : post (lb_i (lb_x c x ∧ lb_x p y ∧ lb_x p z))) : wpX_isSoundProgram post (lv, nI c, nI p, cs, W, fs, gs, E, q) 7 x y z := br_f (by decide) (br_f (by decide) (br_f (by decide) (br_f (by decide) (br_f (by decide) (br_f (by decide) (br_f (by decide) (br_f (by decide) (br_f (by decide) (br_t rfl (xa_isCond lv (nI p) cs W fs gs E q hc (lb_br (fun n => lb_p0 h (fun z => n z.1)) (fun m => xa_isProg lv (nI c) cs W fs gs E q hp (lb_br (fun n => lb_p0 h (fun z => n z.2.1)) (fun m2 => xa_isProg lv (nI c) cs W fs gs E q hp (lb_br (fun n => lb_p0 h (fun z => n z.2.2)) (fun m3 => lb_p1 h ⟨m, m2, m3⟩))))))))))))))))
theorem px_8 {post : Int32 → Prop} {ct x y z : Int32} {p : Nat} (hp : p ≤ 32) (h : post (lb_i (lb_x p x ∧ lb_x p y))) : wpX_isSoundProgram post (lv, ct, nI p, cs, W, fs, gs, E, q) 8 x y z := br_f (by decide) (br_f (by decide) (br_f (by decide) (br_f (by decide) (br_f (by decide) (br_f (by decide) (br_f (by decide) (br_f (by decide) (br_f (by decide) (br_f (by decide) (br_t rfl (px_97 lv cs W fs gs E q hp h)))))))))))
theorem px_9 {post : Int32 → Prop} {x y z : Int32} {c p : Nat} (hc : c ≤ 24) (hp : p ≤ 32) (h : post (lb_i (lb_x c x ∧ lb_x p y))) : wpX_isSoundProgram post (lv, nI c, nI p, cs, W, fs, gs, E, q) 9 x y z := br_f (by decide) (br_f (by decide) (br_f (by decide) (br_f (by decide) (br_f (by decide) (br_f (by decide) (br_f (by decide) (br_f (by decide) (br_f (by decide) (br_f (by decide) (br_f (by decide) (br_t rfl (xa_isCond lv (nI p) cs W fs gs E q hc (lb_br (fun n => lb_p0 h (fun z => n z.1)) (fun m => xa_isProg lv (nI c) cs W fs gs E q hp (lb_br (fun n => lb_p0 h (fun z => n z.2)) (fun m2 => lb_p1 h ⟨m, m2⟩))))))))))))))))
theorem px_b {post : Int32 → Prop} {ct pt k x y z : Int32} (hk : k < 0 ∨ 9 < k) (h : post 0) : wpX_isSoundProgram post (lv, ct, pt, cs, W, fs, gs, E, q) k x y z := br_c (fun _ => h) (fun z => br_c (fun _ => h) (fun z2 => (hk.elim z z2).elim))
end
/-! ===== the reference: does it fit ===== -/
section
variable (fg : Int32) (hd W : Nat → Int32) (E : Nat → Int64) (F G b r : Nat → Int32)
theorem py_0 {post : Int32 → Prop} {fc fp x y z : Int32} (h : post (lb_i True)) : wpY_fits post (fc, fp, fg, hd, W, E, F, G, b, r) 0 x y z := br_f (by decide) (br_f (by decide) (br_f (by decide) (br_f (by decide) (br_f (by decide) (br_f (by decide) (br_f (by decide) (br_t (by decide) (lb_p1 h True.intro))))))))
theorem py_1 {post : Int32 → Prop} {fc fp x y z : Int32} (h : post (lb_i True)) : wpY_fits post (fc, fp, fg, hd, W, E, F, G, b, r) 1 x y z := br_f (by decide) (br_f (by decide) (br_f (by decide) (br_f (by decide) (br_f (by decide) (br_f (by decide) (br_f (by decide) (br_t (by decide) (lb_p1 h True.intro))))))))
theorem py_2 {post : Int32 → Prop} {fc fp x y z : Int32} (h : post (lb_i (lb_x 3 x ∧ lb_x 4 y ∧ lb_x 4 z))) : wpY_fits post (fc, fp, fg, hd, W, E, F, G, b, r) 2 x y z := br_t rfl (ya_inK (n := 2) (by decide) rfl (lb_br (fun n => lb_p0 h (fun z => n z.1)) (fun m => ya_inK (n := 3) (by decide) rfl (lb_br (fun n => lb_p0 h (fun z => n z.2.1)) (fun m2 => ya_inK (n := 3) (by decide) rfl (lb_br (fun n => lb_p0 h (fun z => n z.2.2)) (fun m3 => lb_p1 h ⟨m, m2, m3⟩)))))))
theorem py_3 {post : Int32 → Prop} {fc fp x y z : Int32} (h : post (lb_i (lb_x 3 x))) : wpY_fits post (fc, fp, fg, hd, W, E, F, G, b, r) 3 x y z := br_f (by decide) (br_t rfl (ya_inK (n := 2) (by decide) rfl (And.intro (lb_nar _) h)))
theorem py_65 {post : Int32 → Prop} {fp x : Int32} {c : Nat} (hc : c ≤ 24) (h : post (lb_i (lb_x c x))) : wY_fits_65 post x (nI c) fp fg hd W E F G b r := by
  unfold wY_fits_65
  exact ya_isCond fp fg hd W E F G b r hc (And.intro (lb_nar _) h)
theorem py_83 {post : Int32 → Prop} {fc x y : Int32} {p : Nat} (hp : p ≤ 32) (h : post (lb_i (lb_x p x ∧ lb_x p y))) : wY_fits_83 post x y fc (nI p) fg hd W E F G b r := by
  unfold wY_fits_83
  exact ya_isProg fc fg hd W E F G b r hp (lb_br (fun n => lb_p0 h (fun z => n z.1)) (fun m => ya_isProg fc fg hd W E F G b r hp (lb_br (fun n => lb_p0 h (fun z => n z.2)) (fun m2 => lb_p1 h ⟨m, m2⟩))))
theorem py_4 {post : Int32 → Prop} {fp x y z : Int32} {c : Nat} (hc : c ≤ 24) (h : post (lb_i (lb_x c x))) : wpY_fits post (nI c, fp, fg, hd, W, E, F, G, b, r) 4 x y z := br_f (by decide) (br_f (by decide) (br_t rfl (py_65 fg hd W E F G b r hc h)))
theorem py_5 {post : Int32 → Prop} {fp x y z : Int32} {c : Nat} (hc : c ≤ 24) (h : post (lb_i (lb_x c x))) : wpY_fits post (nI c, fp, fg, hd, W, E, F, G, b, r) 5 x y z := br_f (by decide) (br_f (by decide) (br_f (by decide) (br_t rfl (py_65 fg hd W E F G b r hc h))))
theorem py_6 {post : Int32 → Prop} {fc x y z : Int32} {p : Nat} (hp : p ≤ 32) (h : post (lb_i (lb_x p x ∧ lb_x p y))) : wpY_fits post (fc, nI p, fg, hd, W, E, F, G, b, r) 6 x y z := br_f (by decide) (br_f (by decide) (br_f (by decide) (br_f (by decide) (br_t rfl (py_83 fg hd W E F G b r hp h)))))
theorem py_8 {post : Int32 → Prop} {fc x y z : Int32} {p : Nat} (hp : p ≤ 32) (h : post (lb_i (lb_x p x ∧ lb_x p y))) : wpY_fits post (fc, nI p, fg, hd, W, E, F, G, b, r) 8 x y z := br_f (by decide) (br_f (by decide) (br_f (by decide) (br_f (by decide) (br_f (by decide) (br_t rfl (py_83 fg hd W E F G b r hp h))))))
theorem py_7 {post : Int32 → Prop} {x y z : Int32} {c p : Nat} (hc : c ≤ 24) (hp : p ≤ 32) (h : post (lb_i (lb_x c x ∧ lb_x p y ∧ lb_x p z))) : wpY_fits post (nI c, nI p, fg, hd, W, E, F, G, b, r) 7 x y z := br_f (by decide) (br_f (by decide) (br_f (by decide) (br_f (by decide) (br_f (by decide) (br_f (by decide) (br_t rfl (ya_isCond (nI p) fg hd W E F G b r hc (lb_br (fun n => lb_p0 h (fun z => n z.1)) (fun m => ya_isProg (nI c) fg hd W E F G b r hp (lb_br (fun n => lb_p0 h (fun z => n z.2.1)) (fun m2 => ya_isProg (nI c) fg hd W E F G b r hp (lb_br (fun n => lb_p0 h (fun z => n z.2.2)) (fun m3 => lb_p1 h ⟨m, m2, m3⟩)))))))))))))
theorem py_9 {post : Int32 → Prop} {x y z : Int32} {c p : Nat} (hc : c ≤ 24) (hp : p ≤ 32) (h : post (lb_i (lb_x c x ∧ lb_x p y))) : wpY_fits post (nI c, nI p, fg, hd, W, E, F, G, b, r) 9 x y z := br_f (by decide) (br_f (by decide) (br_f (by decide) (br_f (by decide) (br_f (by decide) (br_f (by decide) (br_f (by decide) (br_f (by decide) (ya_isCond (nI p) fg hd W E F G b r hc (lb_br (fun n => lb_p0 h (fun z => n z.1)) (fun m => ya_isProg (nI c) fg hd W E F G b r hp (lb_br (fun n => lb_p0 h (fun z => n z.2)) (fun m2 => lb_p1 h ⟨m, m2⟩))))))))))))
end
theorem lb_lt32 {c : Nat} (h : c < 32) : nI c < 32 := nI_lt (b := 32) h (by decide)
theorem lb_ne32 {c : Nat} (h : c < 32) : ¬ nI c = 32 := by
  show ¬ nI c = nI 32
  rw [nI_eq (by omega) (by decide)]
  omega
/-- the chain of tests by which the reference reckons the weight -/
def py_C (post : Int32 → SY → Prop) (k x y z : Int32) (fc fp fg : Int32) (hd W : Nat → Int32) (E : Nat → Int64) (F G b r : Nat → Int32) : Prop :=
  ((k = 6 → (wY_program_52 post k x y z 1 fc fp fg hd W E F G b r)) ∧ (¬ k = 6 → (((k = 8 → (wY_program_52 post k x y z 1 fc fp fg hd W E F G b r)) ∧ (¬ k = 8 → (wY_program_63 post k x y z 1 fc fp fg hd W E F G b r))))))
section
variable (fc fg : Int32) (hd W : Nat → Int32) (E : Nat → Int64) (F G b r : Nat → Int32)
theorem py_top {post : Int32 → SY → Prop} {k x y z w : Int32} {p : Nat} {OK : Prop} {EV : Nat → Int64} {FV GV : Nat → Prop} (hp : p < 32) (hk : lb_x 10 k) (hfit : ∀ post' : Int32 → Prop, post' (lb_i OK) → wpY_fits post' (fc, nI p, fg, hd, W, E, F, G, b, r) k x y z) (hch : OK → wY_program_98 post k x y z w fc (nI p) fg hd W E F G b r → py_C post k x y z fc (nI p) fg hd W E F G b r) (bad : ¬ OK → post (-1) (fc, nI p, fg, hd, W, E, F, G, b, r)) (full : OK → ¬ w ≤ 20 → post (-2) (fc, nI p, fg, hd, W, E, F, G, b, r)) (B : OK → w ≤ 20 → yp_B post k x y z p fc hd (upd W p w) E F G EV FV GV) (H : OK → w ≤ 20 → ∀ b r g, post (nI p) (fc, nI (p + 1), g, hd, upd W p w, lb_fl E (64 * p) 64 EV, lb_fi F (64 * p) 64 (fun s => lb_i (FV s)), lb_fi G (64 * p) 64 (fun s => lb_i (GV s)), b, r)) : wpY_program post (fc, nI p, fg, hd, W, E, F, G, b, r) k x y z := by
  refine br_f (lb_ne32 hp) (ya_inK (n := 9) (by decide) rfl (lb_br (fun n => absurd hk n) (fun _ => hfit _ (lb_br (fun n => bad n) (fun ok => hch ok ?_)))))
  by_cases hw : w ≤ 20
  · exact yp_98 fc hd W E F G hp hw (B ok hw) (H ok hw)
  · exact br_f hw (full ok hw)
theorem py_bad {post : Int32 → SY → Prop} {k x y z : Int32} {p : Nat} (hp : p < 32) (hk : ¬ lb_x 10 k) (bad : post (-1) (fc, nI p, fg, hd, W, E, F, G, b, r)) : wpY_program post (fc, nI p, fg, hd, W, E, F, G, b, r) k x y z := br_f (lb_ne32 hp) (ya_inK (n := 9) (by decide) rfl (lb_br (fun _ => bad) (fun m => absurd m hk)))
theorem py_c5 {post : Int32 → SY → Prop} {k x y z fp : Int32} (h6 : ¬ k = 6) (h8 : ¬ k = 8) (hl : k < 6) (h7 : ¬ k = 7) (H : wY_program_98 post k x y z 1 fc fp fg hd W E F G b r) : py_C post k x y z fc fp fg hd W E F G b r := br_f h6 (br_f h8 (br_t hl (br_f h7 H)))
theorem py_c6 {post : Int32 → SY → Prop} {x y z fp : Int32} (vx : vp_in x 32) (vy : vp_in y 32) (H : wY_program_98 post 6 x y z ((1 + W x.toNatClampNeg) + W y.toNatClampNeg) fc fp fg hd W E F G b r) : py_C post 6 x y z fc fp fg hd W E F G b r := br_t rfl (And.intro vx (nm_e (br_f (by decide) (And.intro vy (nm_e (br_f (by decide) H))))))
theorem py_c8 {post : Int32 → SY → Prop} {x y z fp : Int32} (vx : vp_in x 32) (vy : vp_in y 32) (H : wY_program_98 post 8 x y z ((1 + W x.toNatClampNeg) + W y.toNatClampNeg) fc fp fg hd W E F G b r) : py_C post 8 x y z fc fp fg hd W E F G b r := br_f (by decide) (br_t rfl (And.intro vx (nm_e (br_f (by decide) (And.intro vy (nm_e (br_f (by decide) H)))))))
theorem py_c7 {post : Int32 → SY → Prop} {x y z fp : Int32} (vy : vp_in y 32) (vz : vp_in z 32) (H : wY_program_98 post 7 x y z ((1 + W y.toNatClampNeg) + W z.toNatClampNeg) fc fp fg hd W E F G b r) : py_C post 7 x y z fc fp fg hd W E F G b r := br_f (by decide) (br_f (by decide) (br_f (by decide) (And.intro vy (nm_e (br_t rfl (And.intro vz (nm_e H)))))))
theorem py_c9 {post : Int32 → SY → Prop} {x y z fp : Int32} (vy : vp_in y 32) (H : wY_program_98 post 9 x y z (1 + W y.toNatClampNeg) fc fp fg hd W E F G b r) : py_C post 9 x y z fc fp fg hd W E F G b r := br_f (by decide) (br_f (by decide) (br_f (by decide) (And.intro vy (nm_e (br_f (by decide) H)))))
end
/-! ===== the states are related again ===== -/
theorem pr_fin {k c p : Nat} {lv g : Int32} {cs : Nat → Int64} {W : Nat → Int32} {fs gs E q : Nat → Int64} {hd F G b r : Nat → Int32} {wf wg : Int64} {EV EV' : Nat → Int64} {FV GV : Nat → Prop} (hc : c ≤ 24) (hp : p < 32) (RC : ∀ i s, i < 24 → s < 64 → hd (64 * i + s) = lb_i (lb_b (cs i) s)) (RF : ∀ i s, i < 32 → s < 64 → F (64 * i + s) = lb_i (lb_b (fs i) s)) (RG : ∀ i s, i < 32 → s < 64 → G (64 * i + s) = lb_i (lb_b (gs i) s)) (hE : ∀ s, s < 64 → EV s = EV' s) (hf : ∀ s, s < 64 → (lb_b wf s ↔ FV s)) (hg : ∀ s, s < 64 → (lb_b wg s ↔ GV s)) : i_Rel k (lv, nI c, nI (p + 1), cs, W, vp_updL fs p wf, vp_updL gs p wg, lb_fl E (64 * p) 64 EV, q) (nI c, nI (p + 1), g, hd, W, lb_fl E (64 * p) 64 EV', lb_fi F (64 * p) 64 (fun s => lb_i (FV s)), lb_fi G (64 * p) 64 (fun s => lb_i (GV s)), b, r) := by
  rw [lb_flC hE]
  refine ⟨lv, c, p + 1, cs, W, vp_updL fs p wf, vp_updL gs p wg, lb_fl E (64 * p) 64 EV', q, g, hd, _, _, b, r, hc, by omega, rfl, rfl, RC, ?_, ?_⟩
  · intro i s hi hs
    by_cases e : i = p
    · subst e
      rw [lb_fiI hs, pk_uLs, lb_ic (hf s hs)]
    · rw [lb_fiN (by omega), pk_uLn e]
      exact RF i s hi hs
  · intro i s hi hs
    by_cases e : i = p
    · subst e
      rw [lb_fiI hs, pk_uLs, lb_ic (hg s hs)]
    · rw [lb_fiN (by omega), pk_uLn e]
      exact RG i s hi hs
theorem pr_z {s : Nat} : lb_b 0 s ↔ False := ⟨fun z => lb_0 s z, False.elim⟩
theorem pr_vx {n N : Nat} {x : Int32} (h : lb_x n x) (hn : n ≤ N) (hN : N < 2 ^ 31) : vp_in x N := by
  obtain ⟨j, hj, e⟩ := h
  subst e
  exact lb_vi (by omega) hN
