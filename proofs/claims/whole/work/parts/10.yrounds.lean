section
variable (fc fp fg : Int32) (hd W : Nat → Int32) (E : Nat → Int64) (F G b r : Nat → Int32)
/-! ===== reach, spread ===== -/
theorem yr_2 {post : SY → Prop} {w : Int64} {g : Int32} (H : ∀ b' g', sr_ri w b g 64 b' g' → post (fc, fp, g', hd, W, E, F, G, b', r)) : ∀ d i b' g', i + d = 64 → sr_ri w b g i b' g' → wY_reach_2 post w fc fp (d + 1) (nI i) g' hd W E F G b' r := by
  intro d
  induction d with
  | zero =>
    intro i b' g' hi h
    have e : i = 64 := by omega
    subst e
    exact br_t lb_64x (H b' g' h)
  | succ d ih =>
    intro i b' g' hi h
    have hl : i < 64 := by omega
    have vi : vp_in (nI i) 64 := lb_vi hl (by decide)
    have ei : (nI i).toNatClampNeg = i := lb_cl (by omega)
    refine br_f (lb_64 hl) (br_c (fun z => And.intro vi (br_c (fun y => And.intro vi (nm_r (e' := upd b' i 1) (by rw [ei, lb_v1]) (nm_r (nI_1 i) ?_))) (fun y => nm_r (nI_1 i) ?_))) (fun z => nm_r (nI_1 i) ?_))
    · rw [lb_t1 hl] at z
      rw [ei] at y
      exact ih (i + 1) _ _ (by omega) (sr_rt hl h z y)
    · rw [ei] at y
      exact ih (i + 1) _ _ (by omega) (sr_ro hl h y)
    · rw [lb_t1 hl] at z
      exact ih (i + 1) _ _ (by omega) (sr_rn h z)
theorem yr_reach {post : SY → Prop} {w : Int64} {g : Int32} (hb : ∀ u, u < 64 → b u = lb_i (¬ b u = 0)) (H : ∀ b' g', sr_ri w b g 64 b' g' → post (fc, fp, g', hd, W, E, F, G, b', r)) : wpY_reach post (fc, fp, g, hd, W, E, F, G, b, r) w := ⟨65, yr_2 fc fp hd W E F G b r H 64 0 b g rfl (sr_r0 hb)⟩
theorem ys_64 {post : SY → Prop} {J : Int32 → Int32 → Int32 → Int32 → (Nat → Int32) → (Nat → Int32) → (Nat → Int64) → (Nat → Int32) → (Nat → Int32) → (Nat → Int32) → (Nat → Int32) → Prop} {c y s k : Nat} {T : Int64} {B : Nat → Prop} (hc : c < 24) (hy : y < 32) (hT : ∀ t, t < 64 → hd (64 * c + t) = lb_i (lb_b T t)) (HJ : ∀ b' g', sr_J E T y s B 64 b' g' → J (nI (k + 1)) fc fp g' hd W E F G b' r) : ∀ d i b' g', i + d = 64 → sr_J E T y s B i b' g' → wY_spread_64 post J (nI c) (nI y) (nI k) (d + 1) (nI i) fc fp g' hd W E F G b' r := by
  intro d
  induction d with
  | zero =>
    intro i b' g' hi h
    have e : i = 64 := by omega
    subst e
    exact br_t lb_64x (nm_r (nI_1 k) (HJ b' g' h))
  | succ d ih =>
    intro i b' g' hi h
    have hl : i < 64 := by omega
    have vi : vp_in (nI i) 64 := lb_vi hl (by decide)
    have ei : (nI i).toNatClampNeg = i := lb_cl (by omega)
    have eh : hd ((64 * nI c) + nI i).toNatClampNeg = lb_i (lb_b T i) := by rw [lb_at2 (by omega) hl, hT i hl]
    refine br_f (lb_64 hl) (And.intro vi (br_c (fun z => nm_r (nI_1 i) ?_) (fun z => And.intro (lb_in2 hc hl rfl (by decide)) (br_c (fun x => nm_r (nI_1 i) ?_) (fun x => And.intro (lb_in2 hy hl rfl (by decide)) ?_)))))
    · rw [ei] at z
      exact ih (i + 1) _ _ (by omega) (sr_Jn hl h (Or.inl z))
    · rw [eh] at x
      exact ih (i + 1) _ _ (by omega) (sr_Jn hl h (Or.inr (lb_iz.mp x)))
    · rw [eh] at x
      rw [ei] at z
      rw [lb_at2 (by omega) hl]
      exact yr_reach fc fp hd W E F G b' r (sr_Jb h) (fun b2 g2 h2 => nm_r (nI_1 i) (ih (i + 1) b2 g2 (by omega) (sr_Jr hl h z (lb_in.mp x) h2)))
theorem ys_42 {post : SY → Prop} {c y s : Nat} {T : Int64} (hc : c < 24) (hy : y < 32) (hs : s < 64) (hT : ∀ t, t < 64 → hd (64 * c + t) = lb_i (lb_b T t)) (H : ∀ b' g', (∀ u, u < 64 → b' u = lb_i (gr_R (sp_e E T y) s u)) → post (fc, fp, g', hd, W, E, F, G, b', r)) : ∀ d k b' g', k + d = 64 → sr_K E T y s k b' g' → wY_spread_42 post (nI c) (nI y) (d + 1) (nI k) fc fp g' hd W E F G b' r := by
  intro d
  induction d with
  | zero =>
    intro k b' g' hk h
    have e : k = 64 := by omega
    subst e
    exact br_t lb_64x (H b' g' (sr_Kx h (Or.inr (by omega))))
  | succ d ih =>
    intro k b' g' hk h
    have hl : k < 64 := by omega
    refine br_f (lb_64 hl) (br_c (fun z => H b' g' (sr_Kx h (Or.inl z))) (fun z => ?_))
    obtain ⟨B, h1, h2, h3⟩ := sr_KJ h z
    exact ⟨65, ys_64 fc fp hd W E F G r hc hy hT (fun b2 g2 h4 => ih (k + 1) b2 g2 (by omega) (sr_JK hs h4 h2 h3)) 64 0 b' 0 rfl h1⟩
theorem ys_3 {post : SY → Prop} {c y s : Nat} {T : Int64} {g : Int32} (hc : c < 24) (hy : y < 32) (hs : s < 64) (hT : ∀ t, t < 64 → hd (64 * c + t) = lb_i (lb_b T t)) (H : ∀ b' g', (∀ u, u < 64 → b' u = lb_i (gr_R (sp_e E T y) s u)) → post (fc, fp, g', hd, W, E, F, G, b', r)) : ∀ d i b', i + d = 64 → (∀ u, u < i → b' u = lb_i (u = s)) → wY_spread_3 post (nI s) (nI c) (nI y) fc fp g (d + 1) (nI i) hd W E F G b' r := by
  intro d
  induction d with
  | zero =>
    intro i b' hi h
    have e : i = 64 := by omega
    subst e
    exact br_t lb_64x ⟨65, ys_42 fc fp hd W E F G r hc hy hs hT H 64 0 b' 1 rfl (sr_K0 hs h)⟩
  | succ d ih =>
    intro i b' hi h
    have hl : i < 64 := by omega
    have vi : vp_in (nI i) 64 := lb_vi hl (by decide)
    have ei : (nI i).toNatClampNeg = i := lb_cl (by omega)
    refine br_f (lb_64 hl) (br_c (fun z => And.intro vi (nm_r (e' := upd b' i 1) (by rw [ei, lb_v1]) (nm_r (nI_1 i) (ih (i + 1) _ (by omega) ?_)))) (fun z => And.intro vi (nm_r (e' := upd b' i 0) (by rw [ei, lb_v0]) (nm_r (nI_1 i) (ih (i + 1) _ (by omega) ?_)))))
    · rw [nI_eq (by omega) (by omega)] at z
      intro u hu
      by_cases e : u = i
      · subst e
        rw [pk_us, lb_i1 z]
      · rw [pk_un e]
        exact h u (by omega)
    · rw [nI_eq (by omega) (by omega)] at z
      intro u hu
      by_cases e : u = i
      · subst e
        rw [pk_us, lb_i0 z]
      · rw [pk_un e]
        exact h u (by omega)
theorem ys_spread {post : SY → Prop} {c y s : Nat} {T : Int64} {g : Int32} (hc : c < 24) (hy : y < 32) (hs : s < 64) (hT : ∀ t, t < 64 → hd (64 * c + t) = lb_i (lb_b T t)) (H : ∀ b' g', (∀ u, u < 64 → b' u = lb_i (gr_R (sp_e E T y) s u)) → post (fc, fp, g', hd, W, E, F, G, b', r)) : wpY_spread post (fc, fp, g, hd, W, E, F, G, b, r) (nI s) (nI c) (nI y) :=
  ⟨65, ys_3 fc fp hd W E F G r hc hy hs hT H 64 0 b rfl (fun u hu => by omega)⟩
/-! ===== hasNext, findRounds ===== -/
theorem yh_2 {post : Int32 → Prop} {w : Int64} (h : post (lb_i (∃ u, u < 64 ∧ lb_b w u ∧ ¬ r u = 0))) : ∀ d i, i + d = 64 → (¬ ∃ u, u < i ∧ lb_b w u ∧ ¬ r u = 0) → wY_hasNext_2 post w fc fp fg hd W E F G b r (d + 1) (nI i) := by
  intro d
  induction d with
  | zero =>
    intro i hi n
    have e : i = 64 := by omega
    subst e
    exact br_t lb_64x (lb_p0 h n)
  | succ d ih =>
    intro i hi n
    have hl : i < 64 := by omega
    have vi : vp_in (nI i) 64 := lb_vi hl (by decide)
    have ei : (nI i).toNatClampNeg = i := lb_cl (by omega)
    refine br_f (lb_64 hl) (br_c (fun z => And.intro vi (br_c (fun y => nm_r (nI_1 i) (ih (i + 1) (by omega) ?_)) (fun y => lb_p1 h ?_))) (fun z => nm_r (nI_1 i) (ih (i + 1) (by omega) ?_)))
    · rw [ei] at y
      rw [lb_exF (P := fun u => lb_b w u ∧ ¬ r u = 0) (fun c => c.2 y)]
      exact n
    · rw [ei] at y
      rw [lb_t1 hl] at z
      exact ⟨i, hl, z, y⟩
    · rw [lb_t1 hl] at z
      rw [lb_exF (P := fun u => lb_b w u ∧ ¬ r u = 0) (fun c => z c.1)]
      exact n
theorem yh_next {post : Int32 → Prop} {w : Int64} (h : post (lb_i (∃ u, u < 64 ∧ lb_b w u ∧ ¬ r u = 0))) : wpY_hasNext post (fc, fp, fg, hd, W, E, F, G, b, r) w := ⟨65, yh_2 fc fp fg hd W E F G b r h 64 0 rfl (fun z => by obtain ⟨u, hu, _⟩ := z; omega)⟩
theorem yn_76 {post : SY → Prop} {J : Int32 → Int32 → (Nat → Int32) → (Nat → Int32) → (Nat → Int64) → (Nat → Int32) → (Nat → Int32) → (Nat → Int32) → (Nat → Int32) → Prop} {y s k : Nat} {T : Int64} {A : Nat → Prop} (hy : y < 32) (HJ : ∀ r' g', sr_M E T y s A 64 r' g' → J (nI (k + 1)) g' hd W E F G b r') : ∀ d i r' g', i + d = 64 → sr_M E T y s A i r' g' → wY_findRounds_76 post J (nI y) (nI k) fc fp (d + 1) (nI i) g' hd W E F G b r' := by
  intro d
  induction d with
  | zero =>
    intro i r' g' hi h
    have e : i = 64 := by omega
    subst e
    exact br_t lb_64x (nm_r (nI_1 k) (HJ r' g' h))
  | succ d ih =>
    intro i r' g' hi h
    have hl : i < 64 := by omega
    have vi : vp_in (nI i) 64 := lb_vi hl (by decide)
    have ei : (nI i).toNatClampNeg = i := lb_cl (by omega)
    have ee : ((64 * nI y) + nI i).toNatClampNeg = 64 * y + i := lb_at2 (by omega) hl
    refine br_f (lb_64 hl) (And.intro vi (br_c (fun z => nm_r (nI_1 i) ?_) (fun z => And.intro (lb_in2 hy hl rfl (by decide)) (yh_next fc fp g' hd W E F G b r' (lb_br (fun x => And.intro vi (nm_r (e' := upd r' i 0) (by rw [ei, lb_v0]) (nm_r (nI_1 i) ?_))) (fun x => nm_r (nI_1 i) ?_))))))
    · rw [ei] at z
      exact ih (i + 1) _ _ (by omega) (sr_Mn hl h (Or.inl z))
    · rw [ei] at z
      rw [ee] at x
      exact ih (i + 1) _ _ (by omega) (sr_Mr hl h z x)
    · rw [ee] at x
      exact ih (i + 1) _ _ (by omega) (sr_Mn hl h (Or.inr x))
theorem yn_55 {post : SY → Prop} {y s : Nat} {T : Int64} (hy : y < 32) (hs : s < 64) (H : ∀ r' g', (∀ u, u < 64 → r' u = lb_i (gr_R (sp_e E T y) s u ∧ gr_inf (sp_e E T y) u)) → post (fc, fp, g', hd, W, E, F, G, b, r')) : ∀ d k r' g', k + d = 64 → sr_N E T y s k r' g' → wY_findRounds_55 post (nI y) fc fp (d + 1) (nI k) g' hd W E F G b r' := by
  intro d
  induction d with
  | zero =>
    intro k r' g' hk h
    have e : k = 64 := by omega
    subst e
    exact br_t lb_64x (H r' g' (sr_Nx hs h (Or.inr (by omega))))
  | succ d ih =>
    intro k r' g' hk h
    have hl : k < 64 := by omega
    refine br_f (lb_64 hl) (br_c (fun z => H r' g' (sr_Nx hs h (Or.inl z))) (fun z => ?_))
    obtain ⟨A, h1, h2, h3⟩ := sr_NM h z
    exact ⟨65, yn_76 fc fp hd W E F G b hy (fun r2 g2 h4 => ih (k + 1) r2 g2 (by omega) (sr_MN hs h4 h2 h3)) 64 0 r' 0 rfl h1⟩
theorem yn_2 {post : SY → Prop} {c y s : Nat} {T : Int64} {g : Int32} (hc : c < 24) (hy : y < 32) (hs : s < 64) (hT : ∀ t, t < 64 → hd (64 * c + t) = lb_i (lb_b T t)) (hb : ∀ u, u < 64 → b u = lb_i (gr_R (sp_e E T y) s u)) (H : ∀ r' g', (∀ u, u < 64 → r' u = lb_i (gr_R (sp_e E T y) s u ∧ gr_inf (sp_e E T y) u)) → post (fc, fp, g', hd, W, E, F, G, b, r')) : ∀ d i r', i + d = 64 → (∀ u, u < i → r' u = lb_i (gr_R (sp_e E T y) s u ∧ lb_b T u)) → wY_findRounds_2 post (nI c) (nI y) fc fp g (d + 1) (nI i) hd W E F G b r' := by
  intro d
  induction d with
  | zero =>
    intro i r' hi h
    have e : i = 64 := by omega
    subst e
    exact br_t lb_64x ⟨65, yn_55 fc fp hd W E F G b hy hs H 64 0 r' 1 rfl (sr_N0 h)⟩
  | succ d ih =>
    intro i r' hi h
    have hl : i < 64 := by omega
    have vi : vp_in (nI i) 64 := lb_vi hl (by decide)
    have ei : (nI i).toNatClampNeg = i := lb_cl (by omega)
    have eh : hd ((64 * nI c) + nI i).toNatClampNeg = lb_i (lb_b T i) := by rw [lb_at2 (by omega) hl, hT i hl]
    have st : ∀ v, v = lb_i (gr_R (sp_e E T y) s i ∧ lb_b T i) → ∀ u, u < i + 1 → upd r' i v u = lb_i (gr_R (sp_e E T y) s u ∧ lb_b T u) := by
      intro v hv u hu
      by_cases e : u = i
      · subst e
        rw [pk_us, hv]
      · rw [pk_un e]
        exact h u (by omega)
    refine br_f (lb_64 hl) (And.intro vi (br_c (fun z => And.intro vi (nm_r (e' := upd r' i 0) (by rw [ei, lb_v0]) (nm_r (nI_1 i) (ih (i + 1) _ (by omega) (st 0 ?_))))) (fun z => And.intro (lb_in2 hc hl rfl (by decide)) (br_c (fun x => And.intro vi (nm_r (e' := upd r' i 0) (by rw [ei, lb_v0]) (nm_r (nI_1 i) (ih (i + 1) _ (by omega) (st 0 ?_))))) (fun x => And.intro vi (nm_r (e' := upd r' i 1) (by rw [ei, lb_v1]) (nm_r (nI_1 i) (ih (i + 1) _ (by omega) (st 1 ?_)))))))))
    · rw [ei, hb i hl] at z
      exact (lb_i0 (fun c => lb_iz.mp z c.1)).symm
    · rw [eh] at x
      exact (lb_i0 (fun c => lb_iz.mp x c.2)).symm
    · rw [ei, hb i hl] at z
      rw [eh] at x
      exact (lb_i1 ⟨lb_in.mp z, lb_in.mp x⟩).symm
theorem yn_find {post : SY → Prop} {c y s : Nat} {T : Int64} {g : Int32} (hc : c < 24) (hy : y < 32) (hs : s < 64) (hT : ∀ t, t < 64 → hd (64 * c + t) = lb_i (lb_b T t)) (hb : ∀ u, u < 64 → b u = lb_i (gr_R (sp_e E T y) s u)) (H : ∀ r' g', (∀ u, u < 64 → r' u = lb_i (gr_R (sp_e E T y) s u ∧ gr_inf (sp_e E T y) u)) → post (fc, fp, g', hd, W, E, F, G, b, r')) : wpY_findRounds post (fc, fp, g, hd, W, E, F, G, b, r) (nI c) (nI y) :=
  ⟨65, yn_2 fc fp hd W E F G b hc hy hs hT hb H 64 0 r rfl (fun u hu => by omega)⟩
end
