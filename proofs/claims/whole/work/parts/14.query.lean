/-- the same numbers, the same ends and weights; a set of states is the row of its truths -/
def i_Rel (k : Nat) (u : SX) (v : SY) : Prop :=
  ∃ (lv : Int32) (c p : Nat) (cs : Nat → Int64) (W : Nat → Int32) (fs gs E q : Nat → Int64) (g : Int32) (hd F G b r : Nat → Int32), c ≤ 24 ∧ p ≤ 32 ∧ u = (lv, nI c, nI p, cs, W, fs, gs, E, q) ∧ v = (nI c, nI p, g, hd, W, E, F, G, b, r) ∧ (∀ i s, i < 24 → s < 64 → hd (64 * i + s) = lb_i (lb_b (cs i) s)) ∧ (∀ i s, i < 32 → s < 64 → F (64 * i + s) = lb_i (lb_b (fs i) s)) ∧ (∀ i s, i < 32 → s < 64 → G (64 * i + s) = lb_i (lb_b (gs i) s))
theorem i_up {k : Nat} {u : SX} {v : SY} (h : i_Rel k u v) : i_Rel (k + 5) u v := h
theorem i_vc0 : wpX_init (fun u => wpY_init (fun v => i_Rel 0 u v)) := by
  have z : ∀ s : Nat, (0 : Int32) = lb_i (lb_b 0 s) := fun s => (lb_i0 (lb_0 s)).symm
  exact ⟨1, 0, 0, fun _ => 0, fun _ => 0, fun _ => 0, fun _ => 0, fun _ => 0, fun _ => 0, 0, fun _ => 0, fun _ => 0, fun _ => 0, fun _ => 0, fun _ => 0, by omega, by omega, rfl, rfl, fun _ s _ _ => z s, fun _ s _ _ => z s, fun _ s _ _ => z s⟩
def lb_q (c p : Nat) (k x y : Int32) : Prop := lb_x 6 k ∧ lb_x p x ∧ (2 < k ∨ lb_x c y)
theorem lb_qd {c p : Nat} {k x y : Int32} (h : lb_q c p k x y) (hc : c ≤ 24) : ∃ j i c', j < 6 ∧ i < p ∧ k = nI j ∧ x = nI i ∧ (j < 3 → y = nI c' ∧ c' < 24) := by
  obtain ⟨⟨j, hj, ej⟩, ⟨i, hi, ei⟩, h3⟩ := h
  subst ej
  rcases h3 with h3 | ⟨c', hc', ec⟩
  · have h3 : nI 2 < nI j := h3
    rw [nI_ltI (by decide) (by omega)] at h3
    exact ⟨j, i, 0, hj, hi, rfl, ei, fun z => by omega⟩
  · exact ⟨j, i, c', hj, hi, rfl, ei, fun _ => ⟨ec, by omega⟩⟩
theorem lb_gt {n : Nat} {x : Int32} (h : lb_x (n + 1) x) (hn : n + 1 < 2 ^ 31) : ¬ nI n < x := by
  obtain ⟨j, hj, e⟩ := h
  subst e
  rw [nI_ltI (by omega) (by omega)]
  omega
section
variable (lv : Int32) (cs : Nat → Int64) (W : Nat → Int32) (fs gs E q : Nat → Int64)
theorem xa_isQ {post : Int32 → Prop} {c p : Nat} {k x y : Int32} (hc : c ≤ 24) (hp : p ≤ 32) (h : post (lb_i (lb_q c p k x y))) : wpX_isQuestion post (lv, nI c, nI p, cs, W, fs, gs, E, q) k x y := by
  refine br_c (fun z => lb_p0 h (fun w => lb_x0 w.1 (by decide) z)) (fun z => br_c (fun z2 => lb_p0 h (fun w => lb_gt (n := 5) w.1 (by decide) z2)) (fun z2 => ?_))
  have h6 : lb_x 6 k := (lb_xK (n := 5) (by decide) k).mp ⟨Int32.not_lt.mp z, Int32.not_lt.mp z2⟩
  exact xa_isProg lv (nI c) cs W fs gs E q hp (lb_br (fun n => lb_p0 h (fun w => n w.2.1)) (fun m => br_c (fun z3 => lb_p1 h ⟨h6, m, Or.inl z3⟩) (fun z3 => xa_isCond lv (nI p) cs W fs gs E q hc (lb_br (fun n => lb_p0 h (fun w => w.2.2.elim z3 n)) (fun m2 => lb_p1 h ⟨h6, m, Or.inr m2⟩)))))
end
section
variable (fg : Int32) (hd W : Nat → Int32) (E : Nat → Int64) (F G b r : Nat → Int32)
theorem ya_isA {post : Int32 → Prop} {c p : Nat} {k x y : Int32} (hc : c ≤ 24) (hp : p ≤ 32) (h : post (lb_i (lb_q c p k x y))) : wpY_isAsked post (nI c, nI p, fg, hd, W, E, F, G, b, r) k x y := by
  unfold wpY_isAsked
  exact ya_inK (n := 5) (by decide) rfl (lb_br (fun n => lb_p0 h (fun w => n w.1)) (fun h6 => ya_isProg (nI c) fg hd W E F G b r hp (lb_br (fun n => lb_p0 h (fun w => n w.2.1)) (fun m => br_c (fun z3 => lb_p1 h ⟨h6, m, Or.inl z3⟩) (fun z3 => ya_isCond (nI p) fg hd W E F G b r hc (lb_br (fun n => lb_p0 h (fun w => w.2.2.elim z3 n)) (fun m2 => lb_p1 h ⟨h6, m, Or.inr m2⟩)))))))
end
section
variable (fc fp fg : Int32) (hd W : Nat → Int32) (E : Nat → Int64) (F G b r : Nat → Int32)
theorem yq_count {post : Int32 → Prop} {k x y : Int32} {K : Nat → Prop} (h : post (nI (gr_sz K 64))) (HK : ∀ (post' : Int32 → Prop) (s : Nat), s < 64 → post' (lb_i (K s)) → wpY_isKind post' (fc, fp, fg, hd, W, E, F, G, b, r) k x y (nI s)) : ∀ d i, i + d = 64 → wY_count_18 post k x y fc fp fg hd W E F G b r (d + 1) (nI (gr_sz K i)) (nI i) := by
  intro d
  induction d with
  | zero =>
    intro i hi
    have e : i = 64 := by omega
    subst e
    exact br_t lb_64x h
  | succ d ih =>
    intro i hi
    have hl : i < 64 := by omega
    refine br_f (lb_64 hl) (HK _ i hl (lb_br (fun n => nm_r (nI_1 i) ?_) (fun p => nm_r (nI_1 _) (nm_r (nI_1 i) ?_))))
    · rw [← lb_szf n]
      exact ih (i + 1) (by omega)
    · rw [← lb_szt p]
      exact ih (i + 1) (by omega)
theorem yq_first {post : Int32 → Prop} {k x y : Int32} {K : Nat → Prop} (HK : ∀ (post' : Int32 → Prop) (s : Nat), s < 64 → post' (lb_i (K s)) → wpY_isKind post' (fc, fp, fg, hd, W, E, F, G, b, r) k x y (nI s)) : ∀ d i, i + d = 64 → post (lb_mem K 0 d i 0) → wY_first_15 post k x y fc fp fg hd W E F G b r (d + 1) (nI i) := by
  intro d
  induction d with
  | zero =>
    intro i hi h
    have e : i = 64 := by omega
    subst e
    exact br_t lb_64x h
  | succ d ih =>
    intro i hi h
    have hl : i < 64 := by omega
    refine br_f (lb_64 hl) (HK _ i hl (lb_br (fun n => nm_r (nI_1 i) ?_) (fun p => ?_)))
    · rw [lb_memf n] at h
      exact ih (i + 1) (by omega) h
    · rw [lb_memt (k := 0) (b := 0) p nI_0] at h
      exact h
theorem yq_size5 {post : Int32 → Prop} {w : Int64} (h : post (nI (gr_sz (lb_b w) 64))) : ∀ d i, i + d = 64 → wY_size_5 post w fc fp fg hd W E F G b r (d + 1) (nI (gr_sz (lb_b w) i)) (nI i) := by
  intro d
  induction d with
  | zero =>
    intro i hi
    have e : i = 64 := by omega
    subst e
    exact br_t lb_64x h
  | succ d ih =>
    intro i hi
    have hl : i < 64 := by omega
    refine br_f (lb_64 hl) (br_c (fun z => nm_r (nI_1 _) (nm_r (nI_1 i) ?_)) (fun z => nm_r (nI_1 i) ?_))
    · rw [lb_t1 hl] at z
      rw [← lb_szt z]
      exact ih (i + 1) (by omega)
    · rw [lb_t1 hl] at z
      rw [← lb_szf z]
      exact ih (i + 1) (by omega)
theorem yq_size {post : Int32 → Prop} {w : Int64} (h : post (nI (gr_sz (lb_b w) 64))) : wpY_size post (fc, fp, fg, hd, W, E, F, G, b, r) w := ⟨65, yq_size5 fc fp fg hd W E F G b r h 64 0 rfl⟩
theorem yq_end27 {post : Int32 → Prop} {p s : Nat} {k : Int32} (hp : p < 32) (hs : s < 64) : ∀ d i n, i + d = 64 → post (lb_mem (lb_b (E (64 * p + s))) k d i n) → wY_end_27 post (nI p) (nI s) k fc fp fg hd W E F G b r (d + 1) (nI n) (nI i) := by
  intro d
  induction d with
  | zero =>
    intro i n hi h
    have e : i = 64 := by omega
    subst e
    exact br_t lb_64x h
  | succ d ih =>
    intro i n hi h
    have hl : i < 64 := by omega
    have ea : ((64 * nI p) + nI s).toNatClampNeg = 64 * p + s := lb_at2 (by omega) hs
    refine br_f (lb_64 hl) (And.intro (lb_in2 hp hs rfl (by decide)) (br_c (fun z => br_c (fun e => ?_) (fun e => nm_r (nI_1 n) (nm_r (nI_1 i) ?_))) (fun z => nm_r (nI_1 i) ?_)))
    · rw [ea, lb_t1 hl] at z
      rw [lb_memt z e] at h
      exact h
    · rw [ea, lb_t1 hl] at z
      rw [lb_memn z e] at h
      exact ih (i + 1) (n + 1) (by omega) h
    · rw [ea, lb_t1 hl] at z
      rw [lb_memf z] at h
      exact ih (i + 1) n (by omega) h
theorem yq_after23 {post : Int32 → Prop} {p c : Nat} {T : Int64} (hp : p < 32) (hc : c < 24) (hT : ∀ t, t < 64 → hd (64 * c + t) = lb_i (lb_b T t)) (H : ∀ w, (∀ j, j < 64 → (lb_b w j ↔ ∃ t, t < 64 ∧ lb_b T t ∧ lb_b (E (64 * p + t)) j)) → post (nI (gr_sz (lb_b w) 64))) : ∀ d i w, i + d = 64 → lb_uni (fun t => E (64 * p + t)) (lb_b T) i w → wY_after_23 post (nI p) (nI c) fc fp fg hd W E F G b r (d + 1) w (nI i) := by
  intro d
  induction d with
  | zero =>
    intro i w hi h
    have e : i = 64 := by omega
    subst e
    exact br_t lb_64x (yq_size fc fp fg hd W E F G b r (H w h))
  | succ d ih =>
    intro i w hi h
    have hl : i < 64 := by omega
    have eh : hd ((64 * nI c) + nI i).toNatClampNeg = lb_i (lb_b T i) := by rw [lb_at2 (by omega) hl, hT i hl]
    have ea : ((64 * nI p) + nI i).toNatClampNeg = 64 * p + i := lb_at2 (by omega) hl
    refine br_f (lb_64 hl) (And.intro (lb_in2 hc hl rfl (by decide)) (lb_brE eh (fun n => nm_r (nI_1 i) (ih (i + 1) w (by omega) (lb_uniF h n))) (fun m => And.intro (lb_in2 hp hl rfl (by decide)) (nm_r (e' := w ||| E (64 * p + i)) (by rw [ea]) (nm_r (nI_1 i) (ih (i + 1) _ (by omega) (lb_uniT h m)))))))
end
theorem i_vc_count {k : Nat} {u : SX} {v : SY} (I : i_Rel k u v) (hk : k + 5 ≤ 2560) (v1 : Int32) (v2 : Int32) (v3 : Int32) : wpX_count (fun r => wpY_count (fun r' => r' = r ∧ i_Rel (k + 5) u v) v v1 v2 v3) u v1 v2 v3 := by
  have J : i_Rel (k + 5) u v := I
  obtain ⟨lv, c, p, cs, W, fs, gs, E, q, g, hd, F, G, b, r, hc, hp, eu, ev, RC, RF, RG⟩ := I
  subst eu ev
  unfold wpX_count wpY_count
  refine xa_isQ lv cs W fs gs E q hc hp (lb_br (fun n => ya_isA g hd W E F G b r hc hp (lb_br (fun _ => ⟨rfl, J⟩) (fun m => absurd m n))) (fun ok => ?_))
  obtain ⟨j, i, c', hj, hi, ej, ei, hy⟩ := lb_qd ok hc
  subst ej ei
  refine xk_is lv (nI c) (nI p) cs W fs gs E q hj hy (by omega) (fun w hw => xa_size (ya_isA g hd W E F G b r hc hp (lb_br (fun n => absurd ok n) (fun _ => ⟨65, yq_count (nI c) (nI p) g hd W E F G b r (K := fun s => sp_K E fs gs cs i c' s j) ?_ (fun post' s hs h => yk_is (nI c) (nI p) g hd W E F G b r hj hy (by omega) hs RC RF RG h) 64 0 rfl⟩))))
  rw [lb_szc hw]
  exact ⟨rfl, J⟩
theorem i_vc_first {k : Nat} {u : SX} {v : SY} (I : i_Rel k u v) (hk : k + 5 ≤ 2560) (v1 : Int32) (v2 : Int32) (v3 : Int32) : wpX_first (fun r => wpY_first (fun r' => r' = r ∧ i_Rel (k + 5) u v) v v1 v2 v3) u v1 v2 v3 := by
  have J : i_Rel (k + 5) u v := I
  obtain ⟨lv, c, p, cs, W, fs, gs, E, q, g, hd, F, G, b, r, hc, hp, eu, ev, RC, RF, RG⟩ := I
  subst eu ev
  unfold wpX_first wpY_first
  refine xa_isQ lv cs W fs gs E q hc hp (lb_br (fun n => ya_isA g hd W E F G b r hc hp (lb_br (fun _ => ⟨rfl, J⟩) (fun m => absurd m n))) (fun ok => ?_))
  obtain ⟨j, i, c', hj, hi, ej, ei, hy⟩ := lb_qd ok hc
  subst ej ei
  refine xk_is lv (nI c) (nI p) cs W fs gs E q hj hy (by omega) (fun w hw => xa_member (ya_isA g hd W E F G b r hc hp (lb_br (fun n => absurd ok n) (fun _ => ⟨65, yq_first (nI c) (nI p) g hd W E F G b r (K := fun s => sp_K E fs gs cs i c' s j) (fun post' s hs h => yk_is (nI c) (nI p) g hd W E F G b r hj hy (by omega) hs RC RF RG h) 64 0 rfl ?_⟩))))
  rw [lb_memc 64 0 0 (fun s hs => hw s (by omega))]
  exact ⟨rfl, J⟩
theorem i_vc_is {k : Nat} {u : SX} {v : SY} (I : i_Rel k u v) (hk : k + 5 ≤ 2560) (v1 : Int32) (v2 : Int32) (v3 : Int32) (v4 : Int32) : wpX_is (fun r => wpY_is (fun r' => r' = r ∧ i_Rel (k + 5) u v) v v1 v2 v3 v4) u v1 v2 v3 v4 := by
  have J : i_Rel (k + 5) u v := I
  obtain ⟨lv, c, p, cs, W, fs, gs, E, q, g, hd, F, G, b, r, hc, hp, eu, ev, RC, RF, RG⟩ := I
  subst eu ev
  unfold wpX_is wpY_is
  refine xa_isQ lv cs W fs gs E q hc hp (lb_br (fun n => ya_isA g hd W E F G b r hc hp (lb_br (fun _ => ⟨rfl, J⟩) (fun m => absurd m n))) (fun ok => xa_isState (lb_br (fun n => ya_isA g hd W E F G b r hc hp (lb_br (fun n => absurd ok n) (fun _ => ya_inK (n := 63) (by decide) rfl (lb_br (fun _ => ⟨rfl, J⟩) (fun m => absurd m n))))) (fun hs => ?_))))
  obtain ⟨j, i, c', hj, hi, ej, ei, hy⟩ := lb_qd ok hc
  subst ej ei
  have hs' := hs
  obtain ⟨s, hs2, es⟩ := hs'
  subst es
  refine xk_is lv (nI c) (nI p) cs W fs gs E q hj hy (by omega) (fun w hw => xa_contains hs2 (And.intro (lb_nar _) (ya_isA g hd W E F G b r hc hp (lb_br (fun n => absurd ok n) (fun _ => ya_inK (n := 63) (by decide) rfl (lb_br (fun n => absurd hs n) (fun _ => yk_is (nI c) (nI p) g hd W E F G b r hj hy (by omega) hs2 RC RF RG (lb_br (fun n => ⟨?_, J⟩) (fun m => ⟨?_, J⟩)))))))))
  · exact (lb_i0 (fun z => n ((hw s hs2).mp z))).symm
  · exact (lb_i1 ((hw s hs2).mpr m)).symm
theorem i_vc_holds {k : Nat} {u : SX} {v : SY} (I : i_Rel k u v) (hk : k + 5 ≤ 2560) (v1 : Int32) (v2 : Int32) : wpX_holds (fun r => wpY_holds (fun r' => r' = r ∧ i_Rel (k + 5) u v) v v1 v2) u v1 v2 := by
  have J : i_Rel (k + 5) u v := I
  obtain ⟨lv, c, p, cs, W, fs, gs, E, q, g, hd, F, G, b, r, hc, hp, eu, ev, RC, RF, RG⟩ := I
  subst eu ev
  unfold wpX_holds wpY_holds
  refine xa_isCond lv (nI p) cs W fs gs E q hc (lb_br (fun n => ya_isCond (nI p) g hd W E F G b r hc (lb_br (fun _ => ⟨rfl, J⟩) (fun m => absurd m n))) (fun ok => xa_isState (lb_br (fun n => ya_isCond (nI p) g hd W E F G b r hc (lb_br (fun n => absurd ok n) (fun _ => ya_inK (n := 63) (by decide) rfl (lb_br (fun _ => ⟨rfl, J⟩) (fun m => absurd m n))))) (fun hs => ?_))))
  have ok' := ok
  obtain ⟨i, hi, ei⟩ := ok'
  subst ei
  have hs' := hs
  obtain ⟨s, hs2, es⟩ := hs'
  subst es
  have eh : hd ((64 * nI i) + nI s).toNatClampNeg = lb_i (lb_b (cs i) s) := by rw [lb_at2 (by omega) hs2, RC i s (by omega) hs2]
  have ei : (nI i).toNatClampNeg = i := lb_cl (by omega)
  have ky : ∀ (post : Int32 → Prop), post (lb_i (lb_b (cs i) s)) → wpY_isCondition (fun r_1 => (((r_1 = 0 → (post 0)) ∧ (¬ r_1 = 0 → (wpY_in (fun r_13 => (((r_13 = 0 → (post 0)) ∧ (¬ r_13 = 0 → (vp_in ((64 * nI i) + nI s) 1536 ∧ ((((hd ((64 * nI i) + nI s).toNatClampNeg) = 0 → (post 0)) ∧ (¬ (hd ((64 * nI i) + nI s).toNatClampNeg) = 0 → (post 1))))))))) (nI c, nI p, g, hd, W, E, F, G, b, r) (nI s) 0 63))))) (nI c, nI p, g, hd, W, E, F, G, b, r) (nI i) :=
    fun post h => ya_isCond (nI p) g hd W E F G b r hc (lb_br (fun n => absurd ok n) (fun _ => ya_inK (n := 63) (by decide) rfl (lb_br (fun n => absurd hs n) (fun _ => And.intro (lb_in2 (n := 24) (by omega) hs2 rfl (by decide)) (lb_brE eh (fun n => lb_p0 h n) (fun m => lb_p1 h m))))))
  refine And.intro (lb_vi (by omega) (by decide)) ?_
  rw [ei]
  refine xa_contains hs2 (lb_br (fun n => ?_) (fun m => ?_))
  · exact ky (fun r' => r' = 0 ∧ i_Rel (k + 5) (lv, nI c, nI p, cs, W, fs, gs, E, q) (nI c, nI p, g, hd, W, E, F, G, b, r)) ⟨lb_i0 n, J⟩
  · exact ky (fun r' => r' = 1 ∧ i_Rel (k + 5) (lv, nI c, nI p, cs, W, fs, gs, E, q) (nI c, nI p, g, hd, W, E, F, G, b, r)) ⟨lb_i1 m, J⟩
theorem i_vc_drop {k : Nat} {u : SX} {v : SY} (I : i_Rel k u v) (hk : k + 5 ≤ 2560) : wpX_drop (fun r u' => wpY_drop (fun r' v' => r' = r ∧ i_Rel (k + 5) u' v') v) u := by
  obtain ⟨lv, c, p, cs, W, fs, gs, E, q, g, hd, F, G, b, r, hc, hp, eu, ev, RC, RF, RG⟩ := I
  subst eu ev
  exact ⟨rfl, lv, 0, 0, cs, W, fs, gs, E, q, g, hd, F, G, b, r, by omega, by omega, rfl, rfl, RC, RF, RG⟩
theorem i_vc_level {k : Nat} {u : SX} {v : SY} (I : i_Rel k u v) (hk : k + 5 ≤ 2560) (v1 : Int32) : wpX_level (fun r u' => wpY_level (fun r' => r' = r ∧ i_Rel (k + 5) u' v) v v1) u v1 := by
  obtain ⟨lv, c, p, cs, W, fs, gs, E, q, g, hd, F, G, b, r, hc, hp, eu, ev, RC, RF, RG⟩ := I
  subst eu ev
  have J : ∀ lv', i_Rel (k + 5) (lv', nI c, nI p, cs, W, fs, gs, E, q) (nI c, nI p, g, hd, W, E, F, G, b, r) := fun lv' => ⟨lv', c, p, cs, W, fs, gs, E, q, g, hd, F, G, b, r, hc, hp, rfl, rfl, RC, RF, RG⟩
  exact br_c (fun e => br_t e ⟨rfl, J v1⟩) (fun e => br_c (fun e2 => br_f e (br_t e2 ⟨rfl, J v1⟩)) (fun e2 => br_f e (br_f e2 ⟨rfl, J lv⟩)))
theorem i_vc_ends {k : Nat} {u : SX} {v : SY} (I : i_Rel k u v) (hk : k + 5 ≤ 2560) (v1 : Int32) (v2 : Int32) : wpX_ends (fun r => wpY_ends (fun r' => r' = r ∧ i_Rel (k + 5) u v) v v1 v2) u v1 v2 := by
  have J : i_Rel (k + 5) u v := I
  obtain ⟨lv, c, p, cs, W, fs, gs, E, q, g, hd, F, G, b, r, hc, hp, eu, ev, RC, RF, RG⟩ := I
  subst eu ev
  unfold wpX_ends wpY_ends
  refine xa_isProg lv (nI c) cs W fs gs E q hp (lb_br (fun n => ya_isProg (nI c) g hd W E F G b r hp (lb_br (fun _ => ⟨rfl, J⟩) (fun m => absurd m n))) (fun ok => xa_isState (lb_br (fun n => ya_isProg (nI c) g hd W E F G b r hp (lb_br (fun n => absurd ok n) (fun _ => ya_inK (n := 63) (by decide) rfl (lb_br (fun _ => ⟨rfl, J⟩) (fun m => absurd m n))))) (fun hs => ?_))))
  have ok' := ok
  obtain ⟨i, hi, ei⟩ := ok'
  subst ei
  have hs' := hs
  obtain ⟨s, hs2, es⟩ := hs'
  subst es
  refine And.intro (lb_in1 (n := 32) (by omega) hs2 rfl (by decide)) (xa_size (ya_isProg (nI c) g hd W E F G b r hp (lb_br (fun n => absurd ok n) (fun _ => ya_inK (n := 63) (by decide) rfl (lb_br (fun n => absurd hs n) (fun _ => And.intro (lb_in2 (n := 32) (by omega) hs2 rfl (by decide)) (yq_size (nI c) (nI p) g hd W E F G b r ⟨?_, J⟩)))))))
  rw [lb_at1 (by omega) hs2, lb_at2 (by omega) hs2]
theorem i_vc_end {k : Nat} {u : SX} {v : SY} (I : i_Rel k u v) (hk : k + 5 ≤ 2560) (v1 : Int32) (v2 : Int32) (v3 : Int32) : wpX_end (fun r => wpY_end (fun r' => r' = r ∧ i_Rel (k + 5) u v) v v1 v2 v3) u v1 v2 v3 := by
  have J : i_Rel (k + 5) u v := I
  obtain ⟨lv, c, p, cs, W, fs, gs, E, q, g, hd, F, G, b, r, hc, hp, eu, ev, RC, RF, RG⟩ := I
  subst eu ev
  unfold wpX_end wpY_end
  refine xa_isProg lv (nI c) cs W fs gs E q hp (lb_br (fun n => ya_isProg (nI c) g hd W E F G b r hp (lb_br (fun _ => ⟨rfl, J⟩) (fun m => absurd m n))) (fun ok => xa_isState (lb_br (fun n => ya_isProg (nI c) g hd W E F G b r hp (lb_br (fun n => absurd ok n) (fun _ => ya_inK (n := 63) (by decide) rfl (lb_br (fun _ => ⟨rfl, J⟩) (fun m => absurd m n))))) (fun hs => ?_))))
  have ok' := ok
  obtain ⟨i, hi, ei⟩ := ok'
  subst ei
  have hs' := hs
  obtain ⟨s, hs2, es⟩ := hs'
  subst es
  refine And.intro (lb_in1 (n := 32) (by omega) hs2 rfl (by decide)) (xa_member (ya_isProg (nI c) g hd W E F G b r hp (lb_br (fun n => absurd ok n) (fun _ => ya_inK (n := 63) (by decide) rfl (lb_br (fun n => absurd hs n) (fun _ => ⟨65, yq_end27 (nI c) (nI p) g hd W E F G b r (by omega) hs2 64 0 0 rfl ⟨?_, J⟩⟩))))))
  rw [lb_at1 (by omega) hs2]
theorem i_vc_after {k : Nat} {u : SX} {v : SY} (I : i_Rel k u v) (hk : k + 5 ≤ 2560) (v1 : Int32) (v2 : Int32) : wpX_after (fun r => wpY_after (fun r' => r' = r ∧ i_Rel (k + 5) u v) v v1 v2) u v1 v2 := by
  have J : i_Rel (k + 5) u v := I
  obtain ⟨lv, c, p, cs, W, fs, gs, E, q, g, hd, F, G, b, r, hc, hp, eu, ev, RC, RF, RG⟩ := I
  subst eu ev
  unfold wpX_after wpY_after
  refine xa_isProg lv (nI c) cs W fs gs E q hp (lb_br (fun n => ya_isProg (nI c) g hd W E F G b r hp (lb_br (fun _ => ⟨rfl, J⟩) (fun m => absurd m n))) (fun ok => xa_isCond lv (nI p) cs W fs gs E q hc (lb_br (fun n => ya_isProg (nI c) g hd W E F G b r hp (lb_br (fun n => absurd ok n) (fun _ => ya_isCond (nI p) g hd W E F G b r hc (lb_br (fun _ => ⟨rfl, J⟩) (fun m => absurd m n))))) (fun hs => ?_))))
  have ok' := ok
  obtain ⟨i, hi, ei⟩ := ok'
  subst ei
  have hs' := hs
  obtain ⟨s, hs2, es⟩ := hs'
  subst es
  have ec : (nI s).toNatClampNeg = s := lb_cl (by omega)
  refine And.intro (lb_vi (by omega) (by decide)) (xa_eF lv (nI c) (nI p) cs W fs gs E q (by omega) (fun w hw => xa_size (ya_isProg (nI c) g hd W E F G b r hp (lb_br (fun n => absurd ok n) (fun _ => ya_isCond (nI p) g hd W E F G b r hc (lb_br (fun n => absurd hs n) (fun _ => ⟨65, yq_after23 (nI c) (nI p) g hd W E F G b r (T := cs s) (by omega) (by omega) (fun t ht => RC s t (by omega) ht) (fun w' hw' => ⟨?_, J⟩) 64 0 0 rfl (lb_uni0 _ _)⟩)))))))
  rw [ec] at hw
  have e : w' = w := lb_ext (fun j hj => (hw' j hj).trans (hw j hj).symm)
  rw [e]
