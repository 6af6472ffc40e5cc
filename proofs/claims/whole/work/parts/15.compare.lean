def rf_S (E fs gs : Nat → Int64) (p q s : Nat) : Prop := (¬ lb_b (fs p) s ∧ ¬ lb_b (gs p) s) → (¬ lb_b (fs q) s ∧ ¬ lb_b (gs q) s ∧ E (64 * q + s) &&& (E (64 * p + s) ^^^ (-1)) = 0)
def rf_E (E fs gs : Nat → Int64) (p q s : Nat) : Prop := E (64 * p + s) = E (64 * q + s) ∧ (lb_b (fs p) s ↔ lb_b (fs q) s) ∧ (lb_b (gs p) s ↔ lb_b (gs q) s)
section
variable (lv ct pt : Int32) (cs : Nat → Int64) (W : Nat → Int32) (fs gs E qq : Nat → Int64)
theorem rf_x61 {post : Int32 → Prop} {p q : Nat} {w : Int64} (hp : p < 32) (hq : q < 32) (hw : ∀ s, s < 64 → (lb_b w s ↔ (¬ lb_b (fs p) s ∧ ¬ lb_b (gs p) s))) (h0 : ∀ s, s < 64 → lb_b w s → (¬ lb_b (fs q) s ∧ ¬ lb_b (gs q) s)) (h : post (lb_i (∀ s, s < 64 → rf_S E fs gs p q s))) : ∀ d i, i + d = 64 → (∀ s, s < i → rf_S E fs gs p q s) → wX_refines_61 post (nI p) (nI q) w lv ct pt cs W fs gs E qq (d + 1) (nI i) := by
  intro d
  induction d with
  | zero =>
    intro i hi g
    have e : i = 64 := by omega
    subst e
    exact br_t lb_64x (lb_p1 h g)
  | succ d ih =>
    intro i hi g
    have hl : i < 64 := by omega
    refine br_f (lb_64 hl) (And.intro (lb_in1 hq hl rfl (by decide)) (And.intro (lb_in1 hp hl rfl (by decide)) (nm_r (e' := E (64 * q + i) &&& (E (64 * p + i) ^^^ (-1))) (by rw [lb_at1 (by omega) hl, lb_at1 (by omega) hl]) (xa_contains hl (lb_br (fun n => nm_r (nI_1 i) (ih (i + 1) (by omega) (lt_s g ?_))) (fun m => br_c (fun z => nm_r (nI_1 i) (ih (i + 1) (by omega) (lt_s g ?_))) (fun z => lb_p0 h (fun c => z ?_))))))))
    · exact fun c => absurd ((hw i hl).mpr c) n
    · exact fun _ => ⟨(h0 i hl m).1, (h0 i hl m).2, z⟩
    · exact (c i hl ((hw i hl).mp m)).2.2
theorem rf_x54 {post : Int32 → Prop} {p q : Nat} (hp : p < 32) (hq : q < 32) (h0 : ∀ s, s < 64 → ((lb_b (fs p) s ↔ lb_b (fs q) s) ∧ (lb_b (gs p) s ↔ lb_b (gs q) s))) (h : post (lb_i (∀ s, s < 64 → rf_E E fs gs p q s))) : ∀ d i, i + d = 64 → (∀ s, s < i → rf_E E fs gs p q s) → wX_same_54 post (nI p) (nI q) lv ct pt cs W fs gs E qq (d + 1) (nI i) := by
  intro d
  induction d with
  | zero =>
    intro i hi g
    have e : i = 64 := by omega
    subst e
    exact br_t lb_64x (lb_p1 h g)
  | succ d ih =>
    intro i hi g
    have hl : i < 64 := by omega
    refine br_f (lb_64 hl) (And.intro (lb_in1 hp hl rfl (by decide)) (And.intro (lb_in1 hq hl rfl (by decide)) (br_c (fun z => nm_r (nI_1 i) (ih (i + 1) (by omega) (lt_s g ?_))) (fun z => lb_p0 h (fun c => z ?_)))))
    · rw [lb_at1 (by omega) hl, lb_at1 (by omega) hl] at z
      exact ⟨z, h0 i hl⟩
    · rw [lb_at1 (by omega) hl, lb_at1 (by omega) hl]
      exact (c i hl).1
end
section
variable (fc fp fg : Int32) (hd W : Nat → Int32) (E : Nat → Int64) (F G b r : Nat → Int32)
theorem rf_y20 {post : Int32 → Prop} {fs gs : Nat → Int64} {p q : Nat} (hp : p < 32) (hq : q < 32) (RF : ∀ i s, i < 32 → s < 64 → F (64 * i + s) = lb_i (lb_b (fs i) s)) (RG : ∀ i s, i < 32 → s < 64 → G (64 * i + s) = lb_i (lb_b (gs i) s)) (h : post (lb_i (∀ s, s < 64 → rf_S E fs gs p q s))) : ∀ d i, i + d = 64 → (∀ s, s < i → rf_S E fs gs p q s) → wY_refines_20 post (nI p) (nI q) fc fp fg hd W E F G b r (d + 1) (nI i) := by
  intro d
  induction d with
  | zero =>
    intro i hi g
    have e : i = 64 := by omega
    subst e
    exact br_t lb_64x (lb_p1 h g)
  | succ d ih =>
    intro i hi g
    have hl : i < 64 := by omega
    have va : vp_in (nI (64 * p + i)) 2048 := lb_vi (by omega) (by decide)
    have vb : vp_in (nI (64 * q + i)) 2048 := lb_vi (by omega) (by decide)
    have ea : (nI (64 * p + i)).toNatClampNeg = 64 * p + i := lb_cl (by omega)
    have eb : (nI (64 * q + i)).toNatClampNeg = 64 * q + i := lb_cl (by omega)
    have f1 : F (nI (64 * p + i)).toNatClampNeg = lb_i (lb_b (fs p) i) := by rw [ea, RF p i hp hl]
    have g1 : G (nI (64 * p + i)).toNatClampNeg = lb_i (lb_b (gs p) i) := by rw [ea, RG p i hp hl]
    have f2 : F (nI (64 * q + i)).toNatClampNeg = lb_i (lb_b (fs q) i) := by rw [eb, RF q i hq hl]
    have g2 : G (nI (64 * q + i)).toNatClampNeg = lb_i (lb_b (gs q) i) := by rw [eb, RG q i hq hl]
    refine br_f (lb_64 hl) (nm_r (lb_ix2 p i) (nm_r (lb_ix2 q i) (And.intro va (lb_brE f1 (fun n1 => And.intro va (lb_brE g1 (fun n2 => br_f (by decide) (And.intro vb (lb_brE f2 (fun n3 => And.intro vb (lb_brE g2 (fun n4 => And.intro vb (And.intro va (br_c (fun z => nm_r (nI_1 i) (ih (i + 1) (by omega) (lt_s g ?_))) (fun z => lb_p0 h (fun c => z ?_))))) (fun m => lb_p0 h (fun c => (c i hl ⟨n1, n2⟩).2.1 m)))) (fun m => lb_p0 h (fun c => (c i hl ⟨n1, n2⟩).1 m))))) (fun m => br_t rfl (nm_r (nI_1 i) (ih (i + 1) (by omega) (lt_s g (fun c => absurd m c.2))))))) (fun m => br_t rfl (nm_r (nI_1 i) (ih (i + 1) (by omega) (lt_s g (fun c => absurd m c.1)))))))))
    · rw [ea, eb] at z
      exact fun _ => ⟨n3, n4, z⟩
    · rw [ea, eb]
      exact (c i hl ⟨n1, n2⟩).2.2
theorem rf_ys20 {post : Int32 → Prop} {fs gs : Nat → Int64} {p q : Nat} (hp : p < 32) (hq : q < 32) (RF : ∀ i s, i < 32 → s < 64 → F (64 * i + s) = lb_i (lb_b (fs i) s)) (RG : ∀ i s, i < 32 → s < 64 → G (64 * i + s) = lb_i (lb_b (gs i) s)) (h : post (lb_i (∀ s, s < 64 → rf_E E fs gs p q s))) : ∀ d i, i + d = 64 → (∀ s, s < i → rf_E E fs gs p q s) → wY_same_20 post (nI p) (nI q) fc fp fg hd W E F G b r (d + 1) (nI i) := by
  intro d
  induction d with
  | zero =>
    intro i hi g
    have e : i = 64 := by omega
    subst e
    exact br_t lb_64x (lb_p1 h g)
  | succ d ih =>
    intro i hi g
    have hl : i < 64 := by omega
    have va : vp_in (nI (64 * p + i)) 2048 := lb_vi (by omega) (by decide)
    have vb : vp_in (nI (64 * q + i)) 2048 := lb_vi (by omega) (by decide)
    have ea : (nI (64 * p + i)).toNatClampNeg = 64 * p + i := lb_cl (by omega)
    have eb : (nI (64 * q + i)).toNatClampNeg = 64 * q + i := lb_cl (by omega)
    refine br_f (lb_64 hl) (nm_r (lb_ix2 p i) (nm_r (lb_ix2 q i) (And.intro va (And.intro vb (br_c (fun z1 => And.intro va (And.intro vb (br_c (fun z2 => And.intro va (And.intro vb (br_c (fun z3 => nm_r (nI_1 i) (ih (i + 1) (by omega) (lt_s g ?_))) (fun z3 => lb_p0 h (fun c => z3 ?_))))) (fun z2 => lb_p0 h (fun c => z2 ?_))))) (fun z1 => lb_p0 h (fun c => z1 ?_)))))))
    · rw [ea, eb] at z1 z2 z3
      rw [RF p i hp hl, RF q i hq hl, lb_ie] at z2
      rw [RG p i hp hl, RG q i hq hl, lb_ie] at z3
      exact ⟨z1, z2, z3⟩
    · rw [ea, eb, RG p i hp hl, RG q i hq hl, lb_ie]
      exact (c i hl).2.2
    · rw [ea, eb, RF p i hp hl, RF q i hq hl, lb_ie]
      exact (c i hl).2.1
    · rw [ea, eb]
      exact (c i hl).1
end
theorem i_vc_refines {k : Nat} {u : SX} {v : SY} (I : i_Rel k u v) (hk : k + 5 ≤ 2560) (v1 : Int32) (v2 : Int32) : wpX_refines (fun r => wpY_refines (fun r' => r' = r ∧ i_Rel (k + 5) u v) v v1 v2) u v1 v2 := by
  have J : i_Rel (k + 5) u v := I
  obtain ⟨lv, c, p, cs, W, fs, gs, E, q, g, hd, F, G, b, r, hc, hp, eu, ev, RC, RF, RG⟩ := I
  subst eu ev
  unfold wpX_refines wpY_refines
  refine xa_isProg lv (nI c) cs W fs gs E q hp (lb_br (fun n => ya_isProg (nI c) g hd W E F G b r hp (lb_br (fun _ => ⟨rfl, J⟩) (fun m => absurd m n))) (fun ok => xa_isProg lv (nI c) cs W fs gs E q hp (lb_br (fun n => ya_isProg (nI c) g hd W E F G b r hp (lb_br (fun n => absurd ok n) (fun _ => ya_isProg (nI c) g hd W E F G b r hp (lb_br (fun _ => ⟨rfl, J⟩) (fun m => absurd m n))))) (fun hs => ?_))))
  have ok' := ok
  obtain ⟨i, hi, ei⟩ := ok'
  subst ei
  have hs' := hs
  obtain ⟨j, hj, ej⟩ := hs'
  subst ej
  have ei : (nI i).toNatClampNeg = i := lb_cl (by omega)
  have ej : (nI j).toNatClampNeg = j := lb_cl (by omega)
  have vi : vp_in (nI i) 32 := lb_vi (by omega) (by decide)
  have vj : vp_in (nI j) 32 := lb_vi (by omega) (by decide)
  have hw : ∀ s, s < 64 → (lb_b ((fs i ||| gs i) ^^^ (-1)) s ↔ (¬ lb_b (fs i) s ∧ ¬ lb_b (gs i) s)) := by
    intro s hs
    rw [lb_not _ hs, lb_or]
    exact ⟨fun z => ⟨fun a => z (Or.inl a), fun a => z (Or.inr a)⟩, fun z y => y.elim z.1 z.2⟩
  have key : ∀ ans : Int32, ans = lb_i (∀ s, s < 64 → rf_S E fs gs i j s) → wpY_isProgram (fun r_1 => (((r_1 = 0 → ((0 : Int32) = ans ∧ i_Rel (k + 5) (lv, nI c, nI p, cs, W, fs, gs, E, q) (nI c, nI p, g, hd, W, E, F, G, b, r))) ∧ (¬ r_1 = 0 → (wpY_isProgram (fun r_13 => (((r_13 = 0 → ((0 : Int32) = ans ∧ i_Rel (k + 5) (lv, nI c, nI p, cs, W, fs, gs, E, q) (nI c, nI p, g, hd, W, E, F, G, b, r))) ∧ (¬ r_13 = 0 → (∃ n20 : Nat, wY_refines_20 (fun r' => r' = ans ∧ i_Rel (k + 5) (lv, nI c, nI p, cs, W, fs, gs, E, q) (nI c, nI p, g, hd, W, E, F, G, b, r)) (nI i) (nI j) (nI c) (nI p) g hd W E F G b r n20 0))))) (nI c, nI p, g, hd, W, E, F, G, b, r) (nI j)))))) (nI c, nI p, g, hd, W, E, F, G, b, r) (nI i) := by
    intro ans ha
    exact ya_isProg (nI c) g hd W E F G b r hp (lb_br (fun n => absurd ok n) (fun _ => ya_isProg (nI c) g hd W E F G b r hp (lb_br (fun n => absurd hs n) (fun _ => ⟨65, rf_y20 (nI c) (nI p) g hd W E F G b r (by omega) (by omega) RF RG ⟨ha.symm, J⟩ 64 0 rfl (fun s hs => by omega)⟩))))
  refine And.intro vi (And.intro vi (nm_r (e' := (fs i ||| gs i) ^^^ (-1)) (by rw [ei]) (And.intro vj (And.intro vj (br_c (fun z => ⟨65, rf_x61 lv (nI c) (nI p) cs W fs gs E q (by omega) (by omega) hw ?_ (key _ rfl) 64 0 rfl (fun s hs => by omega)⟩) (fun z => key 0 (lb_i0 (fun y => ?_)).symm))))))
  · rw [ej, lb_z] at z
    intro s hs2 hb
    refine ⟨fun a => z ⟨s, hs2, ?_⟩, fun a => z ⟨s, hs2, ?_⟩⟩
    · rw [lb_and, lb_or]
      exact ⟨hb, Or.inl a⟩
    · rw [lb_and, lb_or]
      exact ⟨hb, Or.inr a⟩
  · rw [ej, lb_nz] at z
    obtain ⟨s, hs2, z⟩ := z
    rw [lb_and, lb_or, hw s hs2] at z
    have h := y s hs2 z.1
    exact z.2.elim h.1 h.2.1
theorem i_vc_same {k : Nat} {u : SX} {v : SY} (I : i_Rel k u v) (hk : k + 5 ≤ 2560) (v1 : Int32) (v2 : Int32) : wpX_same (fun r => wpY_same (fun r' => r' = r ∧ i_Rel (k + 5) u v) v v1 v2) u v1 v2 := by
  have J : i_Rel (k + 5) u v := I
  obtain ⟨lv, c, p, cs, W, fs, gs, E, q, g, hd, F, G, b, r, hc, hp, eu, ev, RC, RF, RG⟩ := I
  subst eu ev
  unfold wpX_same wpY_same
  refine xa_isProg lv (nI c) cs W fs gs E q hp (lb_br (fun n => ya_isProg (nI c) g hd W E F G b r hp (lb_br (fun _ => ⟨rfl, J⟩) (fun m => absurd m n))) (fun ok => xa_isProg lv (nI c) cs W fs gs E q hp (lb_br (fun n => ya_isProg (nI c) g hd W E F G b r hp (lb_br (fun n => absurd ok n) (fun _ => ya_isProg (nI c) g hd W E F G b r hp (lb_br (fun _ => ⟨rfl, J⟩) (fun m => absurd m n))))) (fun hs => ?_))))
  have ok' := ok
  obtain ⟨i, hi, ei⟩ := ok'
  subst ei
  have hs' := hs
  obtain ⟨j, hj, ej⟩ := hs'
  subst ej
  have ei : (nI i).toNatClampNeg = i := lb_cl (by omega)
  have ej : (nI j).toNatClampNeg = j := lb_cl (by omega)
  have vi : vp_in (nI i) 32 := lb_vi (by omega) (by decide)
  have vj : vp_in (nI j) 32 := lb_vi (by omega) (by decide)
  have key : ∀ ans : Int32, ans = lb_i (∀ s, s < 64 → rf_E E fs gs i j s) → wpY_isProgram (fun r_1 => (((r_1 = 0 → ((0 : Int32) = ans ∧ i_Rel (k + 5) (lv, nI c, nI p, cs, W, fs, gs, E, q) (nI c, nI p, g, hd, W, E, F, G, b, r))) ∧ (¬ r_1 = 0 → (wpY_isProgram (fun r_13 => (((r_13 = 0 → ((0 : Int32) = ans ∧ i_Rel (k + 5) (lv, nI c, nI p, cs, W, fs, gs, E, q) (nI c, nI p, g, hd, W, E, F, G, b, r))) ∧ (¬ r_13 = 0 → (∃ n20 : Nat, wY_same_20 (fun r' => r' = ans ∧ i_Rel (k + 5) (lv, nI c, nI p, cs, W, fs, gs, E, q) (nI c, nI p, g, hd, W, E, F, G, b, r)) (nI i) (nI j) (nI c) (nI p) g hd W E F G b r n20 0))))) (nI c, nI p, g, hd, W, E, F, G, b, r) (nI j)))))) (nI c, nI p, g, hd, W, E, F, G, b, r) (nI i) := by
    intro ans ha
    exact ya_isProg (nI c) g hd W E F G b r hp (lb_br (fun n => absurd ok n) (fun _ => ya_isProg (nI c) g hd W E F G b r hp (lb_br (fun n => absurd hs n) (fun _ => ⟨65, rf_ys20 (nI c) (nI p) g hd W E F G b r (by omega) (by omega) RF RG ⟨ha.symm, J⟩ 64 0 rfl (fun s hs => by omega)⟩))))
  refine And.intro vi (And.intro vj (br_c (fun z1 => And.intro vi (And.intro vj (br_c (fun z2 => ⟨65, rf_x54 lv (nI c) (nI p) cs W fs gs E q (by omega) (by omega) ?_ (key _ rfl) 64 0 rfl (fun s hs => by omega)⟩) (fun z2 => key 0 (lb_i0 (fun y => z2 ?_)).symm)))) (fun z1 => key 0 (lb_i0 (fun y => z1 ?_)).symm)))
  · rw [ei, ej] at z1 z2
    intro s hs2
    rw [z1, z2]
    exact ⟨Iff.rfl, Iff.rfl⟩
  · rw [ei, ej]
    exact lb_ext (fun s hs2 => (y s hs2).2.2)
  · rw [ei, ej]
    exact lb_ext (fun s hs2 => (y s hs2).2.1)
