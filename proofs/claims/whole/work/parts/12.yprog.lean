def yp_B (post : Int32 → SY → Prop) (k x y z : Int32) (p : Nat) (fc : Int32) (hd W : Nat → Int32) (E : Nat → Int64) (F G : Nat → Int32) (EV : Nat → Int64) (FV GV : Nat → Prop) : Prop :=
  ∀ (n i : Nat) (E' : Nat → Int64) (F' G' b r : Nat → Int32) (g : Int32), i < 64 → (∀ j, j < 64 * p → E' j = E j) → (∀ j, j < 64 * p → F' j = F j) → (∀ j, j < 64 * p → G' j = G j) → (∀ (b' r' : Nat → Int32) (g' : Int32), wY_program_122 post k x y z n (nI (i + 1)) fc (nI p) g' hd W (vp_updL E' (64 * p + i) (EV i)) (upd F' (64 * p + i) (lb_i (FV i))) (upd G' (64 * p + i) (lb_i (GV i))) b' r') → wY_program_122 post k x y z (n + 1) (nI i) fc (nI p) g hd W E' F' G' b r
section
variable (fc : Int32) (hd W : Nat → Int32) (E : Nat → Int64) (F G : Nat → Int32)
theorem yp_122 {post : Int32 → SY → Prop} {k x y z : Int32} {p : Nat} {EV : Nat → Int64} {FV GV : Nat → Prop} (B : yp_B post k x y z p fc hd W E F G EV FV GV) (H : ∀ b r g, post (nI p) (fc, nI (p + 1), g, hd, W, lb_fl E (64 * p) 64 EV, lb_fi F (64 * p) 64 (fun s => lb_i (FV s)), lb_fi G (64 * p) 64 (fun s => lb_i (GV s)), b, r)) : ∀ d i b r g, i + d = 64 → wY_program_122 post k x y z (d + 1) (nI i) fc (nI p) g hd W (lb_fl E (64 * p) i EV) (lb_fi F (64 * p) i (fun s => lb_i (FV s))) (lb_fi G (64 * p) i (fun s => lb_i (GV s))) b r := by
  intro d
  induction d with
  | zero =>
    intro i b r g hi
    have e : i = 64 := by omega
    subst e
    refine br_t lb_64x (nm_r (nI_1 p) ?_)
    rw [nI_pred]
    exact H b r g
  | succ d ih =>
    intro i b r g hi
    have hl : i < 64 := by omega
    refine B (d + 1) i _ _ _ b r g hl (fun j hj => lb_flN (Or.inl hj)) (fun j hj => lb_fiN (Or.inl hj)) (fun j hj => lb_fiN (Or.inl hj)) (fun b' r' g' => ?_)
    rw [lb_flS E (64 * p) i EV, lb_fiS F (64 * p) i (fun s => lb_i (FV s)), lb_fiS G (64 * p) i (fun s => lb_i (GV s))]
    exact ih (i + 1) b' r' g' (by omega)
theorem yp_98 {post : Int32 → SY → Prop} {k x y z w : Int32} {p : Nat} {EV : Nat → Int64} {FV GV : Nat → Prop} {b r : Nat → Int32} {g : Int32} (hp : p < 32) (hw : w ≤ 20) (B : yp_B post k x y z p fc hd (upd W p w) E F G EV FV GV) (H : ∀ b r g, post (nI p) (fc, nI (p + 1), g, hd, upd W p w, lb_fl E (64 * p) 64 EV, lb_fi F (64 * p) 64 (fun s => lb_i (FV s)), lb_fi G (64 * p) 64 (fun s => lb_i (GV s)), b, r)) : wY_program_98 post k x y z w fc (nI p) g hd W E F G b r := by
  have h := yp_122 fc hd (upd W p w) E F G B H 64 0 b r g rfl
  rw [lb_fl0, lb_fi0, lb_fi0] at h
  exact br_t hw (And.intro (lb_vi hp (by decide)) (nm_r (lb_ui (by omega)) ⟨65, h⟩))
theorem yp_pre6 {post : Int32 → SY → Prop} {k x y z g : Int32} {p i n : Nat} {b r : Nat → Int32} (hp : p < 32) (hi : i < 64) (hk : 6 ≤ k) (H : wY_program_184 post (wY_program_122 post k x y z n) k x y z (nI i) (nI (64 * p + i)) fc (nI p) g hd W (vp_updL E (64 * p + i) 0) (upd F (64 * p + i) (lb_i False)) (upd G (64 * p + i) (lb_i False)) b r) : wY_program_122 post k x y z (n + 1) (nI i) fc (nI p) g hd W E F G b r := by
  have va : vp_in (nI (64 * p + i)) 2048 := lb_vi (by omega) (by decide)
  have ea : (nI (64 * p + i)).toNatClampNeg = 64 * p + i := lb_cl (by omega)
  exact br_f (lb_64 hi) (nm_r (lb_ix2 p i) (And.intro va (nm_r (e' := vp_updL E (64 * p + i) 0) (by rw [ea]) (And.intro va (nm_r (e' := upd F (64 * p + i) (lb_i False)) (by rw [ea, lb_v0, lb_i0 id]) (And.intro va (nm_r (e' := upd G (64 * p + i) (lb_i False)) (by rw [ea, lb_v0, lb_i0 id]) (br_t hk H))))))))
theorem yp_pre0 {post : Int32 → SY → Prop} {k x y z g : Int32} {p i n : Nat} {b r : Nat → Int32} (hp : p < 32) (hi : i < 64) (hk : ¬ 6 ≤ k) (H : ∀ post' : SY → Prop, (∀ c1 c2 c3 d1 d2 d3 d4 d5 d6 d7, wY_program_184 post (wY_program_122 post k x y z n) k x y z (nI i) (nI (64 * p + i)) c1 c2 c3 d1 d2 d3 d4 d5 d6 d7 → post' (c1, c2, c3, d1, d2, d3, d4, d5, d6, d7)) → wpY_simple post' (fc, nI p, g, hd, W, vp_updL E (64 * p + i) 0, upd F (64 * p + i) (lb_i False), upd G (64 * p + i) (lb_i False), b, r) (nI (64 * p + i)) (nI i) k x y z) : wY_program_122 post k x y z (n + 1) (nI i) fc (nI p) g hd W E F G b r := by
  have va : vp_in (nI (64 * p + i)) 2048 := lb_vi (by omega) (by decide)
  have ea : (nI (64 * p + i)).toNatClampNeg = 64 * p + i := lb_cl (by omega)
  exact br_f (lb_64 hi) (nm_r (lb_ix2 p i) (And.intro va (nm_r (e' := vp_updL E (64 * p + i) 0) (by rw [ea]) (And.intro va (nm_r (e' := upd F (64 * p + i) (lb_i False)) (by rw [ea, lb_v0, lb_i0 id]) (And.intro va (nm_r (e' := upd G (64 * p + i) (lb_i False)) (by rw [ea, lb_v0, lb_i0 id]) (br_f hk (H _ (fun _ _ _ _ _ _ _ _ _ _ h => h))))))))))
end
section
variable (c1 c2 c3 : Int32) (d1 d2 : Nat → Int32) (d3 : Nat → Int64) (d4 d5 d6 d7 : Nat → Int32)
theorem yp_c9 {post : Int32 → SY → Prop} {J : Int32 → Int32 → Int32 → Int32 → (Nat → Int32) → (Nat → Int32) → (Nat → Int64) → (Nat → Int32) → (Nat → Int32) → (Nat → Int32) → (Nat → Int32) → Prop} {k x y z a : Int32} {i : Nat} (h9 : ¬ k = 9) (H : J (nI (i + 1)) c1 c2 c3 d1 d2 d3 d4 d5 d6 d7) : wY_program_275 post J k x y z (nI i) a c1 c2 c3 d1 d2 d3 d4 d5 d6 d7 := br_f h9 (nm_r (nI_1 i) H)
theorem yp_c8 {post : Int32 → SY → Prop} {J : Int32 → Int32 → Int32 → Int32 → (Nat → Int32) → (Nat → Int32) → (Nat → Int64) → (Nat → Int32) → (Nat → Int32) → (Nat → Int32) → (Nat → Int32) → Prop} {k x y z a : Int32} {i : Nat} (h8 : ¬ k = 8) (h9 : ¬ k = 9) (H : J (nI (i + 1)) c1 c2 c3 d1 d2 d3 d4 d5 d6 d7) : wY_program_243 post J k x y z (nI i) a c1 c2 c3 d1 d2 d3 d4 d5 d6 d7 := br_f h8 (br_f h9 (nm_r (nI_1 i) H))
theorem yp_c7 {post : Int32 → SY → Prop} {J : Int32 → Int32 → Int32 → Int32 → (Nat → Int32) → (Nat → Int32) → (Nat → Int64) → (Nat → Int32) → (Nat → Int32) → (Nat → Int32) → (Nat → Int32) → Prop} {k x y z a : Int32} {i : Nat} (h7 : ¬ k = 7) (h8 : ¬ k = 8) (h9 : ¬ k = 9) (H : J (nI (i + 1)) c1 c2 c3 d1 d2 d3 d4 d5 d6 d7) : wY_program_204 post J k x y z (nI i) a c1 c2 c3 d1 d2 d3 d4 d5 d6 d7 := br_f h7 (br_f h8 (br_f h9 (nm_r (nI_1 i) H)))
theorem yp_c6 {post : Int32 → SY → Prop} {J : Int32 → Int32 → Int32 → Int32 → (Nat → Int32) → (Nat → Int32) → (Nat → Int64) → (Nat → Int32) → (Nat → Int32) → (Nat → Int32) → (Nat → Int32) → Prop} {k x y z a : Int32} {i : Nat} (h6 : ¬ k = 6) (h7 : ¬ k = 7) (h8 : ¬ k = 8) (h9 : ¬ k = 9) (H : J (nI (i + 1)) c1 c2 c3 d1 d2 d3 d4 d5 d6 d7) : wY_program_184 post J k x y z (nI i) a c1 c2 c3 d1 d2 d3 d4 d5 d6 d7 := br_f h6 (br_f h7 (br_f h8 (br_f h9 (nm_r (nI_1 i) H))))
end
section
variable (fc : Int32) (hd W : Nat → Int32) (E : Nat → Int64) (F G : Nat → Int32)
theorem yp_0 {post : Int32 → SY → Prop} {x y z : Int32} {p : Nat} (hp : p < 32) : yp_B post 0 x y z p fc hd W E F G (fun s => (1 : Int64) <<< ((nI s).toInt64 &&& 63)) (fun _ => False) (fun _ => False) := by
  intro n i E' F' G' b r g hi _ _ _ H
  exact yp_pre0 fc hd W E' F' G' hp hi (by decide) (fun post' hq => yi_0 fc (nI p) g hd W E' _ _ b r (by omega) (hq _ _ _ _ _ _ _ _ _ _ (yp_c6 _ _ _ _ _ _ _ _ _ _ (by decide) (by decide) (by decide) (by decide) (H b r g))))
theorem yp_1 {post : Int32 → SY → Prop} {x y z : Int32} {p : Nat} (hp : p < 32) : yp_B post 1 x y z p fc hd W E F G (fun _ => 0) (fun _ => True) (fun _ => False) := by
  intro n i E' F' G' b r g hi _ _ _ H
  rw [lb_i1 True.intro] at H
  exact yp_pre0 fc hd W E' F' G' hp hi (by decide) (fun post' hq => yi_1 fc (nI p) g hd W _ F' _ b r (by omega) (hq _ _ _ _ _ _ _ _ _ _ (yp_c6 _ _ _ _ _ _ _ _ _ _ (by decide) (by decide) (by decide) (by decide) (H b r g))))
theorem yp_2 {post : Int32 → SY → Prop} {x y z : Int32} {p : Nat} (hp : p < 32) : yp_B post 2 x y z p fc hd W E F G (xo_set x y z) (fun _ => False) (fun _ => False) := by
  intro n i E' F' G' b r g hi _ _ _ H
  exact yp_pre0 fc hd W E' F' G' hp hi (by decide) (fun post' hq => yi_2 fc (nI p) g hd W E' _ _ b r (by omega) (hq _ _ _ _ _ _ _ _ _ _ (yp_c6 _ _ _ _ _ _ _ _ _ _ (by decide) (by decide) (by decide) (by decide) (H b r g))))
theorem yp_3 {post : Int32 → SY → Prop} {x y z : Int32} {p : Nat} (hp : p < 32) : yp_B post 3 x y z p fc hd W E F G (fun s => xo_any x s 4) (fun _ => False) (fun _ => False) := by
  intro n i E' F' G' b r g hi _ _ _ H
  exact yp_pre0 fc hd W E' F' G' hp hi (by decide) (fun post' hq => yi_3 fc (nI p) g hd W E' _ _ b r (by omega) (hq _ _ _ _ _ _ _ _ _ _ (yp_c6 _ _ _ _ _ _ _ _ _ _ (by decide) (by decide) (by decide) (by decide) (H b r g))))
theorem yp_4 {post : Int32 → SY → Prop} {y z : Int32} {p c : Nat} {T : Int64} (hp : p < 32) (hc : c < 24) (hT : ∀ t, t < 64 → hd (64 * c + t) = lb_i (lb_b T t)) : yp_B post 4 (nI c) y z p fc hd W E F G (fun s => T &&& ((1 : Int64) <<< ((nI s).toInt64 &&& 63))) (fun _ => False) (fun _ => False) := by
  intro n i E' F' G' b r g hi _ _ _ H
  exact yp_pre0 fc hd W E' F' G' hp hi (by decide) (fun post' hq => yi_4 fc (nI p) g hd W E' _ _ b r (by omega) hi hc (hT i hi) (hq _ _ _ _ _ _ _ _ _ _ (yp_c6 _ _ _ _ _ _ _ _ _ _ (by decide) (by decide) (by decide) (by decide) (H b r g))))
theorem yp_5 {post : Int32 → SY → Prop} {y z : Int32} {p c : Nat} {T : Int64} (hp : p < 32) (hc : c < 24) (hT : ∀ t, t < 64 → hd (64 * c + t) = lb_i (lb_b T t)) : yp_B post 5 (nI c) y z p fc hd W E F G (fun s => T &&& ((1 : Int64) <<< ((nI s).toInt64 &&& 63))) (fun s => ¬ lb_b T s) (fun _ => False) := by
  intro n i E' F' G' b r g hi _ _ _ H
  exact yp_pre0 fc hd W E' F' G' hp hi (by decide) (fun post' hq => yi_5 fc (nI p) g hd W E' F' _ b r (by omega) hi hc (hT i hi) rfl (hq _ _ _ _ _ _ _ _ _ _ (yp_c6 _ _ _ _ _ _ _ _ _ _ (by decide) (by decide) (by decide) (by decide) (H b r g))))
theorem yp_6 {post : Int32 → SY → Prop} {z : Int32} {p x y : Nat} {fs gs : Nat → Int64} (hp : p < 32) (hx : x < p) (hy : y < p) (RF : ∀ i s, i < 32 → s < 64 → F (64 * i + s) = lb_i (lb_b (fs i) s)) (RG : ∀ i s, i < 32 → s < 64 → G (64 * i + s) = lb_i (lb_b (gs i) s)) : yp_B post 6 (nI x) (nI y) z p fc hd W E F G (xo_then E x y) (fun s => xo_thenF E fs x y s) (fun s => xo_thenF E gs x y s) := by
  intro n i E' F' G' b r g hi hE hF hG H
  refine yp_pre6 fc hd W E' F' G' hp hi (by decide) (br_t rfl ?_)
  rw [lb_ix2]
  refine yf_follow fc (nI p) g hd W E' F' G' b r (P0 := lb_b (fs x) i) (Q0 := lb_b (gs x) i) (FF := lb_b (fs y)) (GG := lb_b (gs y)) (by omega) (by omega) (by omega) (by omega) (by rw [hF _ (by omega), RF x i (by omega) hi]) (by rw [hG _ (by omega), RG x i (by omega) hi]) (fun t ht => by rw [hF _ (by omega), RF y t (by omega) ht]) (fun t ht => by rw [hG _ (by omega), RG y t (by omega) ht]) (fun e he => yp_c7 _ _ _ _ _ _ _ _ _ _ (by decide) (by decide) (by decide) ?_)
  have e1 : e = xo_then E x y i := by
    apply lb_Se
    intro j hj
    rw [he j hj, hE _ (by omega)]
    constructor
    · intro z
      obtain ⟨t, ht, z1, z2⟩ := z
      rw [hE _ (by omega)] at z2
      exact ⟨t, ht, z1, z2⟩
    · intro z
      obtain ⟨t, ht, z1, z2⟩ := z
      refine ⟨t, ht, z1, ?_⟩
      rw [hE _ (by omega)]
      exact z2
  rw [e1, hE _ (by omega)]
  exact H b r g
theorem yp_t0 {P Q : Prop} (h : P ↔ Q) : (False ∨ P) ↔ Q := ⟨fun z => z.elim False.elim h.mp, fun z => Or.inr (h.mpr z)⟩
theorem yp_7 {post : Int32 → SY → Prop} {p c y z : Nat} {T : Int64} {fs gs : Nat → Int64} (hp : p < 32) (hc : c < 24) (hy : y < p) (hz : z < p) (hT : ∀ t, t < 64 → hd (64 * c + t) = lb_i (lb_b T t)) (RF : ∀ i s, i < 32 → s < 64 → F (64 * i + s) = lb_i (lb_b (fs i) s)) (RG : ∀ i s, i < 32 → s < 64 → G (64 * i + s) = lb_i (lb_b (gs i) s)) : yp_B post 7 (nI c) (nI y) (nI z) p fc hd W E F G (fun s => E (64 * xo_pick T y z s + s)) (fun s => lb_b (fs (xo_pick T y z s)) s) (fun s => lb_b (gs (xo_pick T y z s)) s) := by
  intro n i E' F' G' b r g hi hE hF hG H
  have k : ∀ q, q < p → xo_pick T y z i = q → wY_program_236 post (wY_program_122 post 7 (nI c) (nI y) (nI z) n) 7 (nI c) (nI y) (nI z) (nI i) (nI (64 * p + i)) (nI q) 64 (nI (64 * p + i)) fc (nI p) g hd W (vp_updL E' (64 * p + i) 0) (upd F' (64 * p + i) (lb_i False)) (upd G' (64 * p + i) (lb_i False)) b r := by
    intro q hq eq
    unfold wY_program_236
    rw [lb_ix2]
    refine yt_take fc (nI p) g hd W E' F' G' b r (P' := lb_b (fs q) i) (Q' := lb_b (gs q) i) (by omega) (by omega) (by omega) (by rw [hF _ (by omega), RF q i (by omega) hi]) (by rw [hG _ (by omega), RG q i (by omega) hi]) (yp_c8 _ _ _ _ _ _ _ _ _ _ (by decide) (by decide) ?_)
    have h := H b r g
    dsimp only at h
    rw [eq] at h
    rw [lb_or0, hE _ (by omega), lb_ic (yp_t0 (Iff.refl (lb_b (fs q) i))), lb_ic (yp_t0 (Iff.refl (lb_b (gs q) i)))]
    exact h
  refine yp_pre6 fc hd W E' F' G' hp hi (by decide) (br_f (by decide) (br_t rfl (And.intro (lb_in2 hc hi rfl (by decide)) (br_c (fun e => k z hz ?_) (fun e => k y hy ?_)))))
  · rw [lb_at2 (by omega) hi, hT i hi] at e
    exact if_neg (lb_iz.mp e)
  · rw [lb_at2 (by omega) hi, hT i hi] at e
    exact if_pos (lb_in.mp e)
theorem yp_8 {post : Int32 → SY → Prop} {z : Int32} {p x y : Nat} {fs gs : Nat → Int64} (hp : p < 32) (hx : x < p) (hy : y < p) (RF : ∀ i s, i < 32 → s < 64 → F (64 * i + s) = lb_i (lb_b (fs i) s)) (RG : ∀ i s, i < 32 → s < 64 → G (64 * i + s) = lb_i (lb_b (gs i) s)) : yp_B post 8 (nI x) (nI y) z p fc hd W E F G (fun s => E (64 * x + s) ||| E (64 * y + s)) (fun s => lb_b (fs x) s ∨ lb_b (fs y) s) (fun s => lb_b (gs x) s ∨ lb_b (gs y) s) := by
  intro n i E' F' G' b r g hi hE hF hG H
  refine yp_pre6 fc hd W E' F' G' hp hi (by decide) (br_f (by decide) (br_f (by decide) (br_t rfl ?_)))
  rw [lb_ix2, lb_ix2]
  refine yt_take fc (nI p) g hd W E' F' G' b r (P' := lb_b (fs x) i) (Q' := lb_b (gs x) i) (by omega) (by omega) (by omega) (by rw [hF _ (by omega), RF x i (by omega) hi]) (by rw [hG _ (by omega), RG x i (by omega) hi]) ?_
  refine yt_take fc (nI p) g hd W E' F' G' b r (P' := lb_b (fs y) i) (Q' := lb_b (gs y) i) (by omega) (by omega) (by omega) (by rw [hF _ (by omega), RF y i (by omega) hi]) (by rw [hG _ (by omega), RG y i (by omega) hi]) (yp_c9 _ _ _ _ _ _ _ _ _ _ (by decide) ?_)
  rw [lb_or0, hE _ (by omega), hE _ (by omega), propext (yp_t0 (Iff.refl (lb_b (fs x) i))), propext (yp_t0 (Iff.refl (lb_b (gs x) i)))]
  exact H b r g
theorem yp_9 {post : Int32 → SY → Prop} {z : Int32} {p c y : Nat} {T : Int64} {fs gs : Nat → Int64} (hp : p < 32) (hc : c < 24) (hy : y < p) (hT : ∀ t, t < 64 → hd (64 * c + t) = lb_i (lb_b T t)) (RF : ∀ i s, i < 32 → s < 64 → F (64 * i + s) = lb_i (lb_b (fs i) s)) (RG : ∀ i s, i < 32 → s < 64 → G (64 * i + s) = lb_i (lb_b (gs i) s)) : yp_B post 9 (nI c) (nI y) z p fc hd W E F G (sp_WE E T y) (fun s => sp_WF E T (fs y) y s) (fun s => sp_WG E T (gs y) y s) := by
  intro n i E' F' G' b r g hi hE hF hG H
  have ec : sp_e E' T y = sp_e E T y := sp_ec (fun t ht => hE _ (by omega))
  have a1 : sp_WE E' T y i = sp_WE E T y i := by unfold sp_WE; rw [ec]
  have a2 : sp_WF E' T (fs y) y i = sp_WF E T (fs y) y i := by unfold sp_WF; rw [ec]
  have a3 : sp_WG E' T (gs y) y i = sp_WG E T (gs y) y i := by unfold sp_WG; rw [ec]
  refine yp_pre6 fc hd W E' F' G' hp hi (by decide) (br_f (by decide) (br_f (by decide) (br_f (by decide) (br_t rfl ?_))))
  refine yl_loop fc (nI p) g hd W E' F' G' b r (T := T) (f := fs y) (g := gs y) (by omega) hc (by omega) hi (by omega) hT (fun t ht => by rw [hF _ (by omega), RF y t (by omega) ht]) (fun t ht => by rw [hG _ (by omega), RG y t (by omega) ht]) rfl rfl (fun b' r' g' => nm_r (nI_1 i) ?_)
  rw [a1, a2, a3]
  exact H b' r' g'
end
