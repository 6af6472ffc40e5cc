theorem xo_put {E : Nat → Int64} {V : Nat → Int64} {p i : Nat} (hp : p < 32) (hi : i < 64) {w : Int64} (hw : w = V i) : vp_updL (lb_fl E (64 * p) i V) ((nI p * 64) + nI i).toNatClampNeg w = lb_fl E (64 * p) (i + 1) V := by
  rw [lb_at1 (by omega) hi, hw]
  exact lb_flS E (64 * p) i V
theorem xo_get {E : Nat → Int64} {V : Nat → Int64} {p i x s : Nat} (hx : x < p) (hs : s < 64) : lb_fl E (64 * p) i V (64 * x + s) = E (64 * x + s) := lb_flN (by omega)
def xo_set (x y z : Int32) (s : Nat) : Int64 := (1 : Int64) <<< ((lb_wv (nI s) x (((if y = 3 then 0 else lb_va y (nI s)) + z) &&& 3)).toInt64 &&& 63)
def xo_any (x : Int32) (s : Nat) : Nat → Int64
  | 0 => 0
  | v + 1 => xo_any x s v ||| ((1 : Int64) <<< ((lb_wv (nI s) x (nI v)).toInt64 &&& 63))
noncomputable def xo_pick (T : Int64) (y z s : Nat) : Nat := @ite Nat (lb_b T s) (Classical.propDecidable _) y z
section
variable (lv ct pt : Int32) (cs : Nat → Int64) (W : Nat → Int32) (fs gs E q : Nat → Int64)
theorem xo_stay3 {post : SX → Prop} {p : Nat} {st fl : Int64} (hp : p < 32) (H : post (lv, ct, pt, cs, W, vp_updL fs p fl, vp_updL gs p 0, lb_fl E (64 * p) 64 (fun s => st &&& ((1 : Int64) <<< ((nI s).toInt64 &&& 63))), q)) : ∀ d i, i + d = 64 → wX_workOutStay_3 post (nI p) st fl lv ct pt (d + 1) (nI i) cs W fs gs (lb_fl E (64 * p) i (fun s => st &&& ((1 : Int64) <<< ((nI s).toInt64 &&& 63)))) q := by
  intro d
  induction d with
  | zero =>
    intro i hi
    have e : i = 64 := by omega
    subst e
    exact br_t lb_64x (And.intro (lb_vi hp (by decide)) (nm_r (lb_uL (by omega)) (And.intro (lb_vi hp (by decide)) (nm_r (lb_uL (by omega)) H))))
  | succ d ih =>
    intro i hi
    have hl : i < 64 := by omega
    exact br_f (lb_64 hl) (And.intro (lb_in1 hp hl rfl (by decide)) (nm_r (xo_put hp hl rfl) (nm_r (nI_1 i) (ih (i + 1) (by omega)))))
theorem xo_stay {post : SX → Prop} {p : Nat} {st fl : Int64} (hp : p < 32) (H : post (lv, ct, pt, cs, W, vp_updL fs p fl, vp_updL gs p 0, lb_fl E (64 * p) 64 (fun s => st &&& ((1 : Int64) <<< ((nI s).toInt64 &&& 63))), q)) : wpX_workOutStay post (lv, ct, pt, cs, W, fs, gs, E, q) (nI p) st fl := by
  have h := xo_stay3 lv ct pt cs W fs gs E q hp H 64 0 rfl
  rw [lb_fl0] at h
  exact ⟨65, h⟩
theorem xo_set3 {post : SX → Prop} {p : Nat} {x y z : Int32} (hp : p < 32) (hy : lb_x 4 y) (H : post (lv, ct, pt, cs, W, vp_updL fs p 0, vp_updL gs p 0, lb_fl E (64 * p) 64 (xo_set x y z), q)) : ∀ d i, i + d = 64 → wX_workOutSet_3 post (nI p) x y z lv ct pt (d + 1) (nI i) cs W fs gs (lb_fl E (64 * p) i (xo_set x y z)) q := by
  intro d
  induction d with
  | zero =>
    intro i hi
    have e : i = 64 := by omega
    subst e
    exact br_t lb_64x (And.intro (lb_vi hp (by decide)) (nm_r (lb_uL (by omega)) (And.intro (lb_vi hp (by decide)) (nm_r (lb_uL (by omega)) H))))
  | succ d ih =>
    intro i hi
    have hl : i < 64 := by omega
    refine br_f (lb_64 hl) (xa_isVariable (lb_br (fun n => ?_) (fun n => ?_)))
    · have e3 : y = 3 := by
        obtain ⟨j, hj, e⟩ := hy
        subst e
        have : j = 3 := Classical.byContradiction (fun c => n ⟨j, by omega, rfl⟩)
        subst this
        rfl
      refine And.intro (lb_in1 hp hl rfl (by decide)) (nm_r (xo_put hp hl ?_) (nm_r (nI_1 i) (ih (i + 1) (by omega))))
      show _ = xo_set x y z i
      unfold xo_set
      rw [if_pos e3]
      rfl
    · have e3 : ¬ y = 3 := by
        intro c
        obtain ⟨j, hj, e⟩ := n
        rw [e] at c
        have c : nI j = nI 3 := c
        rw [nI_eq (by omega) (by omega)] at c
        omega
      refine And.intro (lb_in1 hp hl rfl (by decide)) (nm_r (xo_put hp hl ?_) (nm_r (nI_1 i) (ih (i + 1) (by omega))))
      show _ = xo_set x y z i
      unfold xo_set
      rw [if_neg e3]
      rfl
theorem xo_sett {post : SX → Prop} {p : Nat} {x y z : Int32} (hp : p < 32) (hy : lb_x 4 y) (H : post (lv, ct, pt, cs, W, vp_updL fs p 0, vp_updL gs p 0, lb_fl E (64 * p) 64 (xo_set x y z), q)) : wpX_workOutSet post (lv, ct, pt, cs, W, fs, gs, E, q) (nI p) x y z := by
  have h := xo_set3 lv ct pt cs W fs gs E q hp hy H 64 0 rfl
  rw [lb_fl0] at h
  exact ⟨65, h⟩
theorem xo_any14 {post : SX → Prop} {J : Int32 → (Nat → Int64) → (Nat → Int32) → (Nat → Int64) → (Nat → Int64) → (Nat → Int64) → (Nat → Int64) → Prop} {p s : Nat} {x : Int32} (hp : p < 32) (hs : s < 64) (H : J (nI (s + 1)) cs W fs gs (vp_updL E (64 * p + s) (xo_any x s 4)) q) : ∀ d v, v + d = 4 → wX_workOutAny_14 post J (nI p) x (nI s) lv ct pt cs W fs gs E q (d + 1) (xo_any x s v) (nI v) := by
  intro d
  induction d with
  | zero =>
    intro v hv
    have e : v = 4 := by omega
    subst e
    refine br_t lb_4x (And.intro (lb_in1 hp hs rfl (by decide)) (nm_r (e' := vp_updL E (64 * p + s) (xo_any x s 4)) ?_ (nm_r (nI_1 s) H)))
    rw [lb_at1 (by omega) hs]
  | succ d ih =>
    intro v hv
    exact br_f (lb_4 (by omega)) (nm_e (nm_r (nI_1 v) (ih (v + 1) (by omega))))
theorem xo_any2 {post : SX → Prop} {p : Nat} {x : Int32} (hp : p < 32) (H : post (lv, ct, pt, cs, W, vp_updL fs p 0, vp_updL gs p 0, lb_fl E (64 * p) 64 (fun s => xo_any x s 4), q)) : ∀ d i, i + d = 64 → wX_workOutAny_2 post (nI p) x lv ct pt (d + 1) (nI i) cs W fs gs (lb_fl E (64 * p) i (fun s => xo_any x s 4)) q := by
  intro d
  induction d with
  | zero =>
    intro i hi
    have e : i = 64 := by omega
    subst e
    exact br_t lb_64x (And.intro (lb_vi hp (by decide)) (nm_r (lb_uL (by omega)) (And.intro (lb_vi hp (by decide)) (nm_r (lb_uL (by omega)) H))))
  | succ d ih =>
    intro i hi
    have hl : i < 64 := by omega
    refine br_f (lb_64 hl) ⟨5, xo_any14 lv ct pt cs W fs gs _ q hp hl ?_ 4 0 rfl⟩
    have e : vp_updL (lb_fl E (64 * p) i (fun s => xo_any x s 4)) (64 * p + i) (xo_any x i 4) = lb_fl E (64 * p) (i + 1) (fun s => xo_any x s 4) := lb_flS E (64 * p) i (fun s => xo_any x s 4)
    rw [e]
    exact ih (i + 1) (by omega)
theorem xo_anyt {post : SX → Prop} {p : Nat} {x : Int32} (hp : p < 32) (H : post (lv, ct, pt, cs, W, vp_updL fs p 0, vp_updL gs p 0, lb_fl E (64 * p) 64 (fun s => xo_any x s 4), q)) : wpX_workOutAny post (lv, ct, pt, cs, W, fs, gs, E, q) (nI p) x := by
  have h := xo_any2 lv ct pt cs W fs gs E q hp H 64 0 rfl
  rw [lb_fl0] at h
  exact ⟨65, h⟩
end
/-! ===== one after the other ===== -/
noncomputable def xo_then (E : Nat → Int64) (x y s : Nat) : Int64 := lb_S (fun u => ∃ t, t < 64 ∧ lb_b (E (64 * x + s)) t ∧ lb_b (E (64 * y + t)) u)
def xo_thenF (E f : Nat → Int64) (x y s : Nat) : Prop := lb_b (f x) s ∨ ∃ t, t < 64 ∧ lb_b (E (64 * x + s)) t ∧ lb_b (f y) t
theorem xo_thenw {E E' f : Nat → Int64} {x y : Nat} {w : Int64} (hE : ∀ s, s < 64 → E' (64 * x + s) = E (64 * x + s)) (h : ∀ j, j < 64 → (lb_b w j ↔ ¬ E' (64 * x + j) &&& f y = 0)) : ∀ s, s < 64 → (lb_b (f x ||| w) s ↔ xo_thenF E f x y s) := by
  intro s hs
  unfold xo_thenF
  rw [lb_or, h s hs, sp_meP, hE s hs]
section
variable (lv ct pt : Int32) (cs : Nat → Int64) (W : Nat → Int32) (fs gs E q : Nat → Int64)
theorem xo_then3 {post : SX → Prop} {p x y : Nat} (hp : p < 32) (hx : x < p) (hy : y < p) (H : ∀ wf wg, (∀ s, s < 64 → (lb_b wf s ↔ xo_thenF E fs x y s)) → (∀ s, s < 64 → (lb_b wg s ↔ xo_thenF E gs x y s)) → post (lv, ct, pt, cs, W, vp_updL fs p wf, vp_updL gs p wg, lb_fl E (64 * p) 64 (xo_then E x y), q)) : ∀ d i, i + d = 64 → wX_workOutThen_3 post (nI p) (nI x) (nI y) lv ct pt (d + 1) (nI i) cs W fs gs (lb_fl E (64 * p) i (xo_then E x y)) q := by
  intro d
  have hx32 : x < 32 := by omega
  have hy32 : y < 32 := by omega
  have vp : vp_in (nI p) 32 := lb_vi hp (by decide)
  have vx : vp_in (nI x) 32 := lb_vi hx32 (by decide)
  have vy : vp_in (nI y) 32 := lb_vi hy32 (by decide)
  have ex : (nI x).toNatClampNeg = x := lb_cl (by omega)
  have ey : (nI y).toNatClampNeg = y := lb_cl (by omega)
  have ep : (nI p).toNatClampNeg = p := lb_cl (by omega)
  induction d with
  | zero =>
    intro i hi
    have e : i = 64 := by omega
    subst e
    refine br_t lb_64x (And.intro vx (And.intro vy (xa_mE lv ct pt cs W fs gs _ q hx32 (fun w1 h1 => And.intro vp (nm_e (And.intro vx (And.intro vy (xa_mE lv ct pt cs W _ gs _ q hx32 (fun w2 h2 => And.intro vp (nm_e ?_))))))))))
    rw [ex, ep]
    rw [ey] at h1 h2
    exact H _ _ (xo_thenw (fun s hs => xo_get hx hs) h1) (xo_thenw (fun s hs => xo_get hx hs) h2)
  | succ d ih =>
    intro i hi
    have hl : i < 64 := by omega
    refine br_f (lb_64 hl) (And.intro (lb_in1 hx32 hl rfl (by decide)) (xa_eF lv ct pt cs W fs gs _ q hy32 (fun w hw => And.intro (lb_in1 hp hl rfl (by decide)) (nm_r (xo_put hp hl ?_) (nm_r (nI_1 i) (ih (i + 1) (by omega)))))))
    apply lb_Se
    intro j hj
    rw [hw j hj, lb_at1 (by omega) hl, xo_get hx hl]
    constructor
    · intro z
      obtain ⟨t, ht, z1, z2⟩ := z
      rw [xo_get hy ht] at z2
      exact ⟨t, ht, z1, z2⟩
    · intro z
      obtain ⟨t, ht, z1, z2⟩ := z
      refine ⟨t, ht, z1, ?_⟩
      rw [xo_get hy ht]
      exact z2
theorem xo_thent {post : SX → Prop} {p x y : Nat} (hp : p < 32) (hx : x < p) (hy : y < p) (H : ∀ wf wg, (∀ s, s < 64 → (lb_b wf s ↔ xo_thenF E fs x y s)) → (∀ s, s < 64 → (lb_b wg s ↔ xo_thenF E gs x y s)) → post (lv, ct, pt, cs, W, vp_updL fs p wf, vp_updL gs p wg, lb_fl E (64 * p) 64 (xo_then E x y), q)) : wpX_workOutThen post (lv, ct, pt, cs, W, fs, gs, E, q) (nI p) (nI x) (nI y) := by
  have h := xo_then3 lv ct pt cs W fs gs E q hp hx hy H 64 0 rfl
  rw [lb_fl0] at h
  exact ⟨65, h⟩
theorem xo_if3 {post : SX → Prop} {p y z : Nat} {T : Int64} (hp : p < 32) (hy : y < p) (hz : z < p) (H : post (lv, ct, pt, cs, W, vp_updL fs p ((fs y &&& T) ||| (fs z &&& (T ^^^ (-1)))), vp_updL gs p ((gs y &&& T) ||| (gs z &&& (T ^^^ (-1)))), lb_fl E (64 * p) 64 (fun s => E (64 * xo_pick T y z s + s)), q)) : ∀ d i, i + d = 64 → wX_workOutIf_3 post (nI p) T (nI y) (nI z) lv ct pt (d + 1) (nI i) cs W fs gs (lb_fl E (64 * p) i (fun s => E (64 * xo_pick T y z s + s))) q := by
  intro d
  have hy32 : y < 32 := by omega
  have hz32 : z < 32 := by omega
  have vp : vp_in (nI p) 32 := lb_vi hp (by decide)
  have vy : vp_in (nI y) 32 := lb_vi hy32 (by decide)
  have vz : vp_in (nI z) 32 := lb_vi hz32 (by decide)
  have ey : (nI y).toNatClampNeg = y := lb_cl (by omega)
  have ez : (nI z).toNatClampNeg = z := lb_cl (by omega)
  have ep : (nI p).toNatClampNeg = p := lb_cl (by omega)
  induction d with
  | zero =>
    intro i hi
    have e : i = 64 := by omega
    subst e
    refine br_t lb_64x (And.intro vy (And.intro vz (And.intro vp (nm_e (And.intro vy (And.intro vz (And.intro vp (nm_e ?_))))))))
    rw [ey, ez, ep]
    exact H
  | succ d ih =>
    intro i hi
    have hl : i < 64 := by omega
    refine br_f (lb_64 hl) (xa_contains hl (lb_br (fun n => And.intro (lb_in1 hz32 hl rfl (by decide)) (And.intro (lb_in1 hp hl rfl (by decide)) (nm_r (xo_put hp hl ?_) (nm_r (nI_1 i) (ih (i + 1) (by omega)))))) (fun n => And.intro (lb_in1 hy32 hl rfl (by decide)) (And.intro (lb_in1 hp hl rfl (by decide)) (nm_r (xo_put hp hl ?_) (nm_r (nI_1 i) (ih (i + 1) (by omega))))))))
    · have e : xo_pick T y z i = z := if_neg n
      show _ = E (64 * xo_pick T y z i + i)
      rw [lb_at1 (by omega) hl, xo_get hz hl, e]
    · have e : xo_pick T y z i = y := if_pos n
      show _ = E (64 * xo_pick T y z i + i)
      rw [lb_at1 (by omega) hl, xo_get hy hl, e]
theorem xo_ift {post : SX → Prop} {p y z : Nat} {T : Int64} (hp : p < 32) (hy : y < p) (hz : z < p) (H : post (lv, ct, pt, cs, W, vp_updL fs p ((fs y &&& T) ||| (fs z &&& (T ^^^ (-1)))), vp_updL gs p ((gs y &&& T) ||| (gs z &&& (T ^^^ (-1)))), lb_fl E (64 * p) 64 (fun s => E (64 * xo_pick T y z s + s)), q)) : wpX_workOutIf post (lv, ct, pt, cs, W, fs, gs, E, q) (nI p) T (nI y) (nI z) := by
  have h := xo_if3 lv ct pt cs W fs gs E q hp hy hz H 64 0 rfl
  rw [lb_fl0] at h
  exact ⟨65, h⟩
theorem xo_ch3 {post : SX → Prop} {p x y : Nat} (hp : p < 32) (hx : x < p) (hy : y < p) (H : post (lv, ct, pt, cs, W, vp_updL fs p (fs x ||| fs y), vp_updL gs p (gs x ||| gs y), lb_fl E (64 * p) 64 (fun s => E (64 * x + s) ||| E (64 * y + s)), q)) : ∀ d i, i + d = 64 → wX_workOutChoose_3 post (nI p) (nI x) (nI y) lv ct pt (d + 1) (nI i) cs W fs gs (lb_fl E (64 * p) i (fun s => E (64 * x + s) ||| E (64 * y + s))) q := by
  intro d
  have hx32 : x < 32 := by omega
  have hy32 : y < 32 := by omega
  have vp : vp_in (nI p) 32 := lb_vi hp (by decide)
  have vx : vp_in (nI x) 32 := lb_vi hx32 (by decide)
  have vy : vp_in (nI y) 32 := lb_vi hy32 (by decide)
  have ex : (nI x).toNatClampNeg = x := lb_cl (by omega)
  have ey : (nI y).toNatClampNeg = y := lb_cl (by omega)
  have ep : (nI p).toNatClampNeg = p := lb_cl (by omega)
  induction d with
  | zero =>
    intro i hi
    have e : i = 64 := by omega
    subst e
    refine br_t lb_64x (And.intro vx (And.intro vy (And.intro vp (nm_e (And.intro vx (And.intro vy (And.intro vp (nm_e ?_))))))))
    rw [ex, ey, ep]
    exact H
  | succ d ih =>
    intro i hi
    have hl : i < 64 := by omega
    refine br_f (lb_64 hl) (And.intro (lb_in1 hx32 hl rfl (by decide)) (And.intro (lb_in1 hy32 hl rfl (by decide)) (And.intro (lb_in1 hp hl rfl (by decide)) (nm_r (xo_put hp hl ?_) (nm_r (nI_1 i) (ih (i + 1) (by omega)))))))
    rw [lb_at1 (by omega) hl, lb_at1 (by omega) hl, xo_get hx hl, xo_get hy hl]
theorem xo_cht {post : SX → Prop} {p x y : Nat} (hp : p < 32) (hx : x < p) (hy : y < p) (H : post (lv, ct, pt, cs, W, vp_updL fs p (fs x ||| fs y), vp_updL gs p (gs x ||| gs y), lb_fl E (64 * p) 64 (fun s => E (64 * x + s) ||| E (64 * y + s)), q)) : wpX_workOutChoose post (lv, ct, pt, cs, W, fs, gs, E, q) (nI p) (nI x) (nI y) := by
  have h := xo_ch3 lv ct pt cs W fs gs E q hp hx hy H 64 0 rfl
  rw [lb_fl0] at h
  exact ⟨65, h⟩
/-! ===== the loop ===== -/
theorem xo_wh70 {post : SX → Prop} {p y : Nat} {T f g w : Int64} (hp : p < 32) (h : sp_L E T y q w) (H : ∀ wf wg, (∀ s, s < 64 → (lb_b wf s ↔ sp_WF E T f y s)) → (∀ s, s < 64 → (lb_b wg s ↔ sp_WG E T g y s)) → post (lv, ct, pt, cs, W, vp_updL fs p wf, vp_updL gs p wg, lb_fl E (64 * p) 64 (sp_WE E T y), q)) : ∀ d i wf wg, i + d = 64 → lb_acc (sp_WF E T f y) i wf → lb_acc (sp_WG E T g y) i wg → wX_workOutWhile_70 post (nI p) T (f &&& T) (w ||| (g &&& T)) lv ct pt (d + 1) (nI i) cs W (vp_updL fs p wf) (vp_updL gs p wg) (lb_fl E (64 * p) i (sp_WE E T y)) q := by
  intro d
  have vp : vp_in (nI p) 32 := lb_vi hp (by decide)
  have ep : (nI p).toNatClampNeg = p := lb_cl (by omega)
  induction d with
  | zero =>
    intro i wf wg hi hf hg
    have e : i = 64 := by omega
    subst e
    exact br_t lb_64x (H wf wg (lb_accX hf) (lb_accX hg))
  | succ d ih =>
    intro i wf wg hi hf hg
    have hl : i < 64 := by omega
    have ei : (nI i).toNatClampNeg = i := lb_cl (by omega)
    have k2 : ∀ wf', lb_acc (sp_WF E T f y) (i + 1) wf' → wX_workOutWhile_134 post (wX_workOutWhile_70 post (nI p) T (f &&& T) (w ||| (g &&& T)) lv ct pt (d + 1)) (nI p) T (f &&& T) (w ||| (g &&& T)) (nI i) (q i ||| ((1 : Int64) <<< ((nI i).toInt64 &&& 63))) lv ct pt cs W (vp_updL fs p wf') (vp_updL gs p wg) (lb_fl E (64 * p) (i + 1) (sp_WE E T y)) q := by
      intro wf' hf'
      refine br_c (fun z => nm_r (nI_1 i) (ih (i + 1) wf' wg (by omega) hf' (lb_accF hg (fun c => (sp_LG h hl).mpr c z)))) (fun z => And.intro vp (And.intro vp (nm_r (e' := vp_updL gs p (wg ||| ((1 : Int64) <<< ((nI i).toInt64 &&& 63)))) ?_ (nm_r (nI_1 i) (ih (i + 1) wf' _ (by omega) hf' (lb_accT hl hg ((sp_LG h hl).mp z)))))))
      rw [ep, pk_uLs, lb_uuL]
    refine br_f (lb_64 hl) (And.intro (lb_vi hl (by decide)) (nm_r (e' := q i ||| ((1 : Int64) <<< ((nI i).toInt64 &&& 63))) (by rw [ei]) (And.intro (lb_in1 hp hl rfl (by decide)) (nm_r (xo_put hp hl (sp_LE h hl)) (br_c (fun z => k2 wf (lb_accF hf (fun c => (sp_LF h hl).mpr c z))) (fun z => And.intro vp (And.intro vp (nm_r (e' := vp_updL fs p (wf ||| ((1 : Int64) <<< ((nI i).toInt64 &&& 63)))) ?_ (k2 _ (lb_accT hl hf ((sp_LF h hl).mp z)))))))))))
    rw [ep, pk_uLs, lb_uuL]
theorem xo_wh28 {post : SX → Prop} {p y : Nat} {T w : Int64} (hp : p < 32) (hy : y < 32) (h : sp_L E T y q w) (H : ∀ wf wg, (∀ s, s < 64 → (lb_b wf s ↔ sp_WF E T (fs y) y s)) → (∀ s, s < 64 → (lb_b wg s ↔ sp_WG E T (gs y) y s)) → post (lv, ct, pt, cs, W, vp_updL fs p wf, vp_updL gs p wg, lb_fl E (64 * p) 64 (sp_WE E T y), q)) : wX_workOutWhile_28 post (nI p) T (nI y) w lv ct pt cs W fs gs E q := by
  have vp : vp_in (nI p) 32 := lb_vi hp (by decide)
  have vy : vp_in (nI y) 32 := lb_vi hy (by decide)
  have ey : (nI y).toNatClampNeg = y := lb_cl (by omega)
  have k := xo_wh70 lv ct pt cs W fs gs E q (f := fs y) (g := gs y) hp h H 64 0 0 0 rfl (lb_acc0 _) (lb_acc0 _)
  rw [lb_fl0] at k
  exact And.intro vy (nm_r (by rw [ey]) (And.intro vy (nm_r (by rw [ey]) (And.intro vp (nm_r (lb_uL (by omega)) (And.intro vp (nm_r (lb_uL (by omega)) ⟨65, k⟩)))))))
theorem xo_wht {post : SX → Prop} {p y : Nat} {T : Int64} (hp : p < 32) (hy : y < 32) (H : ∀ wf wg q', (∀ s, s < 64 → (lb_b wf s ↔ sp_WF E T (fs y) y s)) → (∀ s, s < 64 → (lb_b wg s ↔ sp_WG E T (gs y) y s)) → post (lv, ct, pt, cs, W, vp_updL fs p wf, vp_updL gs p wg, lb_fl E (64 * p) 64 (sp_WE E T y), q')) : wpX_workOutWhile post (lv, ct, pt, cs, W, fs, gs, E, q) (nI p) T (nI y) :=
  br_c (fun _ => xw_all lv ct pt cs W fs gs E hy (fun _ q' h => xo_wh28 lv ct pt cs W fs gs E q' hp hy h (fun wf wg h1 h2 => H wf wg q' h1 h2))) (fun _ => xc_all lv ct pt cs W fs gs E hy (fun _ q' h => xo_wh28 lv ct pt cs W fs gs E q' hp hy h (fun wf wg h1 h2 => H wf wg q' h1 h2)))
end
