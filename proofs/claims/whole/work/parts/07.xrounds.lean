theorem lb_cl {s : Nat} (h : s < 2048) : (nI s).toNatClampNeg = s := nI_clamp (by omega)
theorem lb_vi {s N : Nat} (h : s < N) (hN : N < 2 ^ 31) : vp_in (nI s) N := vp_in_nI h hN
theorem lb_uL {q : Nat → Int64} {s : Nat} {w : Int64} (h : s < 2048) : vp_updL q (nI s).toNatClampNeg w = vp_updL q s w := by rw [lb_cl h]
/-! ===== walking ===== -/
def xw_I (E : Nat → Int64) (T : Int64) (y i : Nat) (q : Nat → Int64) (w : Int64) : Prop :=
  (∀ s, s < i → ∀ u, u < 64 → (lb_b (q s) u ↔ ∃ k, k < 64 ∧ gr_pth (sp_e E T y) (k + 1) s u)) ∧ lb_acc (fun s => ∃ u, gr_pth (sp_e E T y) 64 s u ∧ lb_b T u) i w
theorem xw_Iq {E : Nat → Int64} {T : Int64} {y s : Nat} {q : Nat → Int64} {found : Int64} (h1 : ∀ s', s' < s → ∀ u, u < 64 → (lb_b (q s') u ↔ ∃ k, k < 64 ∧ gr_pth (sp_e E T y) (k + 1) s' u)) (hf : ∀ u, u < 64 → (lb_b found u ↔ ∃ k, k < 64 ∧ gr_pth (sp_e E T y) (k + 1) s u)) : ∀ s', s' < s + 1 → ∀ u, u < 64 → (lb_b (vp_updL q s found s') u ↔ ∃ k, k < 64 ∧ gr_pth (sp_e E T y) (k + 1) s' u) := by
  intro s' hs' u hu
  by_cases e : s' = s
  · subst e
    rw [pk_uLs]
    exact hf u hu
  · rw [pk_uLn e]
    exact h1 s' (by omega) u hu
theorem xw_nz {E : Nat → Int64} {T now : Int64} {y s : Nat} (hs : s < 64) (hn : ∀ u, u < 64 → (lb_b now u ↔ gr_pth (sp_e E T y) 64 s u)) : (¬ now &&& T = 0) ↔ ∃ u, gr_pth (sp_e E T y) 64 s u ∧ lb_b T u := by
  rw [lb_nz]
  constructor
  · intro z
    obtain ⟨j, hj, z⟩ := z
    rw [lb_and, hn j hj] at z
    exact ⟨j, z⟩
  · intro z
    obtain ⟨j, z1, z2⟩ := z
    have hj := lb_lt z2
    refine ⟨j, hj, ?_⟩
    rw [lb_and, hn j hj]
    exact ⟨z1, z2⟩
section
variable (lv ct pt : Int32) (cs : Nat → Int64) (W : Nat → Int32) (fs gs E : Nat → Int64)
theorem xw_25 {post : Int64 → SX → Prop} {J : Int64 → Int32 → (Nat → Int64) → (Nat → Int32) → (Nat → Int64) → (Nat → Int64) → (Nat → Int64) → (Nat → Int64) → Prop} {T : Int64} {y s : Nat} {w : Int64} {q : Nat → Int64} (hy : y < 32) (hs : s < 64) (h : xw_I E T y s q w) (HJ : ∀ q' w', xw_I E T y (s + 1) q' w' → J w' (nI (s + 1)) cs W fs gs E q') : ∀ d r now found, r + d = 64 → (∀ u, u < 64 → (lb_b now u ↔ gr_pth (sp_e E T y) r s u)) → (∀ u, u < 64 → (lb_b found u ↔ ∃ k, k < r ∧ gr_pth (sp_e E T y) (k + 1) s u)) → wX_walkRounds_25 post J T (nI y) w (nI s) lv ct pt cs W fs gs E q (d + 1) now found (nI r) := by
  intro d
  induction d with
  | zero =>
    intro r now found hr hn hf
    have e : r = 64 := by omega
    subst e
    refine br_t lb_64x (And.intro (lb_vi hs (by decide)) (nm_r (lb_uL (by omega)) (br_c (fun e => nm_r (nI_1 s) (HJ _ _ ⟨xw_Iq h.1 hf, ?_⟩)) (fun e => nm_e (nm_r (nI_1 s) (HJ _ _ ⟨xw_Iq h.1 hf, ?_⟩))))))
    · exact lb_accF h.2 (fun z => (xw_nz hs hn).mpr z e)
    · exact lb_accT hs h.2 ((xw_nz hs hn).mp e)
  | succ d ih =>
    intro r now found hr hn hf
    refine br_f (lb_64 (by omega)) (xa_eF lv ct pt cs W fs gs E q hy (fun now' hn' => nm_e (nm_r (nI_1 r) (ih (r + 1) now' _ (by omega) (sp_wstep hs hn hn') ?_))))
    intro u hu
    rw [lb_or, hf u hu, sp_wstep hs hn hn' u hu]
    exact (lb_exS (P := fun k => gr_pth (sp_e E T y) (k + 1) s u)).symm
theorem xw_6 {post : Int64 → SX → Prop} {T : Int64} {y : Nat} (hy : y < 32) (H : ∀ w q', sp_L E T y q' w → post w (lv, ct, pt, cs, W, fs, gs, E, q')) : ∀ d i w q, i + d = 64 → xw_I E T y i q w → wX_walkRounds_6 post T (nI y) lv ct pt (d + 1) w (nI i) cs W fs gs E q := by
  intro d
  induction d with
  | zero =>
    intro i w q hi h
    have e : i = 64 := by omega
    subst e
    exact br_t lb_64x (H w q (sp_walk h.1 (lb_accX h.2)))
  | succ d ih =>
    intro i w q hi h
    have hl : i < 64 := by omega
    refine br_f (lb_64 hl) (nm_e ⟨65, xw_25 lv ct pt cs W fs gs E hy hl h (fun q' w' h' => ih (i + 1) w' q' (by omega) h') 64 0 _ 0 rfl ?_ ?_⟩)
    · intro u hu
      rw [lb_shl hl]
      exact ⟨Eq.symm, Eq.symm⟩
    · intro u hu
      exact ⟨fun z => absurd z (lb_0 u), fun z => by obtain ⟨k, hk, _⟩ := z; omega⟩
theorem xw_all {post : Int64 → SX → Prop} {T : Int64} {y : Nat} {q : Nat → Int64} (hy : y < 32) (H : ∀ w q', sp_L E T y q' w → post w (lv, ct, pt, cs, W, fs, gs, E, q')) : wpX_walkRounds post (lv, ct, pt, cs, W, fs, gs, E, q) T (nI y) :=
  ⟨65, xw_6 lv ct pt cs W fs gs E hy H 64 0 0 q rfl ⟨fun s hs => by omega, lb_acc0 _⟩⟩
/-! ===== closing ===== -/
theorem xc_118 {post : Int64 → SX → Prop} {q : Nat → Int64} (H : ∀ w, (∀ s, s < 64 → (lb_b w s ↔ lb_b (q s) s)) → post w (lv, ct, pt, cs, W, fs, gs, E, q)) : ∀ d i w, i + d = 64 → lb_acc (fun s => lb_b (q s) s) i w → wX_closeRounds_118 post lv ct pt cs W fs gs E q (d + 1) w (nI i) := by
  intro d
  induction d with
  | zero =>
    intro i w hi h
    have e : i = 64 := by omega
    subst e
    exact br_t lb_64x (H w (lb_accX h))
  | succ d ih =>
    intro i w hi h
    have hl : i < 64 := by omega
    refine br_f (lb_64 hl) (And.intro (lb_vi hl (by decide)) (xa_contains hl (lb_br (fun n => nm_r (nI_1 i) ?_) (fun p => nm_e (nm_r (nI_1 i) ?_)))))
    · rw [lb_cl (by omega)] at n
      exact ih (i + 1) w (by omega) (lb_accF h n)
    · rw [lb_cl (by omega)] at p
      exact ih (i + 1) _ (by omega) (lb_accT hl h p)
theorem xc_61 {post : Int64 → SX → Prop} {J : Int32 → (Nat → Int64) → (Nat → Int32) → (Nat → Int64) → (Nat → Int64) → (Nat → Int64) → (Nat → Int64) → Prop} {e : Nat → Nat → Prop} {m : Nat} (hm : m < 64) (HJ : ∀ q', xc_I e (m + 1) 0 q' → J (nI (m + 1)) cs W fs gs E q') : ∀ d i q, i + d = 64 → xc_I e m i q → wX_closeRounds_61 post J (nI m) lv ct pt (d + 1) (nI i) cs W fs gs E q := by
  intro d
  induction d with
  | zero =>
    intro i q hi h
    have e : i = 64 := by omega
    subst e
    exact br_t lb_64x (nm_r (nI_1 m) (HJ q (xc_S h)))
  | succ d ih =>
    intro i q hi h
    have hl : i < 64 := by omega
    have hv : vp_in (nI i) 64 := lb_vi hl (by decide)
    refine br_f (lb_64 hl) (And.intro hv (xa_contains hm (lb_br (fun n => nm_r (nI_1 i) ?_) (fun p => And.intro hv (And.intro (lb_vi hm (by decide)) (And.intro hv (nm_r (e' := vp_updL q i (q i ||| q m)) ?_ (nm_r (nI_1 i) ?_))))))))
    · rw [lb_cl (by omega)] at n
      exact ih (i + 1) q (by omega) (xc_F h hm hl n)
    · rw [lb_cl (by omega), lb_cl (by omega)]
    · rw [lb_cl (by omega)] at p
      exact ih (i + 1) _ (by omega) (xc_T h hm hl p)
theorem xc_51 {post : Int64 → SX → Prop} {e : Nat → Nat → Prop} (H : ∀ w q', (∀ s, s < 64 → ∀ u, u < 64 → (lb_b (q' s) u ↔ gr_ws e 64 s u)) → (∀ s, s < 64 → (lb_b w s ↔ lb_b (q' s) s)) → post w (lv, ct, pt, cs, W, fs, gs, E, q')) : ∀ d m q, m + d = 64 → xc_I e m 0 q → wX_closeRounds_51 post lv ct pt (d + 1) (nI m) cs W fs gs E q := by
  intro d
  induction d with
  | zero =>
    intro m q hm h
    have e : m = 64 := by omega
    subst e
    exact br_t lb_64x ⟨65, xc_118 lv ct pt cs W fs gs E (fun w hw => H w q (xc_X h) hw) 64 0 0 rfl (lb_acc0 _)⟩
  | succ d ih =>
    intro m q hm h
    have hl : m < 64 := by omega
    exact br_f (lb_64 hl) ⟨65, xc_61 lv ct pt cs W fs gs E hl (fun q' h' => ih (m + 1) q' (by omega) h') 64 0 q rfl h⟩
theorem xc_3 {post : Int64 → SX → Prop} {T : Int64} {y : Nat} (hy : y < 32) (H : ∀ w q', sp_L E T y q' w → post w (lv, ct, pt, cs, W, fs, gs, E, q')) : ∀ d i q, i + d = 64 → (∀ s, s < i → ∀ u, u < 64 → (lb_b (q s) u ↔ sp_e E T y s u)) → wX_closeRounds_3 post T (nI y) lv ct pt (d + 1) (nI i) cs W fs gs E q := by
  intro d
  induction d with
  | zero =>
    intro i q hi h
    have e : i = 64 := by omega
    subst e
    exact br_t lb_64x ⟨65, xc_51 lv ct pt cs W fs gs E (fun w q' h1 h2 => H w q' (sp_close h1 h2)) 64 0 q rfl (xc_0 h)⟩
  | succ d ih =>
    intro i q hi h
    have hl : i < 64 := by omega
    have hv : vp_in (nI i) 64 := lb_vi hl (by decide)
    refine br_f (lb_64 hl) (xa_contains hl (lb_br (fun n => And.intro hv (nm_r (lb_uL (by omega)) (nm_r (nI_1 i) (ih (i + 1) _ (by omega) ?_)))) (fun p => And.intro (lb_in1 hy hl rfl (by decide)) (And.intro hv (nm_r (e' := vp_updL q i (E (64 * y + i))) ?_ (nm_r (nI_1 i) (ih (i + 1) _ (by omega) ?_)))))))
    · intro s hs u hu
      by_cases e : s = i
      · subst e
        rw [pk_uLs]
        exact ⟨fun z => absurd z (lb_0 u), fun z => absurd z.1 n⟩
      · rw [pk_uLn e]
        exact h s (by omega) u hu
    · rw [lb_cl (by omega), lb_at1 (by omega) hl]
    · intro s hs u hu
      by_cases e : s = i
      · subst e
        rw [pk_uLs]
        exact ⟨fun z => ⟨p, z⟩, fun z => z.2⟩
      · rw [pk_uLn e]
        exact h s (by omega) u hu
theorem xc_all {post : Int64 → SX → Prop} {T : Int64} {y : Nat} {q : Nat → Int64} (hy : y < 32) (H : ∀ w q', sp_L E T y q' w → post w (lv, ct, pt, cs, W, fs, gs, E, q')) : wpX_closeRounds post (lv, ct, pt, cs, W, fs, gs, E, q) T (nI y) :=
  ⟨65, xc_3 lv ct pt cs W fs gs E hy H 64 0 q rfl (fun s hs => by omega)⟩
end
