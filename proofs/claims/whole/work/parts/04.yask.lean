def tt_PY (n : Nat) (p : Nat → Nat) (PP : Nat → Int32) : Prop := n ≤ 24 ∧ tt_Hp p ∧ (∀ i, 0 < i → i < n → PP i = nI (p i)) ∧ PP 0 = -1
theorem yy_ab10 {post : Int32 → Prop} {ns : Int32} {T PP D H TR OC TS RS CA MD : Nat → Int32} {n : Nat} {p : Nat → Nat} (h : tt_PY n p PP) {c : Nat} (hc : c < 24) : ∀ j k f, j < n → k + j < 24 → j < f → (tt_Ab p c j → post 1) → (¬ tt_Ab p c j → post 0) → wY_above_10 post (nI c) ns T PP D H TR OC TS RS CA MD f (PP j) (nI k) := by
  intro j
  induction j using Nat.strongRecOn with
  | ind j ih =>
    intro k f hj hk hf h1 h0
    match f, hf with
    | f + 1, hf =>
      have hn := h.1
      refine br_f (nI_ge (b := 24) (by omega) (by omega)) ?_
      by_cases z : j = 0
      · subst z; rw [h.2.2.2]; exact br_t (by decide) (h0 tt_Ab_0)
      · have hp := h.2.1 j (by omega)
        rw [h.2.2.1 j (by omega) hj]
        refine br_f (nI_pos (by omega)) ?_
        have e := tt_Ab_s h.2.1 (c := c) (i := j) (by omega)
        by_cases q : p j = c
        · exact br_t (by rw [q]) (h1 (e.mpr (Or.inl q)))
        · exact br_f (fun y => q ((nI_eq (by omega) (by omega)).mp y)) ⟨vp_in_nI (by omega) (by omega), nm_r (tt_at PP (by omega)) (nm_r (nI_1 k) (ih (p j) hp (k + 1) f (by omega) (by omega) (by omega) (fun y => h1 (e.mpr (Or.inr y))) (fun y => h0 (fun y2 => (e.mp y2).elim q y))))⟩
theorem yy_above {post : Int32 → Prop} {ns : Int32} {T PP D H TR OC TS RS CA MD : Nat → Int32} {n : Nat} {p : Nat → Nat} (h : tt_PY n p PP) {c i : Nat} (hc : c < 24) (hi : i < n) (h1 : tt_Ab p c i → post 1) (h0 : ¬ tt_Ab p c i → post 0) : wpY_above post (ns, T, PP, D, H, TR, OC, TS, RS, CA, MD) (nI c) (nI i) := by
  have hn := h.1
  exact ⟨vp_in_nI (by omega) (by omega), nm_r (tt_at PP (by omega)) ⟨i + 1, yy_ab10 h hc i 0 (i + 1) hi (by omega) (by omega) h1 h0⟩⟩
theorem yy_pa2 {post : Int32 → Prop} {T PP D H TR OC TS RS CA MD : Nat → Int32} {n : Nat} {p : Nat → Nat} (h : tt_PY n p PP) {i w : Nat} (hi : i < n) (hw : w < 4) (h1 : tt_Pa p H w i → post 1) (h0 : ¬ tt_Pa p H w i → post 0) : ∀ d c, c + d = n → (∀ c', c' < c → tt_Ab p c' i → H (c' * 4 + w) ≤ 1) → wY_passes_2 post (nI i) (nI w) (nI n) T PP D H TR OC TS RS CA MD (d + 1) (nI c) := by
  have hn := h.1
  intro d
  induction d with
  | zero =>
    intro c hc hv
    exact br_t (nI_le (by omega) (by omega)) (h1 (fun c' hc' => hv c' (by have := tt_Ab_lt h.2.1 i hc'; omega) hc'))
  | succ d ih =>
    intro c hc hv
    refine br_f (nI_ge (by omega) (by omega)) (yy_above h (by omega) hi (fun a => br_f (by decide) ?_) (fun na => br_t rfl (nm_r (nI_1 c) (ih (c + 1) (by omega) (fun c' hc' a' => ?_)))))
    · rw [tt_sl]
      refine ⟨vp_in_nI (by omega) (by omega), ?_⟩
      rw [tt_at H (by omega)]
      by_cases q : H (c * 4 + w) ≤ 1
      · refine br_t q (nm_r (nI_1 c) (ih (c + 1) (by omega) (fun c' hc' a' => ?_)))
        by_cases e : c' = c
        · rw [e]; exact q
        · exact hv c' (by omega) a'
      · exact br_f q (h0 (fun z => q (z c a)))
    · by_cases e : c' = c
      · exact absurd (e ▸ a') na
      · exact hv c' (by omega) a'
theorem yy_passes {post : Int32 → Prop} {T PP D H TR OC TS RS CA MD : Nat → Int32} {n : Nat} {p : Nat → Nat} (h : tt_PY n p PP) {i w : Nat} (hi : i < n) (hw : w < 4) (h1 : tt_Pa p H w i → post 1) (h0 : ¬ tt_Pa p H w i → post 0) : wpY_passes post (nI n, T, PP, D, H, TR, OC, TS, RS, CA, MD) (nI i) (nI w) :=
  ⟨_, yy_pa2 h hi hw h1 h0 n 0 (by omega) (fun _ z => absurd z (by omega))⟩
theorem yy_se33 {post : Int32 → Prop} {T PP D H TR OC TS RS CA MD : Nat → Int32} {n : Nat} {p : Nat → Nat} (h : tt_PY n p PP) {i : Nat} (hi : i < n) (h1 : (∀ c, tt_Ab p c i → D c = 0) → post 1) (h0 : ¬ (∀ c, tt_Ab p c i → D c = 0) → post 0) : ∀ d c, c + d = n → (∀ c', c' < c → tt_Ab p c' i → D c' = 0) → wY_selected_33 post (nI i) (nI n) T PP D H TR OC TS RS CA MD (d + 1) (nI c) := by
  have hn := h.1
  intro d
  induction d with
  | zero =>
    intro c hc hv
    exact br_t (nI_le (by omega) (by omega)) (h1 (fun c' hc' => hv c' (by have := tt_Ab_lt h.2.1 i hc'; omega) hc'))
  | succ d ih =>
    intro c hc hv
    refine br_f (nI_ge (by omega) (by omega)) ⟨vp_in_nI (by omega) (by omega), ?_⟩
    rw [tt_at D (by omega)]
    by_cases q : D c = 0
    · refine br_t q (nm_r (nI_1 c) (ih (c + 1) (by omega) (fun c' hc' a' => ?_)))
      by_cases e : c' = c
      · rw [e]; exact q
      · exact hv c' (by omega) a'
    · refine br_f q (yy_above h (by omega) hi (fun a => br_f (by decide) (h0 (fun z => q (z c a)))) (fun na => br_t rfl (nm_r (nI_1 c) (ih (c + 1) (by omega) (fun c' hc' a' => ?_)))))
      by_cases e : c' = c
      · exact absurd (e ▸ a') na
      · exact hv c' (by omega) a'
theorem yy_selected {post : Int32 → Prop} {T PP D H TR OC TS RS CA MD : Nat → Int32} {n : Nat} {p : Nat → Nat} (h : tt_PY n p PP) {g : Int32} {i : Nat} (hi : i < n) (h1 : tt_Se p T D TS g i → post 1) (h0 : ¬ tt_Se p T D TS g i → post 0) : wpY_selected post (nI n, T, PP, D, H, TR, OC, TS, RS, CA, MD) (nI i) g := by
  have hn := h.1
  have hv : vp_in (nI i) 24 := vp_in_nI (by omega) (by omega)
  unfold wpY_selected; dsimp only
  rw [tt_at T (by omega), tt_at TS (by omega), tt_at D (by omega)]
  refine ⟨hv, br_c (fun t => h0 (fun z => z.1 t)) (fun t => ⟨hv, br_c (fun q => h0 (fun z => z.2.1 q)) (fun q => ⟨hv, br_c (fun e => ?_) (fun e => h0 (fun z => e z.2.2.1))⟩)⟩)⟩
  exact ⟨_, yy_se33 h hi (fun a => h1 ⟨t, q, e, a⟩) (fun a => h0 (fun z => a z.2.2.2)) n 0 (by omega) (fun _ z => absurd z (by omega))⟩
theorem yy_iu2 {post : Int32 → Prop} {T PP D H TR OC TS RS CA MD : Nat → Int32} {n : Nat} {p : Nat → Nat} (h : tt_PY n p PP) {g : Int32} {c : Nat} (hc : c < 24) (h1 : (∃ t, t < n ∧ tt_Ab p c t ∧ tt_Se p T D TS g t) → post 1) (h0 : ¬ (∃ t, t < n ∧ tt_Ab p c t ∧ tt_Se p T D TS g t) → post 0) : ∀ d i, i + d = n → (∀ t, t < i → ¬ (tt_Ab p c t ∧ tt_Se p T D TS g t)) → wY_inUse_2 post (nI c) g (nI n) T PP D H TR OC TS RS CA MD (d + 1) (nI i) := by
  have hn := h.1
  intro d
  induction d with
  | zero =>
    intro i hi hv
    exact br_t (nI_le (by omega) (by omega)) (h0 (fun ⟨t, a, b⟩ => hv t (by omega) b))
  | succ d ih =>
    intro i hi hv
    refine br_f (nI_ge (by omega) (by omega)) (yy_above h hc (by omega) (fun a => br_f (by decide) (yy_selected h (by omega) (fun s => br_f (by decide) (h1 ⟨i, by omega, a, s⟩)) (fun s => br_t rfl (nm_r (nI_1 i) (ih (i + 1) (by omega) (fun t ht z => ?_)))))) (fun na => br_t rfl (nm_r (nI_1 i) (ih (i + 1) (by omega) (fun t ht z => ?_)))))
    · by_cases e : t = i
      · exact s (e ▸ z.2)
      · exact hv t (by omega) z
    · by_cases e : t = i
      · exact na (e ▸ z.1)
      · exact hv t (by omega) z
theorem yy_inUse {post : Int32 → Prop} {T PP D H TR OC TS RS CA MD : Nat → Int32} {n : Nat} {p : Nat → Nat} (h : tt_PY n p PP) {g : Int32} {c : Nat} (hc : c < 24) (h1 : (∃ t, t < n ∧ tt_Ab p c t ∧ tt_Se p T D TS g t) → post 1) (h0 : ¬ (∃ t, t < n ∧ tt_Ab p c t ∧ tt_Se p T D TS g t) → post 0) : wpY_inUse post (nI n, T, PP, D, H, TR, OC, TS, RS, CA, MD) (nI c) g :=
  ⟨_, yy_iu2 h hc h1 h0 n 0 (by omega) (fun _ z => absurd z (by omega))⟩
theorem yy_ha3 {post : Int32 → Prop} {T PP D H TR OC TS RS CA MD : Nat → Int32} {n : Nat} {p : Nat → Nat} (h : tt_PY n p PP) {t : Nat} (ht : t < n) {a o : Int32} (h1 : tt_Ha p H t (fun q => a = q) o → post 1) (h0 : ¬ tt_Ha p H t (fun q => a = q) o → post 0) : ∀ d c, c + d = n → (∀ c', c' < c → ¬ (tt_Ab p c' t ∧ tt_Pa p H 2 c' ∧ (H (c' * 4 + 2) = o ∨ H (c' * 4 + 3) = o))) → wY_has_3 post (nI t) a o (nI n) T PP D H TR OC TS RS CA MD (d + 1) (nI c) := by
  have hn := h.1
  intro d
  induction d with
  | zero =>
    intro c hc hv
    have hv' : ¬ ∃ c, tt_Ab p c t ∧ tt_Pa p H 2 c ∧ (H (c * 4 + 2) = o ∨ H (c * 4 + 3) = o) := fun ⟨c', z⟩ => hv c' (by have := tt_Ab_lt h.2.1 t z.1; omega) z
    refine br_t (nI_le (by omega) (by omega)) (br_c (fun e => ?_) (fun e => h0 (fun z => z.elim hv' (fun y => e y.1))))
    exact yy_passes (w := 2) h ht (by omega) (fun y => br_f (by decide) (h1 (Or.inr ⟨e, y⟩))) (fun y => br_t rfl (h0 (fun z => z.elim hv' (fun x => y x.2))))
  | succ d ih =>
    intro c hc hv
    have go : ¬ (tt_Ab p c t ∧ tt_Pa p H 2 c ∧ (H (c * 4 + 2) = o ∨ H (c * 4 + 3) = o)) → wY_has_3 post (nI t) a o (nI n) T PP D H TR OC TS RS CA MD (d + 1) (nI (c + 1)) := by
      intro z
      refine ih (c + 1) (by omega) (fun c' hc' y => ?_)
      by_cases e : c' = c
      · subst e; exact z y
      · exact hv c' (by omega) y
    refine br_f (nI_ge (by omega) (by omega)) (yy_above h (by omega) ht (fun a1 => br_f (by decide) ?_) (fun na => br_t rfl (nm_r (nI_1 c) (go (fun z => na z.1)))))
    refine yy_passes (w := 2) h (by omega) (by omega) (fun a2 => br_f (by decide) ?_) (fun na => br_t rfl (nm_r (nI_1 c) (go (fun z => na z.2.1))))
    rw [show nI c * 4 + 2 = nI (c * 4 + 2) from tt_sl c 2, show nI c * 4 + 3 = nI (c * 4 + 3) from tt_sl c 3, tt_at H (by omega), tt_at H (by omega)]
    exact ⟨vp_in_nI (by omega) (by omega), br_c (fun e => h1 (Or.inl ⟨c, a1, a2, Or.inl e⟩)) (fun e => ⟨vp_in_nI (by omega) (by omega), br_c (fun e2 => h1 (Or.inl ⟨c, a1, a2, Or.inr e2⟩)) (fun e2 => nm_r (nI_1 c) (go (fun z => z.2.2.elim e e2)))⟩)⟩
theorem yy_has {post : Int32 → Prop} {T PP D H TR OC TS RS CA MD : Nat → Int32} {n : Nat} {p : Nat → Nat} (h : tt_PY n p PP) {t : Nat} (ht : t < n) {a o : Int32} (h1 : tt_Ha p H t (fun q => a = q) o → post 1) (h0 : ¬ tt_Ha p H t (fun q => a = q) o → post 0) : wpY_has post (nI n, T, PP, D, H, TR, OC, TS, RS, CA, MD) (nI t) a o :=
  ⟨_, yy_ha3 h ht h1 h0 n 0 (by omega) (fun _ z => absurd z (by omega))⟩
theorem tt_s4 (c : Nat) : nI c * 4 = nI (c * 4) := by
  rw [show (4 : Int32) = nI 4 from rfl, pk_mul]
theorem yy_rt7 {post : SY → Prop} {T PP D H TR OC TS RS CA MD : Nat → Int32} {n : Nat} {p : Nat → Nat} (h : tt_PY n p PP) {t K : Nat} (ht : t < n) (hK : K < 2 ^ 31) (hTR : TR t = nI K) : ∀ r i m l, i + r = K → post (nI n, T, PP, D, H, TR, OC, TS, upd RS t (tt_lp (tt_gt p H OC t) r i m l).2, upd CA (t * 4 + 0) (tt_b (tt_Pa p H 2 t) * nI (tt_lp (tt_gt p H OC t) r i m l).1), upd MD t (nI (tt_lp (tt_gt p H OC t) r i m l).1)) → wY_runTest_7 post (nI t) (nI n) T PP D H TR OC TS RS CA MD (r + 1) (nI m) l (nI i) := by
  have hn := h.1
  have hv : vp_in (nI t) 24 := vp_in_nI (by omega) (by omega)
  have hs : vp_in (nI t * 4) 96 := by rw [tt_s4]; exact vp_in_nI (by omega) (by omega)
  have hc : (nI t * 4).toNatClampNeg = t * 4 + 0 := by rw [tt_s4]; exact nI_clamp (by omega)
  have hTR' : TR (nI t).toNatClampNeg = nI K := (tt_at TR (by omega)).trans hTR
  intro r
  induction r with
  | zero =>
    intro i m l hi hp
    refine ⟨hv, br_t (by rw [hTR']; exact nI_le (by omega) (by omega)) ⟨hv, nm_r (tt_un RS _ (by omega)) ⟨hv, nm_r (tt_un MD _ (by omega)) ?_⟩⟩⟩
    refine yy_passes (w := 2) h ht (by omega) (fun y => br_f (by decide) ⟨hs, nm_r (e' := upd CA (t * 4 + 0) (nI m)) (by rw [hc]) ?_⟩) (fun y => br_t rfl ⟨hs, nm_r (e' := upd CA (t * 4 + 0) 0) (by rw [hc]) ?_⟩)
    · rw [tt_b1 y, Int32.one_mul] at hp; exact hp
    · rw [tt_b0 y, Int32.zero_mul] at hp; exact hp
  | succ r ih =>
    intro i m l hi hp
    refine ⟨hv, br_f (by rw [hTR']; exact nI_ge (by omega) (by omega)) ?_⟩
    by_cases e : l = 2
    · subst e
      rw [tt_lp_s] at hp
      refine br_t rfl ⟨hv, nm_r (e' := tt_own OC t i) (by rw [tt_at OC (by omega)]; rfl) ?_⟩
      refine yy_has h ht (fun h2 => yy_has h ht (fun h3 => br_f (by decide) (nm_r (nI_1 m) (nm_r (nI_1 i) ?_))) (fun h3 => br_f (by decide) (nm_r (nI_1 m) (nm_r (nI_1 i) ?_)))) (fun h2 => yy_has h ht (fun h3 => br_t rfl (br_f (by decide) (nm_r (nI_1 m) (nm_r (nI_1 i) ?_)))) (fun h3 => br_t rfl (br_t rfl (nm_r (nI_1 m) (nm_r (nI_1 i) ?_)))))
      · rw [show tt_gt p H OC t i = 2 from tt_g2 h2] at hp; exact ih (i + 1) (m + 1) 2 (by omega) hp
      · rw [show tt_gt p H OC t i = 2 from tt_g2 h2] at hp; exact ih (i + 1) (m + 1) 2 (by omega) hp
      · rw [show tt_gt p H OC t i = 3 from tt_g3 h2 h3] at hp; exact ih (i + 1) (m + 1) 3 (by omega) hp
      · rw [show tt_gt p H OC t i = 1 from tt_g1 h2 h3] at hp; exact ih (i + 1) (m + 1) 1 (by omega) hp
    · rw [tt_lp_n e] at hp
      refine br_f e (nm_r (nI_1 i) (ih (i + 1) m l (by omega) ?_))
      rw [tt_lp_n e]; exact hp
theorem yy_runTest {post : SY → Prop} {T PP D H TR OC TS RS CA MD : Nat → Int32} {n : Nat} {p : Nat → Nat} (h : tt_PY n p PP) {t K : Nat} (ht : t < n) (hK : K < 2 ^ 31) (hTR : TR t = nI K) (hp : post (nI n, T, PP, D, H, TR, OC, TS, upd RS t (tt_mr p H OC TR t).2, upd CA (t * 4 + 0) (tt_b (tt_Pa p H 2 t) * nI (tt_mr p H OC TR t).1), upd MD t (nI (tt_mr p H OC TR t).1))) : wpY_runTest post (nI n, T, PP, D, H, TR, OC, TS, RS, CA, MD) (nI t) := by
  have e : (TR t).toNatClampNeg = K := by rw [hTR]; exact nI_clamp hK
  unfold tt_mr at hp
  rw [e] at hp
  exact ⟨_, yy_rt7 h ht hK hTR K 0 0 2 (by omega) hp⟩
theorem tt_uu {f : Nat → Int32} {c : Nat} {a b : Int32} : upd (upd f c a) c b = upd f c b := by
  funext j
  by_cases e : j = c
  · rw [e, pk_us, pk_us]
  · rw [pk_un e, pk_un e, pk_un e]
theorem yy_rc80 {post : SY → Prop} {ns : Int32} {T PP D H TR OC TS RS CA MD : Nat → Int32} {c : Nat} (hc : c < 24) {a b x : Int32} (hp : post (ns, T, PP, D, H, TR, OC, TS, upd RS c (tt_i (a = 2 ∨ b = 2) 2 x), CA, MD)) : wY_runContainer_80 post (nI c) a b ns T PP D H TR OC TS (upd RS c x) CA MD := by
  have hv : vp_in (nI c) 24 := vp_in_nI (by omega) (by omega)
  by_cases ha : a = 2
  · rw [tt_i1 (Or.inl ha)] at hp
    exact br_t ha ⟨hv, nm_r (e' := upd RS c 2) (by rw [tt_un _ _ (by omega), tt_uu]) hp⟩
  · by_cases hb : b = 2
    · rw [tt_i1 (Or.inr hb)] at hp
      exact br_f ha (br_t hb ⟨hv, nm_r (e' := upd RS c 2) (by rw [tt_un _ _ (by omega), tt_uu]) hp⟩)
    · rw [tt_i0 (fun z => z.elim ha hb)] at hp
      exact br_f ha (br_f hb hp)
theorem yy_rc55 {post : SY → Prop} {ns : Int32} {T PP D H TR OC TS RS CA MD : Nat → Int32} {c s : Nat} (hc : c < 24) (hs : s < 96) {a b z : Int32} (hp : post (ns, T, PP, D, H, TR, OC, TS, upd RS c (tt_g (fun o => a = o ∨ b = o)), upd CA s z, MD)) : wY_runContainer_55 post (nI c) a b z (nI s) ns T PP D H TR OC TS RS CA MD := by
  have hv : vp_in (nI c) 24 := vp_in_nI (by omega) (by omega)
  have e3 : (a = 3 ∨ b = 3) → tt_g (fun o => a = o ∨ b = o) = tt_i (a = 2 ∨ b = 2) 2 3 := by
    intro h
    show tt_i (a = 2 ∨ b = 2) 2 (tt_i (a = 3 ∨ b = 3) 3 1) = _
    rw [tt_i1 h]
  have e1 : ¬ (a = 3 ∨ b = 3) → tt_g (fun o => a = o ∨ b = o) = tt_i (a = 2 ∨ b = 2) 2 1 := by
    intro h
    show tt_i (a = 2 ∨ b = 2) 2 (tt_i (a = 3 ∨ b = 3) 3 1) = _
    rw [tt_i0 h]
  refine ⟨vp_in_nI hs (by omega), nm_r (tt_un CA _ (by omega)) ⟨hv, nm_r (tt_un RS _ (by omega)) ?_⟩⟩
  by_cases ha : a = 3
  · rw [e3 (Or.inl ha)] at hp
    exact br_t ha ⟨hv, nm_r (e' := upd RS c 3) (by rw [tt_un _ _ (by omega), tt_uu]) (yy_rc80 hc hp)⟩
  · by_cases hb : b = 3
    · rw [e3 (Or.inr hb)] at hp
      exact br_f ha (br_t hb ⟨hv, nm_r (e' := upd RS c 3) (by rw [tt_un _ _ (by omega), tt_uu]) (yy_rc80 hc hp)⟩)
    · rw [e1 (fun z => z.elim ha hb)] at hp
      exact br_f ha (br_f hb (yy_rc80 hc hp))
theorem yy_rc36 {post : SY → Prop} {ns : Int32} {T PP D H TR OC TS RS CA MD : Nat → Int32} {c s : Nat} (hc : c < 24) (hs : s < 96) {a b z : Int32} (hp : post (ns, T, PP, D, H, TR, OC, TS, upd RS c (tt_g (fun o => a = o ∨ b = o)), upd (upd CA s z) (c * 4 + 1) (tt_b (¬ b = 0)), MD)) : wY_runContainer_36 post (nI c) a b z (nI s) ns T PP D H TR OC TS RS CA MD := by
  refine ⟨vp_in_nI hs (by omega), nm_r (tt_un CA _ (by omega)) ?_⟩
  rw [show nI c * 4 + 1 = nI (c * 4 + 1) from tt_sl c 1]
  by_cases hb : b = 0
  · rw [tt_b0 (fun z => z hb)] at hp
    exact br_t hb (yy_rc55 hc (by omega) hp)
  · rw [tt_b1 hb] at hp
    exact br_f hb (yy_rc55 hc (by omega) hp)
theorem yy_runContainer {post : SY → Prop} {ns : Int32} {T PP D H TR OC TS RS CA MD : Nat → Int32} {c : Nat} (hc : c < 24) (hp : post (ns, T, PP, D, H, TR, OC, TS, upd RS c (tt_g (fun o => H (c * 4 + 0) = o ∨ H (c * 4 + 1) = o)), upd (upd CA (c * 4 + 0) (tt_b (¬ H (c * 4 + 0) = 0))) (c * 4 + 1) (tt_b (¬ H (c * 4 + 1) = 0)), MD)) : wpY_runContainer post (ns, T, PP, D, H, TR, OC, TS, RS, CA, MD) (nI c) := by
  unfold wpY_runContainer; dsimp only
  rw [show nI c * 4 + 1 = nI (c * 4 + 1) from tt_sl c 1, show nI c * 4 = nI (c * 4 + 0) from tt_s4 c]
  refine ⟨vp_in_nI (by omega) (by omega), nm_r (tt_at H (by omega)) ⟨vp_in_nI (by omega) (by omega), nm_r (tt_at H (by omega)) ?_⟩⟩
  by_cases hb : H (c * 4 + 0) = 0
  · rw [tt_b0 (P := ¬ H (c * 4 + 0) = 0) (fun z => z hb)] at hp
    exact br_t hb (yy_rc36 hc (by omega) hp)
  · rw [tt_b1 hb] at hp
    exact br_f hb (yy_rc36 hc (by omega) hp)
theorem yy_e74 {post : SY → Prop} {ns : Int32} {T PP D H TR OC TS RS CA MD : Nat → Int32} {c : Nat} (hc : c < 24) {y z x : Int32} (hp : post (ns, T, PP, D, H, TR, OC, TS, RS, upd (upd CA (c * 4 + 2) z) (c * 4 + 3) (tt_i (¬ x = 0 ∧ ¬ H (c * 4 + 3) = 0) y 0), MD)) : wY_each_74 post (nI c) y x z (nI (c * 4 + 2)) ns T PP D H TR OC TS RS CA MD := by
  have hs : vp_in (nI (c * 4 + 3)) 96 := vp_in_nI (by omega) (by omega)
  unfold wY_each_74
  rw [show nI c * 4 + 3 = nI (c * 4 + 3) from tt_sl c 3, tt_at H (by omega)]
  refine ⟨vp_in_nI (by omega) (by omega), nm_r (tt_un CA _ (by omega)) ?_⟩
  by_cases hx : x = 0
  · rw [tt_i0 (fun z => z.1 hx)] at hp
    exact br_t hx ⟨hs, nm_r (tt_un _ _ (by omega)) hp⟩
  · by_cases hh : H (c * 4 + 3) = 0
    · rw [tt_i0 (fun z => z.2 hh)] at hp
      exact br_f hx ⟨hs, br_t hh ⟨hs, nm_r (tt_un _ _ (by omega)) hp⟩⟩
    · rw [tt_i1 ⟨hx, hh⟩] at hp
      exact br_f hx ⟨hs, br_f hh ⟨hs, nm_r (tt_un _ _ (by omega)) hp⟩⟩
theorem yy_e4 {post : SY → Prop} {T PP D H TR OC TS RS CA MD : Nat → Int32} {n : Nat} {p : Nat → Nat} (h : tt_PY n p PP) {c : Nat} (hc : c < n) (hp : post (nI n, T, PP, D, H, TR, OC, TS, RS, upd (upd CA (c * 4 + 2) (tt_b (tt_Pa p H 2 c ∧ ¬ H (c * 4 + 2) = 0) * tt_S (fun t => tt_b (tt_Ab p c t) * MD t) n)) (c * 4 + 3) (tt_b (tt_Pa p H 2 c ∧ ¬ H (c * 4 + 3) = 0) * tt_S (fun t => tt_b (tt_Ab p c t) * MD t) n), MD)) : ∀ d i a, i + d = n → a = tt_S (fun t => tt_b (tt_Ab p c t) * MD t) i → wY_each_4 post (nI c) (nI n) T PP D H TR OC TS RS CA MD (d + 1) a (nI i) := by
  have hn := h.1
  intro d
  induction d with
  | zero =>
    intro i a hi ha
    have e : i = n := by omega
    subst e
    have hs : vp_in (nI (c * 4 + 2)) 96 := vp_in_nI (by omega) (by omega)
    rw [← ha] at hp
    refine br_t (nI_le (by omega) (by omega)) (yy_passes (w := 2) h hc (by omega) (fun y => br_f (by decide) ?_) (fun y => br_t rfl ?_))
    · rw [show nI c * 4 + 2 = nI (c * 4 + 2) from tt_sl c 2, tt_at H (by omega)]
      refine ⟨hs, ?_⟩
      have e3 : tt_b (tt_Pa p H 2 c ∧ ¬ H (c * 4 + 3) = 0) * a = tt_i (¬ (1 : Int32) = 0 ∧ ¬ H (c * 4 + 3) = 0) a 0 := by
        by_cases q : H (c * 4 + 3) = 0
        · rw [tt_b0 (fun z => z.2 q), tt_i0 (fun z => z.2 q), Int32.zero_mul]
        · rw [tt_b1 ⟨y, q⟩, tt_i1 ⟨by decide, q⟩, Int32.one_mul]
      rw [e3] at hp
      by_cases q : H (c * 4 + 2) = 0
      · rw [tt_b0 (P := tt_Pa p H 2 c ∧ ¬ H (c * 4 + 2) = 0) (fun z => z.2 q), Int32.zero_mul] at hp
        exact br_t q (yy_e74 (by omega) hp)
      · rw [tt_b1 (P := tt_Pa p H 2 c ∧ ¬ H (c * 4 + 2) = 0) ⟨y, q⟩, Int32.one_mul] at hp
        exact br_f q (yy_e74 (by omega) hp)
    · rw [tt_b0 (fun z => y z.1), tt_b0 (fun z => y z.1), Int32.zero_mul] at hp
      rw [show nI c * 4 + 2 = nI (c * 4 + 2) from tt_sl c 2]
      refine yy_e74 (x := 0) (by omega) ?_
      rw [tt_i0 (fun z => z.1 rfl)]
      exact hp
  | succ d ih =>
    intro i a hi ha
    refine br_f (nI_ge (by omega) (by omega)) (yy_above h (by omega) (by omega) (fun y => br_f (by decide) ⟨vp_in_nI (by omega) (by omega), nm_r (e' := tt_S (fun t => tt_b (tt_Ab p c t) * MD t) (i + 1)) ?_ (nm_r (nI_1 i) (ih (i + 1) _ (by omega) rfl))⟩) (fun y => br_t rfl (nm_r (nI_1 i) (ih (i + 1) a (by omega) ?_))))
    · show _ = tt_S (fun t => tt_b (tt_Ab p c t) * MD t) i + tt_b (tt_Ab p c i) * MD i
      rw [tt_at MD (by omega), ha, tt_b1 y, Int32.one_mul]
    · show _ = tt_S (fun t => tt_b (tt_Ab p c t) * MD t) i + tt_b (tt_Ab p c i) * MD i
      rw [ha, tt_b0 y, Int32.zero_mul, Int32.add_zero]
theorem yy_each {post : SY → Prop} {T PP D H TR OC TS RS CA MD : Nat → Int32} {n : Nat} {p : Nat → Nat} (h : tt_PY n p PP) {c : Nat} (hc : c < n) (hp : post (nI n, T, PP, D, H, TR, OC, TS, RS, upd (upd CA (c * 4 + 2) (tt_b (tt_Pa p H 2 c ∧ ¬ H (c * 4 + 2) = 0) * tt_S (fun t => tt_b (tt_Ab p c t) * MD t) n)) (c * 4 + 3) (tt_b (tt_Pa p H 2 c ∧ ¬ H (c * 4 + 3) = 0) * tt_S (fun t => tt_b (tt_Ab p c t) * MD t) n), MD)) : wpY_each post (nI n, T, PP, D, H, TR, OC, TS, RS, CA, MD) (nI c) :=
  ⟨_, yy_e4 h hc hp n 0 0 (by omega) rfl⟩
