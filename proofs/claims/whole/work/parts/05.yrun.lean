section
variable {n : Nat} {p : Nat → Nat} {T D H TS OC TR : Nat → Int32} {g : Int32}
theorem tt_ev0 {i c : Nat} : tt_ev n p T D H TS OC TR g i c 0 = if c < i then tt_i (T c = 0) (tt_b (tt_Go n p T D H TS g c ∧ ¬ H (c * 4 + 0) = 0)) (tt_b (tt_Pa p H 2 c) * tt_md n p T D H TS OC TR g c) else 0 := if_pos rfl
theorem tt_ev1 {i c : Nat} : tt_ev n p T D H TS OC TR g i c 1 = if c < i then tt_b (T c = 0 ∧ tt_Go n p T D H TS g c ∧ ¬ H (c * 4 + 1) = 0) else 0 := by
  unfold tt_ev; rw [if_neg (by omega), if_pos rfl]
theorem tt_ev2 {i c w : Nat} (hw : 2 ≤ w) : tt_ev n p T D H TS OC TR g i c w = tt_b (tt_Pa p H 2 c ∧ ¬ H (c * 4 + w) = 0) * tt_S (fun t => tt_b (tt_Ab p c t) * tt_md n p T D H TS OC TR g t) i := by
  unfold tt_ev; rw [if_neg (by omega), if_neg (by omega)]
theorem tt_w2 {w : Nat} (h : w < 2) : w = 0 ∨ w = 1 := by omega
theorem tt_ev_ne {i c w : Nat} (hw : w < 2) (hc : c ≠ i) : tt_ev n p T D H TS OC TR g (i + 1) c w = tt_ev n p T D H TS OC TR g i c w := by
  have e : (c < i + 1) = (c < i) := propext ⟨fun z => by omega, fun z => by omega⟩
  rcases tt_w2 hw with rfl | rfl
  · rw [tt_ev0, tt_ev0]; simp only [e]
  · rw [tt_ev1, tt_ev1]; simp only [e]
theorem tt_ev_z {i c w : Nat} (hw : w < 2) (hc : i ≤ c) : tt_ev n p T D H TS OC TR g i c w = 0 := by
  rcases tt_w2 hw with rfl | rfl
  · rw [tt_ev0, if_neg (by omega)]
  · rw [tt_ev1, if_neg (by omega)]
theorem tt_ev0_c {i : Nat} (t : T i = 0) : tt_ev n p T D H TS OC TR g (i + 1) i 0 = tt_b (tt_Go n p T D H TS g i ∧ ¬ H (i * 4 + 0) = 0) := by
  rw [tt_ev0, if_pos (by omega), tt_i1 t]
theorem tt_ev0_t {i : Nat} (t : ¬ T i = 0) : tt_ev n p T D H TS OC TR g (i + 1) i 0 = tt_b (tt_Pa p H 2 i) * tt_md n p T D H TS OC TR g i := by
  rw [tt_ev0, if_pos (by omega), tt_i0 t]
theorem tt_ev1_s {i : Nat} : tt_ev n p T D H TS OC TR g (i + 1) i 1 = tt_b (T i = 0 ∧ tt_Go n p T D H TS g i ∧ ¬ H (i * 4 + 1) = 0) := by
  rw [tt_ev1, if_pos (by omega)]
theorem tt_ev2_s {i c w : Nat} (hw : 2 ≤ w) : tt_ev n p T D H TS OC TR g (i + 1) c w = tt_ev n p T D H TS OC TR g i c w + tt_b (tt_Pa p H 2 c ∧ ¬ H (c * 4 + w) = 0) * (tt_b (tt_Ab p c i) * tt_md n p T D H TS OC TR g i) := by
  rw [tt_ev2 hw, tt_ev2 hw, ← Int32.mul_add]; rfl
theorem tt_md1 {i : Nat} (t : ¬ T i = 0) (h : tt_Go n p T D H TS g i) : tt_md n p T D H TS OC TR g i = nI (tt_mr p H OC TR i).1 := tt_i1 ⟨t, h⟩
theorem tt_md0 {i : Nat} (h : ¬ (¬ T i = 0 ∧ tt_Go n p T D H TS g i)) : tt_md n p T D H TS OC TR g i = 0 := tt_i0 h
theorem tt_rs_c {i : Nat} (t : T i = 0) (h : tt_Go n p T D H TS g i) : tt_rs n p T D H TS OC TR g i = tt_g (fun o => H (i * 4 + 0) = o ∨ H (i * 4 + 1) = o) := (tt_i1 h).trans (tt_i1 t)
theorem tt_rs_t {i : Nat} (t : ¬ T i = 0) (h : tt_Go n p T D H TS g i) : tt_rs n p T D H TS OC TR g i = (tt_mr p H OC TR i).2 := (tt_i1 h).trans (tt_i0 t)
theorem tt_rs_0 {i : Nat} (h : ¬ tt_Go n p T D H TS g i) : tt_rs n p T D H TS OC TR g i = 0 := tt_i0 h
theorem tt_ife {f : Nat → Int32} {i c : Nat} (h : f i = 0) : (if c < i + 1 then f c else 0) = if c < i then f c else 0 := by
  by_cases e : c = i
  · subst e; rw [if_pos (by omega), if_neg (by omega), h]
  · by_cases q : c < i
    · rw [if_pos (by omega), if_pos q]
    · rw [if_neg (by omega), if_neg q]
theorem tt_ifu {f R : Nat → Int32} {i c : Nat} {x : Int32} (h : R c = if c < i then f c else 0) (hx : x = f i) : upd R i x c = if c < i + 1 then f c else 0 := by
  by_cases e : c = i
  · subst e; rw [pk_us, if_pos (by omega), hx]
  · rw [pk_un e, h]
    by_cases q : c < i
    · rw [if_pos q, if_pos (by omega)]
    · rw [if_neg q, if_neg (by omega)]
end
def tt_iv (n : Nat) (p : Nat → Nat) (T D H TS OC TR : Nat → Int32) (g : Int32) (i : Nat) (RS MD CA : Nat → Int32) : Prop :=
  (∀ c, c < 24 → RS c = if c < i then tt_rs n p T D H TS OC TR g c else 0) ∧ (∀ c, c < 24 → MD c = if c < i then tt_md n p T D H TS OC TR g c else 0) ∧ (∀ c w, c < 24 → w < 4 → CA (c * 4 + w) = if w < 2 then tt_ev n p T D H TS OC TR g i c w else 0)
section
variable {n : Nat} {p : Nat → Nat} {T D H TS OC TR : Nat → Int32} {g : Int32}
theorem tt_iv_no {i : Nat} {RS MD CA : Nat → Int32} (G : ¬ tt_Go n p T D H TS g i) (h : tt_iv n p T D H TS OC TR g i RS MD CA) : tt_iv n p T D H TS OC TR g (i + 1) RS MD CA := by
  refine ⟨fun c hc => (h.1 c hc).trans (tt_ife (tt_rs_0 G)).symm, fun c hc => (h.2.1 c hc).trans (tt_ife (tt_md0 (fun z => G z.2))).symm, fun c w hc hw => ?_⟩
  rw [h.2.2 c w hc hw]
  by_cases w2 : w < 2
  · rw [if_pos w2, if_pos w2]
    by_cases e : c = i
    · subst e
      rw [tt_ev_z w2 (Nat.le_refl c)]
      rcases tt_w2 w2 with rfl | rfl
      · by_cases t : T c = 0
        · rw [tt_ev0_c t, tt_b0 (fun z => G z.1)]
        · rw [tt_ev0_t t, tt_md0 (fun z => G z.2), Int32.mul_zero]
      · rw [tt_ev1_s, tt_b0 (fun z => G z.2.1)]
    · rw [tt_ev_ne w2 e]
  · rw [if_neg w2, if_neg w2]
theorem tt_iv_c {i : Nat} {RS MD CA : Nat → Int32} (t : T i = 0) (G : tt_Go n p T D H TS g i) (h : tt_iv n p T D H TS OC TR g i RS MD CA) : tt_iv n p T D H TS OC TR g (i + 1) (upd RS i (tt_g (fun o => H (i * 4 + 0) = o ∨ H (i * 4 + 1) = o))) MD (upd (upd CA (i * 4 + 0) (tt_b (¬ H (i * 4 + 0) = 0))) (i * 4 + 1) (tt_b (¬ H (i * 4 + 1) = 0))) := by
  refine ⟨fun c hc => tt_ifu (h.1 c hc) (tt_rs_c t G).symm, fun c hc => (h.2.1 c hc).trans (tt_ife (tt_md0 (fun z => z.1 t))).symm, fun c w hc hw => ?_⟩
  by_cases w2 : w < 2
  · rw [if_pos w2]
    by_cases e : c = i
    · subst e
      rcases tt_w2 w2 with rfl | rfl
      · rw [tt_ev0_c t, pk_un (by omega), pk_us]
        exact tt_bc ⟨fun z => ⟨G, z⟩, fun z => z.2⟩
      · rw [tt_ev1_s, pk_us]
        exact tt_bc ⟨fun z => ⟨t, G, z⟩, fun z => z.2.2⟩
    · rw [tt_ev_ne w2 e, pk_un (by omega), pk_un (by omega), h.2.2 c w hc hw, if_pos w2]
  · rw [pk_un (by omega), pk_un (by omega), h.2.2 c w hc hw, if_neg w2, if_neg w2]
theorem tt_iv_t {i : Nat} {RS MD CA : Nat → Int32} (t : ¬ T i = 0) (G : tt_Go n p T D H TS g i) (h : tt_iv n p T D H TS OC TR g i RS MD CA) : tt_iv n p T D H TS OC TR g (i + 1) (upd RS i (tt_mr p H OC TR i).2) (upd MD i (nI (tt_mr p H OC TR i).1)) (upd CA (i * 4 + 0) (tt_b (tt_Pa p H 2 i) * nI (tt_mr p H OC TR i).1)) := by
  refine ⟨fun c hc => tt_ifu (h.1 c hc) (tt_rs_t t G).symm, fun c hc => tt_ifu (h.2.1 c hc) (tt_md1 t G).symm, fun c w hc hw => ?_⟩
  by_cases w2 : w < 2
  · rw [if_pos w2]
    by_cases e : c = i
    · subst e
      rcases tt_w2 w2 with rfl | rfl
      · rw [tt_ev0_t t, pk_us, tt_md1 t G]
      · rw [tt_ev1_s, pk_un (by omega), tt_b0 (fun z => t z.1), h.2.2 c 1 hc hw, if_pos w2, tt_ev_z w2 (Nat.le_refl c)]
    · rw [tt_ev_ne w2 e, pk_un (by omega), h.2.2 c w hc hw, if_pos w2]
  · rw [pk_un (by omega), h.2.2 c w hc hw, if_neg w2, if_neg w2]
theorem tt_ev_none {c w : Nat} (h : ∀ t, t < n → ¬ tt_Ab p c t) (hw : 2 ≤ w) : tt_ev n p T D H TS OC TR g n c w = 0 := by
  rw [tt_ev2 hw, tt_S_z n (fun t ht => by rw [tt_b0 (h t ht), Int32.zero_mul]), Int32.mul_zero]
theorem tt_Ab_T (hp : tt_Hp p) (hq : ∀ i, 0 < i → i < n → T (p i) = 0) {c : Nat} : ∀ t, t < n → tt_Ab p c t → T c = 0 := by
  intro t
  induction t using Nat.strongRecOn with
  | ind t ih =>
    intro ht h
    have h0 := tt_Ab_pos h
    have h1 := hp t h0
    rcases (tt_Ab_s hp h0).mp h with e | e
    · exact e ▸ hq t h0 ht
    · exact ih _ h1 (by omega) e
theorem tt_Wn_c {i : Nat} (t : T i = 0) : tt_Wn n p T D TS g i ↔ ∃ t, t < n ∧ tt_Ab p i t ∧ tt_Se p T D TS g t :=
  ⟨fun z => z.elim (fun y => absurd t y.1) id, Or.inr⟩
theorem tt_Wn_t (hp : tt_Hp p) (hq : ∀ i, 0 < i → i < n → T (p i) = 0) {i : Nat} (t : ¬ T i = 0) : tt_Wn n p T D TS g i ↔ tt_Se p T D TS g i :=
  ⟨fun z => z.elim id (fun ⟨q, a, b, _⟩ => absurd (tt_Ab_T hp hq q a b) t), Or.inl⟩
end
theorem yy_r128 {post : Int32 → SY → Prop} {T PP D H TR OC TS RS MD : Nat → Int32} {n : Nat} {p : Nat → Nat} {g : Int32} (h : tt_PY n p PP) (hq : ∀ i, 0 < i → i < n → T (p i) = 0) (hM : ∀ t, t < n → MD t = tt_md n p T D H TS OC TR g t) (hp : ∀ CA : Nat → Int32, (∀ c w, c < 24 → w < 4 → CA (c * 4 + w) = tt_ev n p T D H TS OC TR g n c w) → post (tt_ct T RS 2 n) (nI n, T, PP, D, H, TR, OC, TS, RS, CA, MD)) : ∀ d i (CA : Nat → Int32), i + d = n → (∀ c w, c < 24 → w < 4 → CA (c * 4 + w) = if w < 2 then tt_ev n p T D H TS OC TR g n c w else if c < i then tt_ev n p T D H TS OC TR g n c w else 0) → wY_run_128 post (d + 1) (nI i) (nI n) T PP D H TR OC TS RS CA MD := by
  have hn := h.1
  intro d
  induction d with
  | zero =>
    intro i CA hi hv
    refine br_t (nI_le (by omega) (by omega)) (yy_count hn 2 (by decide) (hp CA (fun c w hc hw => ?_)))
    rw [hv c w hc hw]
    by_cases w2 : w < 2
    · rw [if_pos w2]
    · rw [if_neg w2]
      by_cases q : c < i
      · rw [if_pos q]
      · rw [if_neg q, tt_ev_none (fun t ht a => by have := tt_Ab_lt h.2.1 t a; omega) (by omega)]
  | succ d ih =>
    intro i CA hi hv
    refine br_f (nI_ge (by omega) (by omega)) ⟨vp_in_nI (by omega) (by omega), ?_⟩
    rw [tt_at T (by omega)]
    by_cases t : T i = 0
    · have eS : tt_S (fun t => tt_b (tt_Ab p i t) * MD t) n = tt_S (fun t => tt_b (tt_Ab p i t) * tt_md n p T D H TS OC TR g t) n := tt_S_c n (fun j hj => by rw [hM j hj])
      refine br_t t (yy_each h (by omega) (nm_r (nI_1 i) (ih (i + 1) _ (by omega) (fun c w hc hw => ?_))))
      rw [eS]
      by_cases w2 : w < 2
      · rw [if_pos w2, pk_un (by omega), pk_un (by omega), hv c w hc hw, if_pos w2]
      · rw [if_neg w2]
        by_cases e : c = i
        · subst e
          rw [if_pos (by omega), tt_ev2 (by omega)]
          have : w = 2 ∨ w = 3 := by omega
          rcases this with rfl | rfl
          · rw [pk_un (by omega), pk_us]
          · rw [pk_us]
        · rw [pk_un (by omega), pk_un (by omega), hv c w hc hw, if_neg w2]
          by_cases q : c < i
          · rw [if_pos q, if_pos (by omega)]
          · rw [if_neg q, if_neg (by omega)]
    · refine br_f t (nm_r (nI_1 i) (ih (i + 1) CA (by omega) (fun c w hc hw => ?_)))
      rw [hv c w hc hw]
      by_cases w2 : w < 2
      · rw [if_pos w2, if_pos w2]
      · rw [if_neg w2, if_neg w2]
        by_cases e : c = i
        · subst e
          rw [if_neg (by omega), if_pos (by omega), tt_ev_none (fun q hq' a => t (tt_Ab_T h.2.1 hq q hq' a)) (by omega)]
        · by_cases q : c < i
          · rw [if_pos q, if_pos (by omega)]
          · rw [if_neg q, if_neg (by omega)]
theorem yy_r51 {post : Int32 → SY → Prop} {T PP D H TR OC TS : Nat → Int32} {n : Nat} {p : Nat → Nat} {g : Int32} (h : tt_PY n p PP) (hq : ∀ i, 0 < i → i < n → T (p i) = 0) (hK : ∀ t, t < n → ¬ T t = 0 → ∃ K, K < 2 ^ 31 ∧ TR t = nI K) (hp : ∀ RS MD CA : Nat → Int32, (∀ c, c < 24 → RS c = if c < n then tt_rs n p T D H TS OC TR g c else 0) → (∀ c, c < 24 → MD c = if c < n then tt_md n p T D H TS OC TR g c else 0) → (∀ c w, c < 24 → w < 4 → CA (c * 4 + w) = tt_ev n p T D H TS OC TR g n c w) → post (tt_ct T RS 2 n) (nI n, T, PP, D, H, TR, OC, TS, RS, CA, MD)) : ∀ d i (RS MD CA : Nat → Int32), i + d = n → tt_iv n p T D H TS OC TR g i RS MD CA → wY_run_51 post g (d + 1) (nI i) (nI n) T PP D H TR OC TS RS CA MD := by
  have hn := h.1
  intro d
  induction d with
  | zero =>
    intro i RS MD CA hi hv
    have e : i = n := by omega
    subst e
    refine br_t (nI_le (by omega) (by omega)) ⟨i + 1, yy_r128 (g := g) h hq (fun t ht => by rw [hv.2.1 t (by omega), if_pos ht]) (fun CA' hC => hp RS MD CA' hv.1 hv.2.1 hC) i 0 CA (by omega) (fun c w hc hw => ?_)⟩
    rw [hv.2.2 c w hc hw, if_neg (c := c < 0) (by omega)]
  | succ d ih =>
    intro i RS MD CA hi hv
    have hi24 : vp_in (nI i) 24 := vp_in_nI (by omega) (by omega)
    have no : ¬ tt_Go n p T D H TS g i → ∀ x, x = nI i + 1 → wY_run_51 post g (d + 1) x (nI n) T PP D H TR OC TS RS CA MD := fun G => nm_r (nI_1 i) (ih (i + 1) RS MD CA (by omega) (tt_iv_no G hv))
    by_cases t : T i = 0
    · have t' : T (nI i).toNatClampNeg = 0 := (tt_at T (by omega)).trans t
      refine br_f (nI_ge (by omega) (by omega)) (yy_passes (w := 0) h (by omega) (by omega) (fun a => ⟨hi24, br_t t' ⟨hi24, br_t t' (br_f (by decide) ?_)⟩⟩) (fun a => ⟨hi24, br_t t' ⟨hi24, br_t t' (br_t rfl (no (fun z => a z.2)))⟩⟩))
      refine yy_inUse h (by omega) (fun us => br_f (by decide) ?_) (fun us => br_t rfl (no (fun z => us ((tt_Wn_c t).mp z.1))))
      exact yy_runContainer (by omega) (nm_r (nI_1 i) (ih (i + 1) _ _ _ (by omega) (tt_iv_c t ⟨(tt_Wn_c t).mpr us, a⟩ hv)))
    · have t' : ¬ T (nI i).toNatClampNeg = 0 := fun z => t ((tt_at T (by omega)).symm.trans z)
      refine br_f (nI_ge (by omega) (by omega)) (yy_passes (w := 0) h (by omega) (by omega) (fun a => ⟨hi24, br_f t' (br_f (by decide) ?_)⟩) (fun a => ⟨hi24, br_f t' (br_t rfl ⟨hi24, br_f t' (no (fun z => a z.2))⟩)⟩))
      refine yy_selected h (by omega) (fun se => br_f (by decide) ?_) (fun se => br_t rfl ⟨hi24, br_f t' (no (fun z => se ((tt_Wn_t h.2.1 hq t).mp z.1)))⟩)
      obtain ⟨K, k1, k2⟩ := hK i (by omega) t
      exact yy_runTest h (by omega) k1 k2 ⟨hi24, br_f t' (nm_r (nI_1 i) (ih (i + 1) _ _ _ (by omega) (tt_iv_t t ⟨Or.inl se, a⟩ hv)))⟩
theorem yy_r23 {post : Int32 → SY → Prop} {T PP D H TR OC TS : Nat → Int32} {n : Nat} {p : Nat → Nat} {g : Int32} (h : tt_PY n p PP) (hq : ∀ i, 0 < i → i < n → T (p i) = 0) (hK : ∀ t, t < n → ¬ T t = 0 → ∃ K, K < 2 ^ 31 ∧ TR t = nI K) (hp : ∀ RS MD CA : Nat → Int32, (∀ c, c < 24 → RS c = if c < n then tt_rs n p T D H TS OC TR g c else 0) → (∀ c, c < 24 → MD c = if c < n then tt_md n p T D H TS OC TR g c else 0) → (∀ c w, c < 24 → w < 4 → CA (c * 4 + w) = tt_ev n p T D H TS OC TR g n c w) → post (tt_ct T RS 2 n) (nI n, T, PP, D, H, TR, OC, TS, RS, CA, MD)) (CA : Nat → Int32) (hC : ∀ s, s < 96 → CA s = 0) : ∀ d i (RS MD : Nat → Int32), i + d = 24 → (∀ c, c < i → RS c = 0 ∧ MD c = 0) → wY_run_23 post g (nI n) (d + 1) (nI i) T PP D H TR OC TS RS CA MD := by
  intro d
  induction d with
  | zero =>
    intro i RS MD hi hv
    have e : i = 24 := by omega
    subst e
    refine br_t (by decide) ⟨n + 1, yy_r51 h hq hK hp n 0 RS MD CA (by omega) ⟨fun c hc => ?_, fun c hc => ?_, fun c w hc hw => ?_⟩⟩
    · rw [if_neg (by omega)]; exact (hv c hc).1
    · rw [if_neg (by omega)]; exact (hv c hc).2
    · rw [hC _ (by omega)]
      by_cases w2 : w < 2
      · rw [if_pos w2, tt_ev_z w2 (by omega)]
      · rw [if_neg w2]
  | succ d ih =>
    intro i RS MD hi hv
    have hi24 : vp_in (nI i) 24 := vp_in_nI (by omega) (by omega)
    refine br_f (nI_ge (b := 24) (by omega) (by omega)) ⟨hi24, nm_r (tt_un RS _ (by omega)) ⟨hi24, nm_r (tt_un MD _ (by omega)) (nm_r (nI_1 i) (ih (i + 1) _ _ (by omega) (fun c hc => ?_)))⟩⟩
    by_cases e : c = i
    · subst e; rw [pk_us, pk_us]; exact ⟨rfl, rfl⟩
    · rw [pk_un e, pk_un e]; exact hv c (by omega)
theorem yy_r2 {post : Int32 → SY → Prop} {T PP D H TR OC TS RS MD : Nat → Int32} {n : Nat} {p : Nat → Nat} {g : Int32} (h : tt_PY n p PP) (hq : ∀ i, 0 < i → i < n → T (p i) = 0) (hK : ∀ t, t < n → ¬ T t = 0 → ∃ K, K < 2 ^ 31 ∧ TR t = nI K) (hp : ∀ RS MD CA : Nat → Int32, (∀ c, c < 24 → RS c = if c < n then tt_rs n p T D H TS OC TR g c else 0) → (∀ c, c < 24 → MD c = if c < n then tt_md n p T D H TS OC TR g c else 0) → (∀ c w, c < 24 → w < 4 → CA (c * 4 + w) = tt_ev n p T D H TS OC TR g n c w) → post (tt_ct T RS 2 n) (nI n, T, PP, D, H, TR, OC, TS, RS, CA, MD)) : ∀ d i (CA : Nat → Int32), i + d = 96 → (∀ c, c < i → CA c = 0) → wY_run_2 post g (nI n) (d + 1) (nI i) T PP D H TR OC TS RS CA MD := by
  intro d
  induction d with
  | zero =>
    intro i CA hi hv
    have e : i = 96 := by omega
    subst e
    exact br_t (by decide) ⟨25, yy_r23 h hq hK hp CA hv 24 0 RS MD (by omega) (fun c hc => absurd hc (by omega))⟩
  | succ d ih =>
    intro i CA hi hv
    refine br_f (nI_ge (b := 96) (by omega) (by omega)) ⟨vp_in_nI (by omega) (by omega), nm_r (tt_un CA _ (by omega)) (nm_r (nI_1 i) (ih (i + 1) _ (by omega) (fun c hc => ?_)))⟩
    by_cases e : c = i
    · subst e; rw [pk_us]
    · rw [pk_un e]; exact hv c (by omega)
theorem yy_run {post : Int32 → SY → Prop} {T PP D H TR OC TS RS CA MD : Nat → Int32} {n : Nat} {p : Nat → Nat} {g : Int32} (h : tt_PY n p PP) (hq : ∀ i, 0 < i → i < n → T (p i) = 0) (hK : ∀ t, t < n → ¬ T t = 0 → ∃ K, K < 2 ^ 31 ∧ TR t = nI K) (hp : ∀ RS MD CA : Nat → Int32, (∀ c, c < 24 → RS c = if c < n then tt_rs n p T D H TS OC TR g c else 0) → (∀ c, c < 24 → MD c = if c < n then tt_md n p T D H TS OC TR g c else 0) → (∀ c w, c < 24 → w < 4 → CA (c * 4 + w) = tt_ev n p T D H TS OC TR g n c w) → post (tt_ct T RS 2 n) (nI n, T, PP, D, H, TR, OC, TS, RS, CA, MD)) : wpY_run post (nI n, T, PP, D, H, TR, OC, TS, RS, CA, MD) g :=
  ⟨97, yy_r2 h hq hK hp 96 0 CA (by omega) (fun c hc => absurd hc (by omega))⟩
