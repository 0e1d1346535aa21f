theorem xx_rc26 {post : SX → Prop} {nc : Int32} {P T D H AA BO TG R TD AM RE WA RC WU : Nat → Int32} {c : Nat} (hc : c < 24) {a z : Int32} (hp : ∀ TD' : Nat → Int32, (∀ c' w', w' < 4 → TD' (c' * 4 + w') = TD (c' * 4 + w') + tt_b (c' = c ∧ w' = 1 ∧ ¬ H (c * 4 + 1) = 0)) → post (nc, tt_S TD' 96, P, T, D, H, AA, BO, TG, upd R c (tt_g (fun o => a = o ∨ H (c * 4 + 1) = o)), TD', AM, RE, WA, upd RC c (vp_nar .boolean z), WU)) : wX_runContainer_26 post (nI c) a z (nI c) nc (tt_S TD 96) P T D H AA BO TG R TD AM RE WA RC WU := by
  have hv : vp_in (nI c) 24 := vp_in_nI hc (by omega)
  exact ⟨hv, nm_r (tt_un RC _ (by omega)) (xx_hk (w := 1) hc (by omega) (fun TD' h => xx_worse ⟨hv, nm_r (tt_un R _ (by omega)) (hp TD' h)⟩))⟩
theorem xx_runContainer {post : SX → Prop} {nc : Int32} {P T D H AA BO TG R TD AM RE WA RC WU : Nat → Int32} (hr : ∀ s, H s = 0 ∨ H s = 1 ∨ H s = 2 ∨ H s = 3) {c : Nat} (hc : c < 24) (hp : ∀ (TD' : Nat → Int32) (v : Int32), (∀ c' w', w' < 4 → TD' (c' * 4 + w') = TD (c' * 4 + w') + tt_b ((c' = c ∧ w' = 0 ∧ ¬ H (c * 4 + 0) = 0) ∨ (c' = c ∧ w' = 1 ∧ ¬ H (c * 4 + 1) = 0))) → (¬ v = 0 ↔ H (c * 4 + 0) ≤ 1) → post (nc, tt_S TD' 96, P, T, D, H, AA, BO, TG, upd R c (tt_g (fun o => H (c * 4 + 0) = o ∨ H (c * 4 + 1) = o)), TD', AM, RE, WA, upd RC c v, WU)) : wpX_runContainer post (nc, tt_S TD 96, P, T, D, H, AA, BO, TG, R, TD, AM, RE, WA, RC, WU) (nI c) := by
  unfold wpX_runContainer; dsimp only
  refine xx_hk (w := 0) hc (by omega) (fun TD1 h1 => ?_)
  have all : ∀ z, (¬ vp_nar .boolean z = 0 ↔ H (c * 4 + 0) ≤ 1) → wX_runContainer_26 post (nI c) (H (c * 4 + 0)) z (nI c) nc (tt_S TD1 96) P T D H AA BO TG R TD1 AM RE WA RC WU := by
    intro z hz
    refine xx_rc26 hc (fun TD' h' => hp TD' _ (fun c' w' hw => ?_) hz)
    rw [h' c' w' hw, h1 c' w' hw, tt_bor (fun a b => by omega), Int32.add_assoc]
  refine br_c (fun e => all 1 ?_) (fun e => br_c (fun e1 => all 1 ?_) (fun e1 => all 0 ?_))
  · rw [tt_n1, e]; decide
  · rw [tt_n1, e1]; decide
  · rw [tt_n0]
    refine ⟨fun z => absurd rfl z, fun z => ?_⟩
    rcases hr (c * 4 + 0) with q | q | q | q
    · exact absurd q e
    · exact absurd q e1
    · exact absurd z (tt_nle1 (Or.inl q))
    · exact absurd z (tt_nle1 (Or.inr q))
section
variable {n : Nat} {p : Nat → Nat} {T D H TS OC TR : Nat → Int32} {g : Int32}
theorem tt_ev_no {i c w : Nat} (G : ¬ tt_Go n p T D H TS g i) : tt_ev n p T D H TS OC TR g (i + 1) c w = tt_ev n p T D H TS OC TR g i c w := by
  by_cases w2 : w < 2
  · by_cases e : c = i
    · subst e
      rw [tt_ev_z w2 (Nat.le_refl c)]
      rcases tt_w2 w2 with rfl | rfl
      · by_cases t : T c = 0
        · rw [tt_ev0_c t, tt_b0 (fun z => G z.1)]
        · rw [tt_ev0_t t, tt_md0 (fun z => G z.2), Int32.mul_zero]
      · rw [tt_ev1_s, tt_b0 (fun z => G z.2.1)]
    · rw [tt_ev_ne w2 e]
  · rw [tt_ev2_s (by omega), tt_md0 (fun z => G z.2), Int32.mul_zero, Int32.mul_zero, Int32.add_zero]
theorem tt_ev_c {i c w : Nat} (t : T i = 0) (G : tt_Go n p T D H TS g i) : tt_ev n p T D H TS OC TR g (i + 1) c w = tt_ev n p T D H TS OC TR g i c w + tt_b ((c = i ∧ w = 0 ∧ ¬ H (i * 4 + 0) = 0) ∨ (c = i ∧ w = 1 ∧ ¬ H (i * 4 + 1) = 0)) := by
  by_cases w2 : w < 2
  · by_cases e : c = i
    · subst e
      rw [tt_ev_z (i := c) w2 (Nat.le_refl c), Int32.zero_add]
      rcases tt_w2 w2 with rfl | rfl
      · rw [tt_ev0_c t]
        exact tt_bc ⟨fun z => Or.inl ⟨rfl, rfl, z.2⟩, fun z => z.elim (fun y => ⟨G, y.2.2⟩) (fun y => absurd y.2.1 (by omega))⟩
      · rw [tt_ev1_s]
        exact tt_bc ⟨fun z => Or.inr ⟨rfl, rfl, z.2.2⟩, fun z => z.elim (fun y => absurd y.2.1 (by omega)) (fun y => ⟨t, G, y.2.2⟩)⟩
    · rw [tt_ev_ne w2 e, tt_b0 (fun z => z.elim (fun y => e y.1) (fun y => e y.1)), Int32.add_zero]
  · rw [tt_ev2_s (by omega), tt_md0 (fun z => z.1 t), Int32.mul_zero, Int32.mul_zero, tt_b0 (fun z => by omega)]
theorem tt_ev_t {i c w : Nat} (t : ¬ T i = 0) (G : tt_Go n p T D H TS g i) : tt_ev n p T D H TS OC TR g (i + 1) c w = tt_ev n p T D H TS OC TR g i c w + nI (tt_mr p H OC TR i).1 * tt_b (tt_FF p H i c w) := by
  by_cases w2 : w < 2
  · by_cases e : c = i
    · subst e
      rw [tt_ev_z (i := c) w2 (Nat.le_refl c), Int32.zero_add]
      rcases tt_w2 w2 with rfl | rfl
      · rw [tt_ev0_t t, tt_md1 t G, Int32.mul_comm]
        have e : tt_b (tt_Pa p H 2 c) = tt_b (tt_FF p H c c 0) := tt_bc ⟨fun z => Or.inl ⟨rfl, rfl, z⟩, fun z => z.elim (fun y => y.2.2) (fun y => absurd y.1 (by omega))⟩
        rw [e]
      · rw [tt_ev1_s, tt_b0 (fun z => t z.1)]
        have e : tt_b (tt_FF p H c c 1) = 0 := tt_b0 (fun z => z.elim (fun y => absurd y.1 (by omega)) (fun y => absurd y.1 (by omega)))
        rw [e, Int32.mul_zero]
    · have e : tt_b (tt_FF p H i c w) = 0 := tt_b0 (fun z => z.elim (fun y => e y.2.1) (fun y => absurd y.1 (by omega)))
      rw [tt_ev_ne w2 (by assumption), e, Int32.mul_zero, Int32.add_zero]
  · have e : tt_b (tt_FF p H i c w) = tt_b ((tt_Pa p H 2 c ∧ ¬ H (c * 4 + w) = 0) ∧ tt_Ab p c i) := tt_bc ⟨fun z => z.elim (fun y => absurd y.1 (by omega)) (fun y => ⟨y.2.2, y.2.1⟩), fun z => Or.inr ⟨by omega, z.2, z.1⟩⟩
    rw [tt_ev2_s (by omega), tt_md1 t G, e, tt_band (P := tt_Pa p H 2 c ∧ ¬ H (c * 4 + w) = 0), Int32.mul_comm (nI _), Int32.mul_assoc]
end
def tt_xv (n : Nat) (p : Nat → Nat) (T D H TS OC TR : Nat → Int32) (g : Int32) (i : Nat) (R AM TD RC : Nat → Int32) : Prop :=
  (∀ c, c < 24 → R c = if c < i then tt_rs n p T D H TS OC TR g c else 0) ∧ (∀ c, c < 24 → AM c = if c < i then tt_md n p T D H TS OC TR g c else 0) ∧ (∀ c w, c < 24 → w < 4 → TD (c * 4 + w) = tt_ev n p T D H TS OC TR g i c w) ∧ (∀ c, c < i → (¬ RC c = 0 ↔ T c = 0 ∧ tt_Go n p T D H TS g c ∧ H (c * 4 + 0) ≤ 1)) ∧ (∀ c, i ≤ c → c < 24 → RC c = 0)
section
variable {n : Nat} {p : Nat → Nat} {T D H TS OC TR : Nat → Int32} {g : Int32}
theorem tt_xv_no {i : Nat} {R AM TD RC : Nat → Int32} (hi : i < 24) (G : ¬ tt_Go n p T D H TS g i) (h : tt_xv n p T D H TS OC TR g i R AM TD RC) : tt_xv n p T D H TS OC TR g (i + 1) R AM TD RC := by
  refine ⟨fun c hc => (h.1 c hc).trans (tt_ife (tt_rs_0 G)).symm, fun c hc => (h.2.1 c hc).trans (tt_ife (tt_md0 (fun z => G z.2))).symm, fun c w hc hw => ?_, fun c hc => ?_, fun c hc h24 => h.2.2.2.2 c (by omega) h24⟩
  · rw [h.2.2.1 c w hc hw, tt_ev_no G]
  · by_cases e : c = i
    · subst e
      exact ⟨fun z => absurd (h.2.2.2.2 c (Nat.le_refl c) hi) z, fun z => absurd z.2.1 G⟩
    · exact h.2.2.2.1 c (by omega)
theorem tt_xv_c {i : Nat} {R AM TD TD' RC : Nat → Int32} {v : Int32} (t : T i = 0) (G : tt_Go n p T D H TS g i) (hT : ∀ c' w', w' < 4 → TD' (c' * 4 + w') = TD (c' * 4 + w') + tt_b ((c' = i ∧ w' = 0 ∧ ¬ H (i * 4 + 0) = 0) ∨ (c' = i ∧ w' = 1 ∧ ¬ H (i * 4 + 1) = 0))) (hv : ¬ v = 0 ↔ H (i * 4 + 0) ≤ 1) (h : tt_xv n p T D H TS OC TR g i R AM TD RC) : tt_xv n p T D H TS OC TR g (i + 1) (upd R i (tt_g (fun o => H (i * 4 + 0) = o ∨ H (i * 4 + 1) = o))) AM TD' (upd RC i v) := by
  refine ⟨fun c hc => tt_ifu (h.1 c hc) (tt_rs_c t G).symm, fun c hc => (h.2.1 c hc).trans (tt_ife (tt_md0 (fun z => z.1 t))).symm, fun c w hc hw => ?_, fun c hc => ?_, fun c hc h24 => by rw [pk_un (by omega)]; exact h.2.2.2.2 c (by omega) h24⟩
  · rw [hT c w hw, h.2.2.1 c w hc hw, tt_ev_c t G]
  · by_cases e : c = i
    · subst e
      rw [pk_us, hv]
      exact ⟨fun z => ⟨t, G, z⟩, fun z => z.2.2⟩
    · rw [pk_un e]; exact h.2.2.2.1 c (by omega)
theorem tt_xv_t {i : Nat} {R AM TD TD' RC : Nat → Int32} (hi : i < 24) (t : ¬ T i = 0) (G : tt_Go n p T D H TS g i) (hT : ∀ c' w', w' < 4 → TD' (c' * 4 + w') = TD (c' * 4 + w') + nI (tt_mr p H OC TR i).1 * tt_b (tt_FF p H i c' w')) (h : tt_xv n p T D H TS OC TR g i R AM TD RC) : tt_xv n p T D H TS OC TR g (i + 1) (upd R i (tt_mr p H OC TR i).2) (upd AM i (nI (tt_mr p H OC TR i).1)) TD' RC := by
  refine ⟨fun c hc => tt_ifu (h.1 c hc) (tt_rs_t t G).symm, fun c hc => tt_ifu (h.2.1 c hc) (tt_md1 t G).symm, fun c w hc hw => ?_, fun c hc => ?_, fun c hc h24 => h.2.2.2.2 c (by omega) h24⟩
  · rw [hT c w hw, h.2.2.1 c w hc hw, tt_ev_t t G]
  · by_cases e : c = i
    · subst e
      exact ⟨fun z => absurd (h.2.2.2.2 c (Nat.le_refl c) hi) z, fun z => absurd z.1 t⟩
    · exact h.2.2.2.1 c (by omega)
end
theorem xx_rw2 {post : SX → Prop} {P T D H AA BO TG RE WA : Nat → Int32} {n : Nat} {p : Nat → Nat} {TS OC TR : Nat → Int32} {g : Int32} (h : tt_PX n p P) (hq : ∀ i, 0 < i → i < n → T (p i) = 0) (hr : ∀ s, H s = 0 ∨ H s = 1 ∨ H s = 2 ∨ H s = 3) (hB : tt_Bd n T AA BO TG TR OC TS) (hWA : ∀ i, i < n → (¬ WA i = 0 ↔ tt_Wn n p T D TS g i))
  (hp : ∀ R AM TD RC WU : Nat → Int32, tt_xv n p T D H TS OC TR g n R AM TD RC → post (nI n, tt_S TD 96, P, T, D, H, AA, BO, TG, R, TD, AM, RE, WA, RC, WU)) : ∀ d i (R AM TD RC WU : Nat → Int32), i + d = n → tt_xv n p T D H TS OC TR g i R AM TD RC → wX_runWanted_2 post (d + 1) (nI i) (nI n) (tt_S TD 96) P T D H AA BO TG R TD AM RE WA RC WU := by
  have hn := h.1
  intro d
  induction d with
  | zero =>
    intro i R AM TD RC WU hi hv
    have e : i = n := by omega
    subst e
    exact br_t (nI_le (by omega) (by omega)) (hp R AM TD RC WU hv)
  | succ d ih =>
    intro i R AM TD RC WU hi hv
    have hi24 : vp_in (nI i) 24 := vp_in_nI (by omega) (by omega)
    have no : ¬ tt_Go n p T D H TS g i → ∀ x, x = nI i + 1 → wX_runWanted_2 post (d + 1) x (nI n) (tt_S TD 96) P T D H AA BO TG R TD AM RE WA RC WU := fun G => nm_r (nI_1 i) (ih (i + 1) R AM TD RC WU (by omega) (tt_xv_no (by omega) G hv))
    have main : ∀ z0, (tt_Wn n p T D TS g i → (¬ z0 = 0 ↔ tt_Pa p H 0 i)) → wX_runWanted_33 post (wX_runWanted_2 post (d + 1)) (nI i) z0 (nI n) (tt_S TD 96) P T D H AA BO TG R TD AM RE WA RC WU := by
      intro z0 hz
      refine ⟨hi24, ?_⟩
      rw [tt_at WA (by omega), tt_at T (by omega)]
      refine br_c (fun a => no (fun G => (hWA i (by omega)).mpr G.1 a)) (fun a => br_c (fun b => no (fun G => (hz G.1).mpr G.2 b)) (fun b => ⟨hi24, br_c (fun t => ?_) (fun t => ?_)⟩))
      · have wn := (hWA i (by omega)).mp a
        exact xx_runContainer hr (by omega) (fun TD' v h1 h2 => nm_r (nI_1 i) (ih (i + 1) _ _ _ _ _ (by omega) (tt_xv_c t ⟨wn, (hz wn).mp b⟩ h1 h2 hv)))
      · have wn := (hWA i (by omega)).mp a
        obtain ⟨_, K, k1, k2, k3, k4⟩ := hB.1 i (by omega) t
        exact xx_runTest (OC := OC) (TR := TR) h hr (by omega) k1 k2 k3 k4 (fun TD' WU' h1 => nm_r (nI_1 i) (ih (i + 1) _ _ _ _ _ (by omega) (tt_xv_t (by omega) t ⟨wn, (hz wn).mp b⟩ h1 hv)))
    refine br_f (nI_ge (by omega) (by omega)) ?_
    by_cases z : i = 0
    · refine br_t (by rw [z]; rfl) (main 1 (fun _ => ⟨fun _ => ?_, fun _ => by decide⟩))
      rw [z]; exact tt_Pa_0
    · have h0 : 0 < i := by omega
      have hpi := h.2.1 i h0
      refine br_f (nI_ne0 h0 (by omega)) ⟨hi24, ?_⟩
      rw [tt_at P (by omega), h.2.2 i h0 (by omega), tt_at RC (by omega)]
      have key : tt_Wn n p T D TS g i → (¬ RC (p i) = 0 ↔ tt_Pa p H 0 i) := by
        intro wn
        rw [hv.2.2.2.1 (p i) hpi, tt_Pa_s h.2.1 h0]
        exact ⟨fun y => ⟨y.2.2, y.2.1.2⟩, fun y => ⟨hq i h0 (by omega), ⟨tt_Wn_up h.2.1 h0 (by omega) wn, y.2⟩, y.1⟩⟩
      refine ⟨vp_in_nI (by omega) (by omega), br_c (fun b => main 0 (fun wn => ?_)) (fun b => main 1 (fun wn => ?_))⟩
      · rw [← key wn]; exact ⟨fun y => absurd rfl y, fun y => absurd b y⟩
      · rw [← key wn]; exact ⟨fun _ => b, fun _ => by decide⟩
theorem xx_runWanted {post : SX → Prop} {sd : Int32} {P T D H AA BO TG R TD AM RE WA RC WU : Nat → Int32} {n : Nat} {p : Nat → Nat} {TS OC TR : Nat → Int32} {g : Int32} (h : tt_PX n p P) (hq : ∀ i, 0 < i → i < n → T (p i) = 0) (hr : ∀ s, H s = 0 ∨ H s = 1 ∨ H s = 2 ∨ H s = 3) (hB : tt_Bd n T AA BO TG TR OC TS) (hWA : ∀ i, i < n → (¬ WA i = 0 ↔ tt_Wn n p T D TS g i)) (hs : sd = tt_S TD 96) (h0 : tt_xv n p T D H TS OC TR g 0 R AM TD RC)
  (hp : ∀ R AM TD RC WU : Nat → Int32, tt_xv n p T D H TS OC TR g n R AM TD RC → post (nI n, tt_S TD 96, P, T, D, H, AA, BO, TG, R, TD, AM, RE, WA, RC, WU)) : wpX_runWanted post (nI n, sd, P, T, D, H, AA, BO, TG, R, TD, AM, RE, WA, RC, WU) := by
  subst hs
  exact ⟨n + 1, xx_rw2 h hq hr hB hWA hp n 0 R AM TD RC WU (by omega) h0⟩
theorem xx_run {post : Int32 → SX → Prop} {sd : Int32} {P T D H AA BO TG R TD AM RE WA RC WU : Nat → Int32} {n : Nat} {p : Nat → Nat} {TS OC TR : Nat → Int32} {g : Int32} (h : tt_PX n p P) (h1 : 1 ≤ n) (hq : ∀ i, 0 < i → i < n → T (p i) = 0) (hr : ∀ s, H s = 0 ∨ H s = 1 ∨ H s = 2 ∨ H s = 3) (hB : tt_Bd n T AA BO TG TR OC TS)
  (hp : ∀ R AM TD RE WA RC WU : Nat → Int32, tt_xv n p T D H TS OC TR g n R AM TD RC → post (tt_ct T R 2 n) (nI n, tt_S TD 96, P, T, D, H, AA, BO, TG, R, TD, AM, RE, WA, RC, WU)) : wpX_run post (nI n, sd, P, T, D, H, AA, BO, TG, R, TD, AM, RE, WA, RC, WU) g := by
  have hn := h.1
  unfold wpX_run; dsimp only
  refine xx_forget (fun R1 AM1 RC1 TD1 a b => ?_)
  have x0 : tt_xv n p T D H TS OC TR g 0 R1 AM1 TD1 RC1 := by
    refine ⟨fun c hc => ?_, fun c hc => ?_, fun c w hc hw => ?_, fun c hc => absurd hc (by omega), fun c _ hc => (a c hc).2.2⟩
    · rw [if_neg (by omega)]; exact (a c hc).1
    · rw [if_neg (by omega)]; exact (a c hc).2.1
    · rw [b _ (by omega)]
      by_cases w2 : w < 2
      · rw [tt_ev_z w2 (by omega)]
      · rw [tt_ev2 (by omega)]
        show (0 : Int32) = _ * 0
        rw [Int32.mul_zero]
  have s0 : (0 : Int32) = tt_S TD1 96 := (tt_S_z 96 b).symm
  refine xx_findReachable h h1 (fun RE1 hRE => ?_)
  refine xx_findWanted (TS := TS) h h1 (fun i hi t => (hB.1 i hi t).1) hRE (fun WA1 hWA => ?_)
  refine xx_runWanted (OC := OC) (TR := TR) h hq hr hB hWA s0 x0 (fun R2 AM2 TD2 RC2 WU2 hx => ?_)
  exact xx_testsWith hn 2 (hp R2 AM2 TD2 RE1 WA1 RC2 WU2 hx)
