theorem pk_and (x : Int32) {m : Int32} (k : Nat) (hm : m.toBitVec.toNat = 2 ^ k - 1) : x &&& m = nI (x.toBitVec.toNat % 2 ^ k) := by
  apply Int32.toBitVec_inj.mp
  apply BitVec.eq_of_toNat_eq
  rw [Int32.toBitVec_and, BitVec.toNat_and, hm, Nat.and_two_pow_sub_one_eq_mod]
  show _ = (BitVec.ofNat 32 _).toNat
  rw [BitVec.toNat_ofNat]
  exact (Nat.mod_eq_of_lt (Nat.lt_of_le_of_lt (Nat.mod_le _ _) x.toBitVec.isLt)).symm
theorem pk_andE (x : Int32) {m : Int32} (k : Nat) (hm : m.toBitVec.toNat = 2 ^ k - 1) : ∃ j : Nat, j < 2 ^ k ∧ x &&& m = nI j := ⟨_, Nat.mod_lt _ (Nat.two_pow_pos k), pk_and x k hm⟩
def tt_PX (n : Nat) (p : Nat → Nat) (P : Nat → Int32) : Prop := n ≤ 24 ∧ tt_Hp p ∧ (∀ i, 0 < i → i < n → P i = nI (p i))
theorem xx_f37 {post : SX → Prop} {nc sd : Int32} {P T D H AA BO TG R AM RE WA RC WU : Nat → Int32} (hp : ∀ TD : Nat → Int32, (∀ s, s < 96 → TD s = 0) → post (nc, 0, P, T, D, H, AA, BO, TG, R, TD, AM, RE, WA, RC, WU)) : ∀ d i (TD : Nat → Int32), i + d = 96 → (∀ s, s < i → TD s = 0) → wX_forgetLastRun_37 post nc sd (d + 1) (nI i) P T D H AA BO TG R TD AM RE WA RC WU := by
  intro d
  induction d with
  | zero =>
    intro i TD hi hv
    have e : i = 96 := by omega
    subst e
    exact br_t (by decide) (hp TD hv)
  | succ d ih =>
    intro i TD hi hv
    refine br_f (nI_ge (b := 96) (by omega) (by omega)) ⟨vp_in_nI (by omega) (by omega), nm_r (tt_un TD _ (by omega)) (nm_r (nI_1 i) (ih (i + 1) _ (by omega) (fun c hc => ?_)))⟩
    by_cases e : c = i
    · subst e; rw [pk_us]
    · rw [pk_un e]; exact hv c (by omega)
theorem xx_f2 {post : SX → Prop} {nc sd : Int32} {P T D H AA BO TG TD RE WA WU : Nat → Int32} (hp : ∀ R AM RC TD : Nat → Int32, (∀ c, c < 24 → R c = 0 ∧ AM c = 0 ∧ RC c = 0) → (∀ s, s < 96 → TD s = 0) → post (nc, 0, P, T, D, H, AA, BO, TG, R, TD, AM, RE, WA, RC, WU)) : ∀ d i (R AM RC : Nat → Int32), i + d = 24 → (∀ c, c < i → R c = 0 ∧ AM c = 0 ∧ RC c = 0) → wX_forgetLastRun_2 post nc sd (d + 1) (nI i) P T D H AA BO TG R TD AM RE WA RC WU := by
  intro d
  induction d with
  | zero =>
    intro i R AM RC hi hv
    have e : i = 24 := by omega
    subst e
    exact br_t (by decide) ⟨97, xx_f37 (fun TD hT => hp R AM RC TD hv hT) 96 0 TD (by omega) (fun c hc => absurd hc (by omega))⟩
  | succ d ih =>
    intro i R AM RC hi hv
    have hi24 : vp_in (nI i) 24 := vp_in_nI (by omega) (by omega)
    refine br_f (nI_ge (b := 24) (by omega) (by omega)) ⟨hi24, nm_r (tt_un R _ (by omega)) ⟨hi24, nm_r (tt_un AM _ (by omega)) ⟨hi24, nm_r (tt_un RC _ (by omega)) (nm_r (nI_1 i) (ih (i + 1) _ _ _ (by omega) (fun c hc => ?_)))⟩⟩⟩
    by_cases e : c = i
    · subst e; rw [pk_us, pk_us, pk_us]; exact ⟨rfl, rfl, tt_n0⟩
    · rw [pk_un e, pk_un e, pk_un e]; exact hv c (by omega)
theorem xx_forget {post : SX → Prop} {nc sd : Int32} {P T D H AA BO TG R TD AM RE WA RC WU : Nat → Int32} (hp : ∀ R AM RC TD : Nat → Int32, (∀ c, c < 24 → R c = 0 ∧ AM c = 0 ∧ RC c = 0) → (∀ s, s < 96 → TD s = 0) → post (nc, 0, P, T, D, H, AA, BO, TG, R, TD, AM, RE, WA, RC, WU)) : wpX_forgetLastRun post (nc, sd, P, T, D, H, AA, BO, TG, R, TD, AM, RE, WA, RC, WU) :=
  ⟨25, xx_f2 hp 24 0 R AM RC (by omega) (fun c hc => absurd hc (by omega))⟩
theorem xx_fr22 {post : SX → Prop} {sd : Int32} {P T D H AA BO TG R TD AM WA RC WU : Nat → Int32} {n : Nat} {p : Nat → Nat} (h : tt_PX n p P) (hp : ∀ RE : Nat → Int32, (∀ i, i < n → (¬ RE i = 0 ↔ tt_Re p D i)) → post (nI n, sd, P, T, D, H, AA, BO, TG, R, TD, AM, RE, WA, RC, WU)) : ∀ d i (RE : Nat → Int32), i + d = n → 0 < i → (∀ j, j < i → (¬ RE j = 0 ↔ tt_Re p D j)) → wX_findReachable_22 post (nI n) sd (d + 1) (nI i) P T D H AA BO TG R TD AM RE WA RC WU := by
  have hn := h.1
  intro d
  induction d with
  | zero =>
    intro i RE hi h0 hv
    have e : i = n := by omega
    subst e
    exact br_t (nI_le (by omega) (by omega)) (hp RE hv)
  | succ d ih =>
    intro i RE hi h0 hv
    have hi24 : vp_in (nI i) 24 := vp_in_nI (by omega) (by omega)
    have hpi := h.2.1 i h0
    have es := tt_Re_s h.2.1 (D := D) h0
    have go : ∀ x : Int32, (¬ x = 0 ↔ tt_Re p D i) → wX_findReachable_22 post (nI n) sd (d + 1) (nI (i + 1)) P T D H AA BO TG R TD AM (upd RE i x) WA RC WU := by
      intro x hx
      refine ih (i + 1) _ (by omega) (by omega) (fun j hj => ?_)
      by_cases e : j = i
      · subst e; rw [pk_us]; exact hx
      · rw [pk_un e]; exact hv j (by omega)
    refine br_f (nI_ge (by omega) (by omega)) ⟨hi24, ?_⟩
    rw [tt_at D (by omega), tt_at P (by omega), h.2.2 i h0 (by omega), tt_at RE (by omega)]
    refine br_c (fun a => ⟨hi24, vp_in_nI (by omega) (by omega), br_c (fun b => ⟨hi24, nm_r (tt_un RE _ (by omega)) (nm_r (nI_1 i) (go _ ?_))⟩) (fun b => ⟨hi24, nm_r (tt_un RE _ (by omega)) (nm_r (nI_1 i) (go _ ?_))⟩)⟩) (fun a => ⟨hi24, nm_r (tt_un RE _ (by omega)) (nm_r (nI_1 i) (go _ ?_))⟩)
    · rw [tt_n0]; exact ⟨fun z => absurd rfl z, fun z => absurd b ((hv _ hpi).mpr (es.mp z).2)⟩
    · rw [tt_n1]; exact ⟨fun _ => es.mpr ⟨a, (hv _ hpi).mp b⟩, fun _ => by decide⟩
    · rw [tt_n0]; exact ⟨fun z => absurd rfl z, fun z => absurd z.1 a⟩
theorem xx_findReachable {post : SX → Prop} {sd : Int32} {P T D H AA BO TG R TD AM RE WA RC WU : Nat → Int32} {n : Nat} {p : Nat → Nat} (h : tt_PX n p P) (h1 : 1 ≤ n) (hp : ∀ RE : Nat → Int32, (∀ i, i < n → (¬ RE i = 0 ↔ tt_Re p D i)) → post (nI n, sd, P, T, D, H, AA, BO, TG, R, TD, AM, RE, WA, RC, WU)) : wpX_findReachable post (nI n, sd, P, T, D, H, AA, BO, TG, R, TD, AM, RE, WA, RC, WU) := by
  have go : ∀ x : Int32, (¬ x = 0 ↔ D 0 = 0) → ∃ m, wX_findReachable_22 post (nI n) sd m 1 P T D H AA BO TG R TD AM (upd RE 0 x) WA RC WU := by
    intro x hx
    refine ⟨n - 1 + 1, xx_fr22 h hp (n - 1) 1 _ (by omega) (by omega) (fun j hj => ?_)⟩
    have e : j = 0 := by omega
    subst e
    rw [pk_us, hx]
    exact ⟨fun z => ⟨z, fun c hc => absurd hc tt_Ab_0⟩, fun z => z.1⟩
  refine br_c (fun a => nm_e (go _ ?_)) (fun a => nm_e (go _ ?_))
  · rw [tt_n1]; exact ⟨fun _ => a, fun _ => by decide⟩
  · rw [tt_n0]; exact ⟨fun z => absurd rfl z, fun z => absurd z a⟩
theorem xx_fw63 {post : SX → Prop} {nc sd : Int32} {P T D H AA BO TG R TD AM RE RC WU : Nat → Int32} {n : Nat} {p : Nat → Nat} {TS : Nat → Int32} {g : Int32} (h : tt_PX n p P) (hp : ∀ WA : Nat → Int32, (∀ i, i < n → (¬ WA i = 0 ↔ tt_Wn n p T D TS g i)) → post (nc, sd, P, T, D, H, AA, BO, TG, R, TD, AM, RE, WA, RC, WU)) : ∀ i (WA : Nat → Int32), i < n → (∀ j, j < n → (¬ WA j = 0 ↔ tt_Se p T D TS g j ∨ ∃ k, i < k ∧ k < n ∧ p k = j ∧ tt_Wn n p T D TS g k)) → wX_findWanted_63 post nc sd (i + 1) (nI i) P T D H AA BO TG R TD AM RE WA RC WU := by
  have hn := h.1
  intro i
  induction i with
  | zero =>
    intro WA hi hv
    exact br_t (by decide) (hp WA (fun j hj => (hv j hj).trans (tt_Wn_s h.2.1 j).symm))
  | succ i ih =>
    intro WA hi hv
    have hpi := h.2.1 (i + 1) (by omega)
    have hi24 : vp_in (nI (i + 1)) 24 := vp_in_nI (by omega) (by omega)
    have me : ¬ WA (i + 1) = 0 ↔ tt_Wn n p T D TS g (i + 1) := by
      rw [hv (i + 1) hi, tt_Wn_s h.2.1 (i + 1)]
      exact ⟨fun z => z.elim Or.inl (fun ⟨k, a, b, c⟩ => Or.inr ⟨k, by omega, b, c⟩), fun z => z.elim Or.inl (fun ⟨k, a, b, c⟩ => Or.inr ⟨k, by have := h.2.1 k a; omega, b, c⟩)⟩
    refine br_f (nI_nle (by omega) (by omega)) ⟨hi24, ?_⟩
    rw [tt_at WA (by omega), tt_at P (by omega), h.2.2 (i + 1) (by omega) hi]
    refine br_c (fun a => nm_r (pk_m1 i) (ih WA (by omega) (fun j hj => ?_))) (fun a => ⟨hi24, vp_in_nI (by omega) (by omega), nm_r (tt_un WA _ (by omega)) (nm_r (pk_m1 i) (ih _ (by omega) (fun j hj => ?_)))⟩)
    · rw [hv j hj]
      refine ⟨fun z => z.elim Or.inl (fun ⟨k, b, c⟩ => Or.inr ⟨k, by omega, c⟩), fun z => z.elim Or.inl (fun ⟨k, b, c, e, w⟩ => ?_)⟩
      by_cases q : k = i + 1
      · subst q; exact absurd a (me.mpr w)
      · exact Or.inr ⟨k, by omega, c, e, w⟩
    · have w := me.mp a
      by_cases q : j = p (i + 1)
      · subst q
        rw [pk_us, tt_n1]
        exact ⟨fun _ => Or.inr ⟨i + 1, by omega, hi, rfl, w⟩, fun _ => by decide⟩
      · rw [pk_un q, hv j hj]
        refine ⟨fun z => z.elim Or.inl (fun ⟨k, b, c⟩ => Or.inr ⟨k, by omega, c⟩), fun z => z.elim Or.inl (fun ⟨k, b, c, e, w⟩ => ?_)⟩
        by_cases q' : k = i + 1
        · subst q'; exact absurd e.symm q
        · exact Or.inr ⟨k, by omega, c, e, w⟩
theorem xx_fw2 {post : SX → Prop} {sd : Int32} {P T D H AA BO TG R TD AM RE RC WU : Nat → Int32} {n : Nat} {p : Nat → Nat} {TS : Nat → Int32} {g : Int32} (h : tt_PX n p P) (h1 : 1 ≤ n) (hG : ∀ i, i < n → ¬ T i = 0 → TG i = TS i) (hRE : ∀ i, i < n → (¬ RE i = 0 ↔ tt_Re p D i)) (hp : ∀ WA : Nat → Int32, (∀ i, i < n → (¬ WA i = 0 ↔ tt_Wn n p T D TS g i)) → post (nI n, sd, P, T, D, H, AA, BO, TG, R, TD, AM, RE, WA, RC, WU)) : ∀ d i (WA : Nat → Int32), i + d = n → (∀ j, j < i → (¬ WA j = 0 ↔ tt_Se p T D TS g j)) → wX_findWanted_2 post g (nI n) sd (d + 1) (nI i) P T D H AA BO TG R TD AM RE WA RC WU := by
  have hn := h.1
  intro d
  induction d with
  | zero =>
    intro i WA hi hv
    have e : i = n := by omega
    subst e
    have e1 : nI i - 1 = nI (i - 1) := by
      have e2 : i = (i - 1) + 1 := by omega
      rw [e2, nI_pred]; rfl
    refine br_t (nI_le (by omega) (by omega)) (nm_r e1 ⟨i - 1 + 1, xx_fw63 (g := g) (TS := TS) h hp (i - 1) WA (by omega) (fun j hj => ?_)⟩)
    rw [hv j hj]
    exact ⟨Or.inl, fun z => z.elim id (fun ⟨k, a, b, _⟩ => absurd a (by omega))⟩
  | succ d ih =>
    intro i WA hi hv
    have hi24 : vp_in (nI i) 24 := vp_in_nI (by omega) (by omega)
    have go : ∀ x : Int32, (¬ x = 0 ↔ tt_Se p T D TS g i) → wX_findWanted_2 post g (nI n) sd (d + 1) (nI (i + 1)) P T D H AA BO TG R TD AM RE (upd WA i x) RC WU := by
      intro x hx
      refine ih (i + 1) _ (by omega) (fun j hj => ?_)
      by_cases e : j = i
      · subst e; rw [pk_us]; exact hx
      · rw [pk_un e]; exact hv j (by omega)
    refine br_f (nI_ge (by omega) (by omega)) ⟨hi24, ?_⟩
    rw [tt_at T (by omega), tt_at RE (by omega), tt_at TG (by omega)]
    refine br_c (fun a => ⟨hi24, nm_r (tt_un WA _ (by omega)) (nm_r (nI_1 i) (go _ ?_))⟩) (fun a => ⟨hi24, br_c (fun b => ⟨hi24, nm_r (tt_un WA _ (by omega)) (nm_r (nI_1 i) (go _ ?_))⟩) (fun b => ⟨hi24, br_c (fun c => ⟨hi24, nm_r (tt_un WA _ (by omega)) (nm_r (nI_1 i) (go _ ?_))⟩) (fun c => ⟨hi24, nm_r (tt_un WA _ (by omega)) (nm_r (nI_1 i) (go _ ?_))⟩)⟩)⟩)
    · rw [tt_n0]; exact ⟨fun z => absurd rfl z, fun z => absurd a z.1⟩
    · rw [tt_n0]; exact ⟨fun z => absurd rfl z, fun z => absurd b ((hRE i (by omega)).mpr z.2.2)⟩
    · rw [hG i (by omega) a] at c; rw [tt_n0]; exact ⟨fun z => absurd rfl z, fun z => absurd c z.2.1⟩
    · rw [hG i (by omega) a] at c; rw [tt_n1]; exact ⟨fun _ => ⟨a, c, (hRE i (by omega)).mp b⟩, fun _ => by decide⟩
theorem xx_findWanted {post : SX → Prop} {sd : Int32} {P T D H AA BO TG R TD AM RE WA RC WU : Nat → Int32} {n : Nat} {p : Nat → Nat} {TS : Nat → Int32} {g : Int32} (h : tt_PX n p P) (h1 : 1 ≤ n) (hG : ∀ i, i < n → ¬ T i = 0 → TG i = TS i) (hRE : ∀ i, i < n → (¬ RE i = 0 ↔ tt_Re p D i)) (hp : ∀ WA : Nat → Int32, (∀ i, i < n → (¬ WA i = 0 ↔ tt_Wn n p T D TS g i)) → post (nI n, sd, P, T, D, H, AA, BO, TG, R, TD, AM, RE, WA, RC, WU)) : wpX_findWanted post (nI n, sd, P, T, D, H, AA, BO, TG, R, TD, AM, RE, WA, RC, WU) g :=
  ⟨n + 1, xx_fw2 h h1 hG hRE hp n 0 WA (by omega) (fun c hc => absurd hc (by omega))⟩
def tt_q (p : Nat → Nat) (t : Nat) : Nat → Nat
  | 0 => t
  | k + 1 => p (tt_q p t k)
def tt_way (n : Nat) (p : Nat → Nat) (t len : Nat) (WU : Nat → Int32) : Prop := ∀ j, j < len → WU j = nI (tt_q p t (j + 1)) ∧ 0 < tt_q p t j ∧ tt_q p t (j + 1) < n
theorem xx_fu4 {post : Int32 → SX → Prop} {nc sd : Int32} {P T D H AA BO TG R TD AM RE WA RC : Nat → Int32} {n : Nat} {p : Nat → Nat} (h : tt_PX n p P) {t : Nat} (ht : t < n) (hp : ∀ len (WU : Nat → Int32), len < 24 → tt_q p t len = 0 → tt_way n p t len WU → post (nI len) (nc, sd, P, T, D, H, AA, BO, TG, R, TD, AM, RE, WA, RC, WU)) : ∀ d k (WU : Nat → Int32), tt_q p t k < d → k + tt_q p t k ≤ t → tt_way n p t k WU → wX_findWayUp_4 post nc sd d (nI k) (nI (tt_q p t k)) P T D H AA BO TG R TD AM RE WA RC WU := by
  have hn := h.1
  intro d
  induction d with
  | zero => intro k WU hd; exact absurd hd (by omega)
  | succ d ih =>
    intro k WU hd hk hv
    refine br_f (nI_ge (b := 24) (by omega) (by omega)) ?_
    by_cases z : tt_q p t k = 0
    · exact br_t (by rw [z]; rfl) (hp k WU (by omega) z hv)
    · have hpk := h.2.1 (tt_q p t k) (by omega)
      have e : tt_q p t (k + 1) = p (tt_q p t k) := rfl
      refine br_f (nI_ne0 (by omega) (by omega)) ⟨vp_in_nI (by omega) (by omega), nm_r (e' := nI (tt_q p t (k + 1))) (by rw [tt_at P (by omega), h.2.2 _ (by omega) (by omega)]; rfl) ⟨vp_in_nI (by omega) (by omega), nm_r (tt_un WU _ (by omega)) (nm_r (nI_1 k) (ih (k + 1) _ (by omega) (by omega) (fun j hj => ?_)))⟩⟩
      by_cases q : j = k
      · subst q; rw [pk_us]; exact ⟨rfl, by omega, by omega⟩
      · rw [pk_un q]; exact hv j (by omega)
theorem xx_findWayUp {post : Int32 → SX → Prop} {nc sd : Int32} {P T D H AA BO TG R TD AM RE WA RC WU : Nat → Int32} {n : Nat} {p : Nat → Nat} (h : tt_PX n p P) {t : Nat} (ht : t < n) (hp : ∀ len (WU : Nat → Int32), len < 24 → tt_q p t len = 0 → tt_way n p t len WU → post (nI len) (nc, sd, P, T, D, H, AA, BO, TG, R, TD, AM, RE, WA, RC, WU)) : wpX_findWayUp post (nc, sd, P, T, D, H, AA, BO, TG, R, TD, AM, RE, WA, RC, WU) (nI t) :=
  ⟨t + 1, xx_fu4 h ht hp (t + 1) 0 WU (Nat.lt_succ_self t) (Nat.le_of_eq (Nat.zero_add t)) (fun c hc => absurd hc (by omega))⟩
theorem xx_hk {post : Int32 → SX → Prop} {nc : Int32} {P T D H AA BO TG R TD AM RE WA RC WU : Nat → Int32} {c w : Nat} (hc : c < 24) (hw : w < 4) (hp : ∀ TD' : Nat → Int32, (∀ c' w', w' < 4 → TD' (c' * 4 + w') = TD (c' * 4 + w') + tt_b (c' = c ∧ w' = w ∧ ¬ H (c * 4 + w) = 0)) → post (H (c * 4 + w)) (nc, tt_S TD' 96, P, T, D, H, AA, BO, TG, R, TD', AM, RE, WA, RC, WU)) : wpX_carryOutHook post (nc, tt_S TD 96, P, T, D, H, AA, BO, TG, R, TD, AM, RE, WA, RC, WU) (nI c) (nI w) := by
  have hs : vp_in (nI (c * 4 + w)) 96 := vp_in_nI (by omega) (by omega)
  refine nm_r (tt_sl c w) ⟨hs, nm_r (tt_at H (by omega)) ?_⟩
  by_cases z : H (c * 4 + w) = 0
  · exact br_t z (hp TD (fun c' w' _ => by rw [tt_b0 (fun y => y.2.2 z), Int32.add_zero]))
  · refine br_f z ⟨hs, hs, nm_r (e' := upd TD (c * 4 + w) (TD (c * 4 + w) + 1)) (by rw [tt_at TD (by omega), tt_un _ _ (by omega)]) (nm_r (e' := tt_S (upd TD (c * 4 + w) (TD (c * 4 + w) + 1)) 96) (tt_S_u 96 (by omega)).symm (hp _ (fun c' w' hw' => ?_)))⟩
    by_cases q : c' = c ∧ w' = w
    · obtain ⟨rfl, rfl⟩ := q
      rw [pk_us, tt_b1 ⟨rfl, rfl, z⟩]
    · rw [pk_un (by omega), tt_b0 (fun y => q ⟨y.1, y.2.1⟩), Int32.add_zero]
theorem xx_worse {post : Int32 → Prop} {a b : Int32} (hp : post (tt_g (fun o => a = o ∨ b = o))) : wpX_worse post a b := by
  by_cases a2 : a = 2
  · rw [tt_g2 (Or.inl a2)] at hp; exact br_t a2 hp
  · by_cases b2 : b = 2
    · rw [tt_g2 (Or.inr b2)] at hp; exact br_f a2 (br_t b2 hp)
    · have n2 : ¬ (a = 2 ∨ b = 2) := fun z => z.elim a2 b2
      by_cases a3 : a = 3
      · rw [tt_g3 n2 (Or.inl a3)] at hp; exact br_f a2 (br_f b2 (br_t a3 hp))
      · by_cases b3 : b = 3
        · rw [tt_g3 n2 (Or.inr b3)] at hp; exact br_f a2 (br_f b2 (br_f a3 (br_t b3 hp)))
        · rw [tt_g1 n2 (fun z => z.elim a3 b3)] at hp; exact br_f a2 (br_f b2 (br_f a3 (br_f b3 hp)))
theorem tt_own_r (f : Nat → Int32) (t i : Nat) : tt_own f t i = 0 ∨ tt_own f t i = 1 ∨ tt_own f t i = 2 ∨ tt_own f t i = 3 := by
  unfold tt_own
  obtain ⟨j, hj, e⟩ := pk_andE (f t >>> ((2 * nI i) &&& 31)) (m := 3) 2 (by decide)
  rw [e]
  have : j = 0 ∨ j = 1 ∨ j = 2 ∨ j = 3 := by omega
  rcases this with rfl | rfl | rfl | rfl
  · exact Or.inl rfl
  · exact Or.inr (Or.inl rfl)
  · exact Or.inr (Or.inr (Or.inl rfl))
  · exact Or.inr (Or.inr (Or.inr rfl))
theorem xx_bd {post : Int32 → SX → Prop} {nc : Int32} {P T D H AA BO TG R TD AM RE WA RC WU : Nat → Int32} {t i : Nat} (ht : t < 24) (hp : ∀ TD' : Nat → Int32, (∀ c' w', w' < 4 → TD' (c' * 4 + w') = TD (c' * 4 + w') + tt_b (c' = t ∧ w' = 0 ∧ True)) → post (tt_g (fun o => tt_own BO t i = o)) (nc, tt_S TD' 96, P, T, D, H, AA, BO, TG, R, TD', AM, RE, WA, RC, WU)) : wpX_carryOutBody post (nc, tt_S TD 96, P, T, D, H, AA, BO, TG, R, TD, AM, RE, WA, RC, WU) (nI t) (nI i) := by
  have hs : vp_in (nI (t * 4 + 0)) 96 := vp_in_nI (by omega) (by omega)
  have hq := hp (upd TD (t * 4 + 0) (TD (t * 4 + 0) + 1)) (fun c' w' hw' => by
    by_cases q : c' = t ∧ w' = 0
    · obtain ⟨rfl, rfl⟩ := q
      rw [pk_us, tt_b1 ⟨rfl, rfl, trivial⟩]
    · rw [pk_un (by omega), tt_b0 (fun y => q ⟨y.1, y.2.1⟩), Int32.add_zero])
  unfold wpX_carryOutBody; dsimp only
  rw [show nI t * 4 + 0 = nI (t * 4 + 0) from tt_sl t 0]
  refine ⟨hs, hs, nm_r (e' := upd TD (t * 4 + 0) (TD (t * 4 + 0) + 1)) (by rw [tt_at TD (by omega), tt_un _ _ (by omega)]) (nm_r (e' := tt_S (upd TD (t * 4 + 0) (TD (t * 4 + 0) + 1)) 96) (tt_S_u 96 (by omega)).symm ⟨vp_in_nI (by omega) (by omega), nm_r (e' := tt_own BO t i) (by rw [tt_at BO (by omega)]; rfl) ?_⟩)⟩
  rcases tt_own_r BO t i with e | e | e | e
  · rw [tt_g1 (by rw [e]; decide) (by rw [e]; decide)] at hq
    exact br_t e hq
  · rw [tt_g1 (by rw [e]; decide) (by rw [e]; decide)] at hq
    rw [e]; exact br_f (by decide) hq
  · rw [tt_g2 e] at hq
    rw [e]; exact br_f (by decide) hq
  · rw [tt_g3 (by rw [e]; decide) e] at hq
    rw [e]; exact br_f (by decide) hq
