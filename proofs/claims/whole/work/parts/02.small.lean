def tt_Tr (n : Nat) (p : Nat → Nat) (T H P PP : Nat → Int32) : Prop :=
  1 ≤ n ∧ n ≤ 24 ∧ tt_Hp p ∧ (∀ i, 0 < i → i < n → P i = nI (p i) ∧ PP i = nI (p i) ∧ T (p i) = 0) ∧ PP 0 = -1 ∧ T 0 = 0 ∧ (∀ s, H s = 0 ∨ H s = 1 ∨ H s = 2 ∨ H s = 3)
def tt_Bd (n : Nat) (T AA BO TG TR OC TS : Nat → Int32) : Prop :=
  (∀ i, i < n → ¬ T i = 0 → TG i = TS i ∧ ∃ k, k < 2 ^ 31 ∧ AA i = nI k ∧ TR i = nI k ∧ ∀ j, j < k → (tt_own BO i j = 2 ↔ tt_own OC i j = 2) ∧ (tt_own BO i j = 3 ↔ tt_own OC i j = 3)) ∧ (∀ i, n ≤ i → OC i = 0)
def tt_Rs (sd : Int32) (R TD AM RS CA MD : Nat → Int32) : Prop :=
  (∀ i, i < 24 → R i = RS i ∧ AM i = MD i ∧ (RS i = 0 ∨ RS i = 1 ∨ RS i = 2 ∨ RS i = 3)) ∧ (∀ s, s < 96 → TD s = CA s) ∧ sd = tt_S CA 96
/-- one tree on both sides; bodies alike where an attempt can look; results alike; the steps are the sum of all times -/
def i_Rel (_ : Nat) (u : SX) (v : SY) : Prop := match u, v with
  | (nc, sd, P, T, D, H, AA, BO, TG, R, TD, AM, _, _, _, _), (ns, T', PP, D', H', TR, OC, TS, RS, CA, MD) => T = T' ∧ D = D' ∧ H = H' ∧ ∃ (n : Nat) (p : Nat → Nat), nc = nI n ∧ ns = nI n ∧ tt_Tr n p T H P PP ∧ tt_Bd n T AA BO TG TR OC TS ∧ tt_Rs sd R TD AM RS CA MD
theorem i_up {k : Nat} {u : SX} {v : SY} (h : i_Rel k u v) : i_Rel (k + 4) u v := h
theorem tt_n0 : vp_nar .boolean 0 = 0 := by rfl
theorem tt_n1 : vp_nar .boolean 1 = 1 := by rfl
theorem i_vc0 : wpX_init (fun u => wpY_init (fun v => i_Rel 0 u v)) := by
  refine nm_e ?_
  refine ⟨rfl, rfl, rfl, 1, fun _ => 0, rfl, rfl, ⟨by omega, by omega, fun i hi => hi, fun i h0 h1 => absurd h0 (by omega), pk_us, rfl, fun s => Or.inl rfl⟩, ⟨fun i _ hT => absurd rfl hT, fun i _ => rfl⟩, fun i _ => ⟨rfl, rfl, Or.inl rfl⟩, fun s _ => rfl, (tt_S_z 96 (fun j _ => rfl)).symm⟩
theorem tt_un (f : Nat → Int32) (x : Int32) {n : Nat} (h : n < 2 ^ 31) : upd f (nI n).toNatClampNeg x = upd f n x := by rw [nI_clamp h]
theorem tt_at (f : Nat → Int32) {n : Nat} (h : n < 2 ^ 31) : f (nI n).toNatClampNeg = f n := by rw [nI_clamp h]
theorem tt_sl (j w : Nat) : nI j * 4 + nI w = nI (j * 4 + w) := by
  rw [show (4 : Int32) = nI 4 from rfl, pk_mul, nI_add]
theorem tt_ix (x : Int32) {n : Nat} (hn : n < 2 ^ 31) : (x < 0 ∨ nI n ≤ x) ∨ ∃ j : Nat, j < n ∧ x = nI j := by
  rcases pk_ix x hn with h | h | h
  · exact Or.inl (Or.inl h)
  · exact Or.inl (Or.inr h)
  · exact Or.inr h
theorem xx_no {post : Int32 → Prop} {sd : Int32} {P T D H AA BO TG R TD AM RE WA RC WU : Nat → Int32} {n : Nat} {x : Int32} (h : x < 0 ∨ nI n ≤ x) (hp : post 0) : wpX_isNode post (nI n, sd, P, T, D, H, AA, BO, TG, R, TD, AM, RE, WA, RC, WU) x := by
  by_cases h0 : x < 0
  · exact br_t h0 hp
  · exact br_f h0 (br_t (h.resolve_left h0) hp)
theorem xx_yes {post : Int32 → Prop} {sd : Int32} {P T D H AA BO TG R TD AM RE WA RC WU : Nat → Int32} {n j : Nat} (hj : j < n) (hn : n ≤ 24) (hp : post 1) : wpX_isNode post (nI n, sd, P, T, D, H, AA, BO, TG, R, TD, AM, RE, WA, RC, WU) (nI j) :=
  br_f (nI_pos (by omega)) (br_f (nI_ge hj (by omega)) hp)
theorem yy_no {post : Int32 → Prop} {T PP D H TR OC TS RS CA MD : Nat → Int32} {n : Nat} {x : Int32} (h : x < 0 ∨ nI n ≤ x) (hp : post 1) : wpY_noNode post (nI n, T, PP, D, H, TR, OC, TS, RS, CA, MD) x := by
  by_cases h0 : x < 0
  · exact br_t h0 hp
  · exact br_f h0 (br_f (Int32.not_lt.mpr (h.resolve_left h0)) hp)
theorem yy_yes {post : Int32 → Prop} {T PP D H TR OC TS RS CA MD : Nat → Int32} {n j : Nat} (hj : j < n) (hn : n ≤ 24) (hp : post 0) : wpY_noNode post (nI n, T, PP, D, H, TR, OC, TS, RS, CA, MD) (nI j) :=
  br_f (nI_pos (by omega)) (br_t (nI_lt hj (by omega)) hp)
theorem xx_cno {post : Int32 → Prop} {sd : Int32} {P T D H AA BO TG R TD AM RE WA RC WU : Nat → Int32} {n : Nat} {x : Int32} (h : x < 0 ∨ nI n ≤ x) (hp : post 0) : wpX_isContainerNode post (nI n, sd, P, T, D, H, AA, BO, TG, R, TD, AM, RE, WA, RC, WU) x := by
  unfold wpX_isContainerNode; exact xx_no h (br_t rfl hp)
theorem xx_c0 {post : Int32 → Prop} {sd : Int32} {P T D H AA BO TG R TD AM RE WA RC WU : Nat → Int32} {n j : Nat} (hj : j < n) (hn : n ≤ 24) (hT : ¬ T j = 0) (hp : post 0) : wpX_isContainerNode post (nI n, sd, P, T, D, H, AA, BO, TG, R, TD, AM, RE, WA, RC, WU) (nI j) := by
  unfold wpX_isContainerNode; exact xx_yes hj hn (br_f (by decide) ⟨vp_in_nI (by omega) (by omega), br_f (by rw [tt_at T (by omega)]; exact hT) hp⟩)
theorem xx_c1 {post : Int32 → Prop} {sd : Int32} {P T D H AA BO TG R TD AM RE WA RC WU : Nat → Int32} {n j : Nat} (hj : j < n) (hn : n ≤ 24) (hT : T j = 0) (hp : post 1) : wpX_isContainerNode post (nI n, sd, P, T, D, H, AA, BO, TG, R, TD, AM, RE, WA, RC, WU) (nI j) := by
  unfold wpX_isContainerNode; exact xx_yes hj hn (br_f (by decide) ⟨vp_in_nI (by omega) (by omega), br_t (by rw [tt_at T (by omega)]; exact hT) hp⟩)
theorem xx_tno {post : Int32 → Prop} {sd : Int32} {P T D H AA BO TG R TD AM RE WA RC WU : Nat → Int32} {n : Nat} {x : Int32} (h : x < 0 ∨ nI n ≤ x) (hp : post 0) : wpX_isTestNode post (nI n, sd, P, T, D, H, AA, BO, TG, R, TD, AM, RE, WA, RC, WU) x := by
  unfold wpX_isTestNode; exact xx_no h (br_t rfl hp)
theorem xx_t0 {post : Int32 → Prop} {sd : Int32} {P T D H AA BO TG R TD AM RE WA RC WU : Nat → Int32} {n j : Nat} (hj : j < n) (hn : n ≤ 24) (hT : T j = 0) (hp : post 0) : wpX_isTestNode post (nI n, sd, P, T, D, H, AA, BO, TG, R, TD, AM, RE, WA, RC, WU) (nI j) := by
  unfold wpX_isTestNode; exact xx_yes hj hn (br_f (by decide) ⟨vp_in_nI (by omega) (by omega), br_t (by rw [tt_at T (by omega)]; exact hT) hp⟩)
theorem xx_t1 {post : Int32 → Prop} {sd : Int32} {P T D H AA BO TG R TD AM RE WA RC WU : Nat → Int32} {n j : Nat} (hj : j < n) (hn : n ≤ 24) (hT : ¬ T j = 0) (hp : post 1) : wpX_isTestNode post (nI n, sd, P, T, D, H, AA, BO, TG, R, TD, AM, RE, WA, RC, WU) (nI j) := by
  unfold wpX_isTestNode; exact xx_yes hj hn (br_f (by decide) ⟨vp_in_nI (by omega) (by omega), br_f (by rw [tt_at T (by omega)]; exact hT) hp⟩)
theorem xx_hk0 {post : Int32 → Prop} {x : Int32} (h : x < 0 ∨ nI 4 ≤ x) (hp : post 0) : wpX_isHook post x := by
  by_cases h0 : x < 0
  · exact br_t h0 hp
  · exact br_f h0 (br_t (h.resolve_left h0) hp)
theorem xx_hk1 {post : Int32 → Prop} {w : Nat} (hw : w < 4) (hp : post 1) : wpX_isHook post (nI w) :=
  br_f (nI_pos (by omega)) (br_f (nI_ge (b := 4) hw (by omega)) hp)
theorem xx_addB {post : Int32 → SX → Prop} {sd : Int32} {P T D H AA BO TG R TD AM RE WA RC WU : Nat → Int32} {n : Nat} {x y : Int32} (h : x < 0 ∨ nI n ≤ x) (hp : post (-1) (nI n, sd, P, T, D, H, AA, BO, TG, R, TD, AM, RE, WA, RC, WU)) : wpX_addNode post (nI n, sd, P, T, D, H, AA, BO, TG, R, TD, AM, RE, WA, RC, WU) x y := by
  unfold wpX_addNode; exact xx_cno h (br_t rfl hp)
theorem xx_addT {post : Int32 → SX → Prop} {sd : Int32} {P T D H AA BO TG R TD AM RE WA RC WU : Nat → Int32} {n j : Nat} {y : Int32} (hj : j < n) (hn : n ≤ 24) (hT : ¬ T j = 0) (hp : post (-1) (nI n, sd, P, T, D, H, AA, BO, TG, R, TD, AM, RE, WA, RC, WU)) : wpX_addNode post (nI n, sd, P, T, D, H, AA, BO, TG, R, TD, AM, RE, WA, RC, WU) (nI j) y := by
  unfold wpX_addNode; exact xx_c0 hj hn hT (br_t rfl hp)
theorem xx_addF {post : Int32 → SX → Prop} {sd : Int32} {P T D H AA BO TG R TD AM RE WA RC WU : Nat → Int32} {j : Nat} {y : Int32} (hj : j < 24) (hT : T j = 0) (hp : post (-2) (nI 24, sd, P, T, D, H, AA, BO, TG, R, TD, AM, RE, WA, RC, WU)) : wpX_addNode post (nI 24, sd, P, T, D, H, AA, BO, TG, R, TD, AM, RE, WA, RC, WU) (nI j) y := by
  unfold wpX_addNode; exact xx_c1 hj (by omega) hT (br_f (by decide) (br_f (by decide) hp))
theorem xx_add {post : Int32 → SX → Prop} {sd : Int32} {P T D H AA BO TG R TD AM RE WA RC WU : Nat → Int32} {n j : Nat} {y : Int32} (hj : j < n) (hn : n < 24) (hT : T j = 0) (hp : post (nI n) (nI (n + 1), sd, upd P n (nI j), upd T n (vp_nar .boolean y), D, H, AA, BO, TG, R, TD, AM, RE, WA, RC, WU)) : wpX_addNode post (nI n, sd, P, T, D, H, AA, BO, TG, R, TD, AM, RE, WA, RC, WU) (nI j) y := by
  unfold wpX_addNode
  have hv : vp_in (nI n) 24 := vp_in_nI hn (by omega)
  exact xx_c1 hj (by omega) hT (br_f (by decide) (br_t (nI_lt (b := 24) hn (by omega)) ⟨hv, nm_r (tt_un P _ (by omega)) ⟨hv, nm_r (tt_un T _ (by omega)) (nm_r (nI_1 n) hp)⟩⟩))
theorem yy_addB {post : Int32 → SY → Prop} {T PP D H TR OC TS RS CA MD : Nat → Int32} {n : Nat} {x y : Int32} (h : x < 0 ∨ nI n ≤ x) (hp : post (-1) (nI n, T, PP, D, H, TR, OC, TS, RS, CA, MD)) : wpY_add post (nI n, T, PP, D, H, TR, OC, TS, RS, CA, MD) x y := by
  unfold wpY_add; exact yy_no h (br_f (by decide) hp)
theorem yy_addT {post : Int32 → SY → Prop} {T PP D H TR OC TS RS CA MD : Nat → Int32} {n j : Nat} {y : Int32} (hj : j < n) (hn : n ≤ 24) (hT : ¬ T j = 0) (hp : post (-1) (nI n, T, PP, D, H, TR, OC, TS, RS, CA, MD)) : wpY_add post (nI n, T, PP, D, H, TR, OC, TS, RS, CA, MD) (nI j) y := by
  unfold wpY_add; exact yy_yes hj hn (br_t rfl ⟨vp_in_nI (by omega) (by omega), br_f (by rw [tt_at T (by omega)]; exact hT) hp⟩)
theorem yy_addF {post : Int32 → SY → Prop} {T PP D H TR OC TS RS CA MD : Nat → Int32} {j : Nat} {y : Int32} (hj : j < 24) (hT : T j = 0) (hp : post (-2) (nI 24, T, PP, D, H, TR, OC, TS, RS, CA, MD)) : wpY_add post (nI 24, T, PP, D, H, TR, OC, TS, RS, CA, MD) (nI j) y := by
  unfold wpY_add; exact yy_yes hj (by omega) (br_t rfl ⟨vp_in_nI (by omega) (by omega), br_t (by rw [tt_at T (by omega)]; exact hT) (br_t rfl hp)⟩)
theorem yy_add {post : Int32 → SY → Prop} {T PP D H TR OC TS RS CA MD : Nat → Int32} {n j : Nat} {y : Int32} (hj : j < n) (hn : n < 24) (hT : T j = 0) (hp : post (nI n) (nI (n + 1), upd T n (vp_nar .boolean y), upd PP n (nI j), D, H, upd TR n 1, OC, upd TS n 1, RS, CA, MD)) : wpY_add post (nI n, T, PP, D, H, TR, OC, TS, RS, CA, MD) (nI j) y := by
  unfold wpY_add
  have hv : vp_in (nI n) 24 := vp_in_nI hn (by omega)
  have hne : ¬ nI n = 24 := fun z => by have := (nI_eq (b := 24) (by omega) (by omega)).mp z; omega
  have hq : nI (n + 1) - 1 = nI n := nI_pred n
  refine yy_yes hj (by omega) (br_t rfl ⟨vp_in_nI (by omega) (by omega), br_t (by rw [tt_at T (by omega)]; exact hT) (br_f hne ⟨hv, nm_r (tt_un T _ (by omega)) ⟨hv, nm_r (tt_un PP _ (by omega)) ⟨hv, nm_r (tt_un TR _ (by omega)) ⟨hv, nm_r (tt_un TS _ (by omega)) (nm_r (nI_1 n) ?_)⟩⟩⟩⟩)⟩)
  rw [hq]; exact hp
theorem tt_Tr_add {n j : Nat} {p : Nat → Nat} {T H P PP : Nat → Int32} (x : Int32) (h : tt_Tr n p T H P PP) (hn : n < 24) (hj : j < n) (hT : T j = 0) : tt_Tr (n + 1) (fun i => if i = n then j else p i) (upd T n x) H (upd P n (nI j)) (upd PP n (nI j)) := by
  obtain ⟨a, b, hp, e, z, t0, hr⟩ := h
  refine ⟨by omega, by omega, ?_, ?_, ?_, ?_, hr⟩
  · intro i hi
    show (if i = n then j else p i) < i
    by_cases q : i = n
    · rw [if_pos q]; omega
    · rw [if_neg q]; exact hp i hi
  · intro i hi hi2
    show upd P n (nI j) i = nI (if i = n then j else p i) ∧ upd PP n (nI j) i = nI (if i = n then j else p i) ∧ upd T n x (if i = n then j else p i) = 0
    by_cases q : i = n
    · subst q
      rw [if_pos rfl, pk_us, pk_us, pk_un (by omega)]
      exact ⟨rfl, rfl, hT⟩
    · have := hp i hi
      rw [if_neg q, pk_un q, pk_un q, pk_un (by omega)]
      exact e i hi (by omega)
  · rw [pk_un (by omega)]; exact z
  · rw [pk_un (by omega)]; exact t0
theorem tt_Bd_c {n : Nat} {T AA BO TG TR OC TS : Nat → Int32} (h : tt_Bd n T AA BO TG TR OC TS) : tt_Bd (n + 1) (upd T n 0) AA BO TG (upd TR n 1) OC (upd TS n 1) := by
  refine ⟨fun i hi hT => ?_, fun i hi => h.2 i (by omega)⟩
  by_cases q : i = n
  · subst q; rw [pk_us] at hT; exact absurd rfl hT
  · rw [pk_un q] at hT; rw [pk_un q, pk_un q]; exact h.1 i (by omega) hT
theorem tt_own_u {f : Nat → Int32} {n i j : Nat} {x : Int32} (h : i ≠ n) : tt_own (upd f n x) i j = tt_own f i j := by
  unfold tt_own; rw [pk_un h]
theorem tt_own_us {f : Nat → Int32} {n j : Nat} {x : Int32} : tt_own (upd f n x) n j = (x >>> ((2 * nI j) &&& 31)) &&& 3 := by
  unfold tt_own; rw [pk_us]
theorem tt_own_1 : ((1 : Int32) >>> ((2 * nI 0) &&& 31)) &&& 3 = 1 := by decide +kernel
theorem tt_own_0 : ((0 : Int32) >>> ((2 * nI 0) &&& 31)) &&& 3 = 0 := by decide +kernel
theorem tt_Bd_t {n : Nat} {T AA BO TG TR OC TS : Nat → Int32} {x : Int32} (h : tt_Bd n T AA BO TG TR OC TS) : tt_Bd (n + 1) (upd T n x) (upd AA n 1) (upd BO n 1) (upd TG n 1) (upd TR n 1) OC (upd TS n 1) := by
  refine ⟨fun i hi hT => ?_, fun i hi => h.2 i (by omega)⟩
  by_cases q : i = n
  · subst q
    rw [pk_us, pk_us, pk_us, pk_us]
    refine ⟨rfl, 1, by omega, rfl, rfl, fun j hj => ?_⟩
    have hj0 : j = 0 := by omega
    subst hj0
    have e : tt_own OC i 0 = 0 := by unfold tt_own; rw [h.2 i (by omega)]; exact tt_own_0
    rw [tt_own_us, tt_own_1, e]
    decide
  · rw [pk_un q] at hT
    obtain ⟨e, k, hk, a, b, c⟩ := h.1 i (by omega) hT
    rw [pk_un q, pk_un q, pk_un q, pk_un q]
    refine ⟨e, k, hk, a, b, fun j hj => ?_⟩
    rw [tt_own_u q]; exact c j hj
theorem i_vc_container {k : Nat} {u : SX} {v : SY} (I : i_Rel k u v) (hk : k + 4 ≤ 2048) (v1 : Int32) : wpX_container (fun r u' => wpY_container (fun r' v' => r' = r ∧ i_Rel (k + 4) u' v') v v1) u v1 := by
  obtain ⟨nc, sd, P, T, D, H, AA, BO, TG, R, TD, AM, RE, WA, RC, WU⟩ := u
  obtain ⟨ns, T', PP, D', H', TR, OC, TS, RS, CA, MD⟩ := v
  obtain ⟨rfl, rfl, rfl, n, p, rfl, rfl, hT, hB, hR⟩ := I
  have hn := hT.2.1
  unfold wpX_container wpY_container; dsimp only
  rcases tt_ix v1 (n := n) (by omega) with h | ⟨j, hj, rfl⟩
  · exact xx_addB h (yy_addB h ⟨rfl, rfl, rfl, rfl, n, p, rfl, rfl, hT, hB, hR⟩)
  · by_cases t : T j = 0
    · by_cases q : n = 24
      · subst q
        exact xx_addF hj t (yy_addF hj t ⟨rfl, rfl, rfl, rfl, 24, p, rfl, rfl, hT, hB, hR⟩)
      · refine xx_add hj (by omega) t (yy_add hj (by omega) t ⟨rfl, rfl, rfl, rfl, n + 1, _, rfl, rfl, tt_Tr_add _ hT (by omega) hj t, ?_, hR⟩)
        rw [tt_n0]; exact tt_Bd_c hB
    · exact xx_addT hj hn t (yy_addT hj hn t ⟨rfl, rfl, rfl, rfl, n, p, rfl, rfl, hT, hB, hR⟩)
theorem i_vc_test {k : Nat} {u : SX} {v : SY} (I : i_Rel k u v) (hk : k + 4 ≤ 2048) (v1 : Int32) : wpX_test (fun r u' => wpY_test (fun r' v' => r' = r ∧ i_Rel (k + 4) u' v') v v1) u v1 := by
  obtain ⟨nc, sd, P, T, D, H, AA, BO, TG, R, TD, AM, RE, WA, RC, WU⟩ := u
  obtain ⟨ns, T', PP, D', H', TR, OC, TS, RS, CA, MD⟩ := v
  obtain ⟨rfl, rfl, rfl, n, p, rfl, rfl, hT, hB, hR⟩ := I
  have hn := hT.2.1
  unfold wpX_test wpY_test; dsimp only
  rcases tt_ix v1 (n := n) (by omega) with h | ⟨j, hj, rfl⟩
  · exact xx_addB h (br_t (by decide) (yy_addB h ⟨rfl, rfl, rfl, rfl, n, p, rfl, rfl, hT, hB, hR⟩))
  · by_cases t : T j = 0
    · by_cases q : n = 24
      · subst q
        exact xx_addF hj t (br_t (by decide) (yy_addF hj t ⟨rfl, rfl, rfl, rfl, 24, p, rfl, rfl, hT, hB, hR⟩))
      · have hv : vp_in (nI n) 24 := vp_in_nI (by omega) (by omega)
        refine xx_add hj (by omega) t (br_f (nI_pos (by omega)) ⟨hv, nm_r (tt_un AA _ (by omega)) ⟨hv, nm_r (tt_un BO _ (by omega)) ⟨hv, nm_r (tt_un TG _ (by omega)) ?_⟩⟩⟩)
        exact yy_add hj (by omega) t ⟨rfl, rfl, rfl, rfl, n + 1, _, rfl, rfl, tt_Tr_add _ hT (by omega) hj t, tt_Bd_t hB, hR⟩
    · exact xx_addT hj hn t (br_t (by decide) (yy_addT hj hn t ⟨rfl, rfl, rfl, rfl, n, p, rfl, rfl, hT, hB, hR⟩))
