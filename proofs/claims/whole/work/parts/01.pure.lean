theorem pk_us {f : Nat → Int32} {k : Nat} {x : Int32} : upd f k x k = x := if_pos rfl
theorem pk_un {f : Nat → Int32} {k j : Nat} {x : Int32} (h : j ≠ k) : upd f k x j = f j := if_neg h
theorem pk_sub {a b : Nat} (h : b ≤ a) : nI a - nI b = nI (a - b) := by
  obtain ⟨c, rfl⟩ : ∃ c, a = c + b := ⟨a - b, by omega⟩
  rw [← nI_add, Int32.add_sub_cancel, Nat.add_sub_cancel]
theorem pk_m1 (n : Nat) : nI (n + 1) + (-1) = nI n := by
  rw [← nI_1, Int32.add_assoc, show (1 : Int32) + (-1) = 0 from rfl, Int32.add_zero]
theorem pk_mul (a b : Nat) : nI a * nI b = nI (a * b) := (Int32.ofNat_mul a b).symm
theorem pk_ix (x : Int32) {n : Nat} (hn : n < 2 ^ 31) : x < 0 ∨ nI n ≤ x ∨ ∃ j : Nat, j < n ∧ x = nI j := by
  by_cases h : x < 0
  · exact Or.inl h
  · obtain ⟨j, hj, rfl⟩ := nI_of h
    by_cases h2 : j < n
    · exact Or.inr (Or.inr ⟨j, h2, rfl⟩)
    · exact Or.inr (Or.inl (nI_le (by omega) hj))
theorem pk_le {x y : Int32} {A B : Prop} (a b : Nat) (f : a ≤ b → A) (g : b < a → B) (hx : x = nI a := by rfl) (hy : y = nI b := by rfl) (ha : a < 2 ^ 31 := by omega) (hb : b < 2 ^ 31 := by omega) : (x ≤ y → A) ∧ (¬ x ≤ y → B) := by
  subst hx hy
  rw [nI_leI ha hb]
  exact ⟨f, fun z => g (by omega)⟩
theorem pk_lt {x y : Int32} {A B : Prop} (a b : Nat) (f : a < b → A) (g : b ≤ a → B) (hx : x = nI a := by rfl) (hy : y = nI b := by rfl) (ha : a < 2 ^ 31 := by omega) (hb : b < 2 ^ 31 := by omega) : (x < y → A) ∧ (¬ x < y → B) := by
  subst hx hy
  rw [nI_ltI ha hb]
  exact ⟨f, fun z => g (by omega)⟩
theorem pk_eq {x y : Int32} {A B : Prop} (a b : Nat) (f : a = b → A) (g : a ≠ b → B) (hx : x = nI a := by rfl) (hy : y = nI b := by rfl) (ha : a < 2 ^ 31 := by omega) (hb : b < 2 ^ 31 := by omega) : (x = y → A) ∧ (¬ x = y → B) := by
  subst hx hy
  rw [nI_eq ha hb]
  exact ⟨f, g⟩
theorem pk_in {x : Int32} (n N : Nat) (h : n < N) (hx : x = nI n := by rfl) (hN : N < 2 ^ 31 := by omega) : vp_in x N := by
  subst hx
  exact vp_in_nI h hN
theorem pk_cl {x : Int32} (n : Nat) (hx : x = nI n := by rfl) (h : n < 2 ^ 31 := by omega) : x.toNatClampNeg = n := by
  subst hx
  exact nI_clamp h
noncomputable def tt_b (P : Prop) : Int32 := @ite Int32 P (Classical.propDecidable P) 1 0
theorem tt_b1 {P : Prop} (h : P) : tt_b P = 1 := by unfold tt_b; exact if_pos h
theorem tt_b0 {P : Prop} (h : ¬ P) : tt_b P = 0 := by unfold tt_b; exact if_neg h
theorem tt_bc {P Q : Prop} (h : P ↔ Q) : tt_b P = tt_b Q := by rw [propext h]
theorem tt_bor {P Q : Prop} (h : P → ¬ Q) : tt_b (P ∨ Q) = tt_b P + tt_b Q := by
  by_cases hP : P
  · rw [tt_b1 hP, tt_b1 (Or.inl hP), tt_b0 (h hP)]; rfl
  · by_cases hQ : Q
    · rw [tt_b0 hP, tt_b1 hQ, tt_b1 (Or.inr hQ)]; rfl
    · rw [tt_b0 hP, tt_b0 hQ, tt_b0 (fun z => z.elim hP hQ)]; rfl
theorem tt_band {P Q : Prop} : tt_b (P ∧ Q) = tt_b P * tt_b Q := by
  by_cases hP : P
  · by_cases hQ : Q
    · rw [tt_b1 hP, tt_b1 hQ, tt_b1 ⟨hP, hQ⟩]; rfl
    · rw [tt_b1 hP, tt_b0 hQ, tt_b0 (fun z => hQ z.2)]; rfl
  · rw [tt_b0 hP, tt_b0 (fun z => hP z.1), Int32.zero_mul]
noncomputable def tt_i (P : Prop) (a b : Int32) : Int32 := @ite Int32 P (Classical.propDecidable P) a b
theorem tt_i1 {P : Prop} {a b : Int32} (h : P) : tt_i P a b = a := by unfold tt_i; exact if_pos h
theorem tt_i0 {P : Prop} {a b : Int32} (h : ¬ P) : tt_i P a b = b := by unfold tt_i; exact if_neg h
noncomputable def tt_g (V : Int32 → Prop) : Int32 := tt_i (V 2) 2 (tt_i (V 3) 3 1)
theorem tt_g2 {V : Int32 → Prop} (h : V 2) : tt_g V = 2 := tt_i1 h
theorem tt_g3 {V : Int32 → Prop} (h : ¬ V 2) (h3 : V 3) : tt_g V = 3 := (tt_i0 h).trans (tt_i1 h3)
theorem tt_g1 {V : Int32 → Prop} (h : ¬ V 2) (h3 : ¬ V 3) : tt_g V = 1 := (tt_i0 h).trans (tt_i0 h3)
theorem tt_gc {V W : Int32 → Prop} (h2 : V 2 ↔ W 2) (h3 : V 3 ↔ W 3) : tt_g V = tt_g W := by
  unfold tt_g; rw [propext h2, propext h3]
theorem tt_g_eq1 {V : Int32 → Prop} (h : tt_g V = 1) : ¬ V 2 ∧ ¬ V 3 := by
  by_cases h2 : V 2
  · rw [tt_g2 h2] at h; exact absurd h (by decide)
  · by_cases h3 : V 3
    · rw [tt_g3 h2 h3] at h; exact absurd h (by decide)
    · exact ⟨h2, h3⟩
theorem tt_g_ne1 {V : Int32 → Prop} (h : ¬ tt_g V = 1) : V 2 ∨ V 3 := by
  by_cases h2 : V 2
  · exact Or.inl h2
  · by_cases h3 : V 3
    · exact Or.inr h3
    · exact absurd (tt_g1 h2 h3) h
theorem tt_gw (V : Int32 → Prop) (x : Int32) : tt_g (fun o => tt_g V = o ∨ x = o) = tt_g (fun o => V o ∨ x = o) := by
  by_cases h2 : V 2
  · rw [tt_g2 (V := fun o => V o ∨ x = o) (Or.inl h2)]
    exact tt_g2 (Or.inl (tt_g2 h2))
  · by_cases hx : x = 2
    · rw [tt_g2 (V := fun o => V o ∨ x = o) (Or.inr hx)]
      exact tt_g2 (Or.inr hx)
    · have n2 : ¬ tt_g V = 2 := by
        by_cases h3 : V 3
        · rw [tt_g3 h2 h3]; decide
        · rw [tt_g1 h2 h3]; decide
      by_cases h3 : V 3
      · rw [tt_g3 (V := fun o => V o ∨ x = o) (fun z => z.elim h2 hx) (Or.inl h3)]
        exact tt_g3 (fun z => z.elim n2 hx) (Or.inl (tt_g3 h2 h3))
      · by_cases hx3 : x = 3
        · rw [tt_g3 (V := fun o => V o ∨ x = o) (fun z => z.elim h2 hx) (Or.inr hx3)]
          exact tt_g3 (fun z => z.elim n2 hx) (Or.inr hx3)
        · rw [tt_g1 (V := fun o => V o ∨ x = o) (fun z => z.elim h2 hx) (fun z => z.elim h3 hx3)]
          refine tt_g1 (fun z => z.elim n2 hx) (fun z => z.elim (fun y => ?_) hx3)
          rw [tt_g1 h2 h3] at y
          exact absurd y (by decide)
theorem tt_g_rg (V : Int32 → Prop) : tt_g V = 1 ∨ tt_g V = 2 ∨ tt_g V = 3 := by
  by_cases h2 : V 2
  · exact Or.inr (Or.inl (tt_g2 h2))
  · by_cases h3 : V 3
    · exact Or.inr (Or.inr (tt_g3 h2 h3))
    · exact Or.inl (tt_g1 h2 h3)
def tt_S (f : Nat → Int32) : Nat → Int32
  | 0 => 0
  | i + 1 => tt_S f i + f i
theorem tt_S_c {f h : Nat → Int32} : ∀ i, (∀ j, j < i → f j = h j) → tt_S f i = tt_S h i
  | 0, _ => rfl
  | i + 1, e => by
    show tt_S f i + f i = tt_S h i + h i
    rw [tt_S_c i (fun j hj => e j (by omega)), e i (by omega)]
theorem tt_S_z {f : Nat → Int32} (i : Nat) (e : ∀ j, j < i → f j = 0) : tt_S f i = 0 := by
  induction i with
  | zero => rfl
  | succ i ih =>
    show tt_S f i + f i = 0
    rw [ih (fun j hj => e j (by omega)), e i (by omega)]; rfl
theorem tt_S_u {f : Nat → Int32} {j : Nat} : ∀ i, j < i → tt_S (upd f j (f j + 1)) i = tt_S f i + 1
  | 0, h => absurd h (by omega)
  | i + 1, h => by
    show tt_S (upd f j (f j + 1)) i + upd f j (f j + 1) i = tt_S f i + f i + 1
    by_cases e : j = i
    · subst e
      rw [pk_us, tt_S_c (h := f) j (fun q hq => pk_un (by omega)), Int32.add_assoc]
    · rw [pk_un (fun z => e z.symm), tt_S_u i (by omega), Int32.add_assoc, Int32.add_comm 1, Int32.add_assoc]
def tt_A (p : Nat → Nat) (c : Nat) : Nat → Nat → Prop
  | 0, _ => False
  | f + 1, i => i ≠ 0 ∧ (p i = c ∨ tt_A p c f (p i))
def tt_Ab (p : Nat → Nat) (c i : Nat) : Prop := tt_A p c i i
def tt_Hp (p : Nat → Nat) : Prop := ∀ i, 0 < i → p i < i
theorem tt_A_f {p : Nat → Nat} {c : Nat} (hp : tt_Hp p) : ∀ f i, i ≤ f → (tt_A p c f i ↔ tt_A p c i i) := by
  intro f
  induction f using Nat.strongRecOn with
  | ind f ih =>
    intro i hi
    match f, i, hi, ih with
    | 0, 0, _, _ => exact Iff.rfl
    | f + 1, 0, _, _ => exact ⟨fun z => absurd rfl z.1, fun z => z.elim⟩
    | f + 1, i + 1, hi, ih =>
      have h := hp (i + 1) (by omega)
      have e : tt_A p c f (p (i + 1)) ↔ tt_A p c i (p (i + 1)) := (ih f (by omega) _ (by omega)).trans (ih i (by omega) _ (by omega)).symm
      show (i + 1 ≠ 0 ∧ (p (i + 1) = c ∨ tt_A p c f (p (i + 1)))) ↔ (i + 1 ≠ 0 ∧ (p (i + 1) = c ∨ tt_A p c i (p (i + 1))))
      rw [propext e]
theorem tt_Ab_0 {p : Nat → Nat} {c : Nat} : ¬ tt_Ab p c 0 := id
theorem tt_Ab_s {p : Nat → Nat} (hp : tt_Hp p) {c i : Nat} (hi : 0 < i) : tt_Ab p c i ↔ p i = c ∨ tt_Ab p c (p i) := by
  match i, hi with
  | i + 1, _ =>
    have h := hp (i + 1) (by omega)
    show (i + 1 ≠ 0 ∧ (p (i + 1) = c ∨ tt_A p c i (p (i + 1)))) ↔ _
    rw [propext (tt_A_f hp i (p (i + 1)) (by omega))]
    exact ⟨fun z => z.2, fun z => ⟨by omega, z⟩⟩
theorem tt_Ab_pos {p : Nat → Nat} {c i : Nat} (h : tt_Ab p c i) : 0 < i := by
  match i, h with
  | i + 1, _ => omega
theorem tt_Ab_lt {p : Nat → Nat} (hp : tt_Hp p) {c : Nat} : ∀ i, tt_Ab p c i → c < i := by
  intro i
  induction i using Nat.strongRecOn with
  | ind i ih =>
    intro h
    have h0 := tt_Ab_pos h
    have h1 := hp i h0
    rcases (tt_Ab_s hp h0).mp h with e | e
    · omega
    · have := ih _ h1 e; omega
theorem tt_Ab_tr {p : Nat → Nat} (hp : tt_Hp p) {c d : Nat} (hc : tt_Ab p c d) : ∀ i, tt_Ab p d i → tt_Ab p c i := by
  intro i
  induction i using Nat.strongRecOn with
  | ind i ih =>
    intro h
    have h0 := tt_Ab_pos h
    have h1 := hp i h0
    rcases (tt_Ab_s hp h0).mp h with e | e
    · exact (tt_Ab_s hp h0).mpr (Or.inr (e ▸ hc))
    · exact (tt_Ab_s hp h0).mpr (Or.inr (ih _ h1 e))
theorem tt_Ab_tri {p : Nat → Nat} (hp : tt_Hp p) {c d : Nat} : ∀ t, tt_Ab p c t → (d = t ∨ tt_Ab p d t) → tt_Ab p c d ∨ c = d ∨ tt_Ab p d c := by
  intro t
  induction t using Nat.strongRecOn with
  | ind t ih =>
    intro hc hd
    have h0 := tt_Ab_pos hc
    have h1 := hp t h0
    rcases hd with rfl | hd
    · exact Or.inl hc
    · rcases (tt_Ab_s hp h0).mp hc with e | e
      · rcases (tt_Ab_s hp h0).mp hd with e' | e'
        · exact Or.inr (Or.inl (e.symm.trans e'))
        · exact Or.inr (Or.inr (e ▸ e'))
      · rcases (tt_Ab_s hp h0).mp hd with e' | e'
        · exact ih _ h1 e (Or.inl e'.symm)
        · exact ih _ h1 e (Or.inr e')
theorem tt_Ab_ch {p : Nat → Nat} (hp : tt_Hp p) {x : Nat} : ∀ t, tt_Ab p x t → ∃ j, 0 < j ∧ j ≤ t ∧ p j = x ∧ (j = t ∨ tt_Ab p j t) := by
  intro t
  induction t using Nat.strongRecOn with
  | ind t ih =>
    intro h
    have h0 := tt_Ab_pos h
    have h1 := hp t h0
    rcases (tt_Ab_s hp h0).mp h with e | e
    · exact ⟨t, h0, Nat.le_refl t, e, Or.inl rfl⟩
    · obtain ⟨j, a, b, q, r⟩ := ih _ h1 e
      refine ⟨j, a, by omega, q, Or.inr ((tt_Ab_s hp h0).mpr ?_)⟩
      rcases r with r | r
      · exact Or.inl r.symm
      · exact Or.inr r
def tt_Pa (p : Nat → Nat) (H : Nat → Int32) (w i : Nat) : Prop := ∀ c, tt_Ab p c i → H (c * 4 + w) ≤ 1
theorem tt_Pa_0 {p : Nat → Nat} {H : Nat → Int32} {w : Nat} : tt_Pa p H w 0 := fun _ h => absurd h tt_Ab_0
theorem tt_Pa_s {p : Nat → Nat} (hp : tt_Hp p) {H : Nat → Int32} {w i : Nat} (hi : 0 < i) : tt_Pa p H w i ↔ H (p i * 4 + w) ≤ 1 ∧ tt_Pa p H w (p i) := by
  constructor
  · intro h
    exact ⟨h _ ((tt_Ab_s hp hi).mpr (Or.inl rfl)), fun c hc => h c ((tt_Ab_s hp hi).mpr (Or.inr hc))⟩
  · intro h c hc
    rcases (tt_Ab_s hp hi).mp hc with e | e
    · exact e ▸ h.1
    · exact h.2 c e
def tt_Re (p : Nat → Nat) (D : Nat → Int32) (i : Nat) : Prop := D i = 0 ∧ ∀ c, tt_Ab p c i → D c = 0
theorem tt_Re_s {p : Nat → Nat} (hp : tt_Hp p) {D : Nat → Int32} {i : Nat} (hi : 0 < i) : tt_Re p D i ↔ D i = 0 ∧ tt_Re p D (p i) := by
  constructor
  · intro h
    exact ⟨h.1, h.2 _ ((tt_Ab_s hp hi).mpr (Or.inl rfl)), fun c hc => h.2 c ((tt_Ab_s hp hi).mpr (Or.inr hc))⟩
  · intro h
    refine ⟨h.1, fun c hc => ?_⟩
    rcases (tt_Ab_s hp hi).mp hc with e | e
    · exact e ▸ h.2.1
    · exact h.2.2 c e
def tt_Se (p : Nat → Nat) (T D TS : Nat → Int32) (g : Int32) (t : Nat) : Prop := ¬ T t = 0 ∧ ¬ TS t &&& g = 0 ∧ tt_Re p D t
def tt_Wn (n : Nat) (p : Nat → Nat) (T D TS : Nat → Int32) (g : Int32) (x : Nat) : Prop := tt_Se p T D TS g x ∨ ∃ t, t < n ∧ tt_Ab p x t ∧ tt_Se p T D TS g t
theorem tt_Wn_up {n : Nat} {p : Nat → Nat} {T D TS : Nat → Int32} {g : Int32} (hp : tt_Hp p) {j : Nat} (h0 : 0 < j) (hj : j < n) (h : tt_Wn n p T D TS g j) : tt_Wn n p T D TS g (p j) := by
  rcases h with h | ⟨t, a, b, c⟩
  · exact Or.inr ⟨j, hj, (tt_Ab_s hp h0).mpr (Or.inl rfl), h⟩
  · exact Or.inr ⟨t, a, tt_Ab_tr hp ((tt_Ab_s hp h0).mpr (Or.inl rfl)) t b, c⟩
theorem tt_Wn_s {n : Nat} {p : Nat → Nat} {T D TS : Nat → Int32} {g : Int32} (hp : tt_Hp p) (x : Nat) : tt_Wn n p T D TS g x ↔ tt_Se p T D TS g x ∨ ∃ j, 0 < j ∧ j < n ∧ p j = x ∧ tt_Wn n p T D TS g j := by
  constructor
  · rintro (h | ⟨t, a, b, c⟩)
    · exact Or.inl h
    · obtain ⟨j, j0, jt, e, r⟩ := tt_Ab_ch hp t b
      refine Or.inr ⟨j, j0, by omega, e, ?_⟩
      rcases r with r | r
      · exact Or.inl (r ▸ c)
      · exact Or.inr ⟨t, a, r, c⟩
  · rintro (h | ⟨j, j0, jn, e, h⟩)
    · exact Or.inl h
    · exact e ▸ tt_Wn_up hp j0 jn h
def tt_Go (n : Nat) (p : Nat → Nat) (T D H TS : Nat → Int32) (g : Int32) (x : Nat) : Prop := tt_Wn n p T D TS g x ∧ tt_Pa p H 0 x
def tt_Ha (p : Nat → Nat) (H : Nat → Int32) (t : Nat) (ow : Int32 → Prop) (o : Int32) : Prop := (∃ c, tt_Ab p c t ∧ tt_Pa p H 2 c ∧ (H (c * 4 + 2) = o ∨ H (c * 4 + 3) = o)) ∨ (ow o ∧ tt_Pa p H 2 t)
def tt_lp (f : Nat → Int32) : Nat → Nat → Nat → Int32 → Nat × Int32
  | 0, _, m, l => (m, l)
  | r + 1, i, m, l => if l = 2 then tt_lp f r (i + 1) (m + 1) (f i) else tt_lp f r (i + 1) m l
theorem tt_lp_n {f : Nat → Int32} {m : Nat} {l : Int32} (h : ¬ l = 2) : ∀ r i, tt_lp f r i m l = (m, l)
  | 0, _ => rfl
  | r + 1, i => by
    show (if l = 2 then _ else tt_lp f r (i + 1) m l) = _
    rw [if_neg h, tt_lp_n h r]
theorem tt_lp_s {f : Nat → Int32} {m r i : Nat} : tt_lp f (r + 1) i m 2 = tt_lp f r (i + 1) (m + 1) (f i) := by
  show (if (2 : Int32) = 2 then _ else _) = _
  rw [if_pos rfl]
theorem tt_lp_r {f : Nat → Int32} (hf : ∀ i, f i = 1 ∨ f i = 2 ∨ f i = 3) : ∀ r i m l, (l = 1 ∨ l = 2 ∨ l = 3) → ((tt_lp f r i m l).2 = 1 ∨ (tt_lp f r i m l).2 = 2 ∨ (tt_lp f r i m l).2 = 3)
  | 0, _, _, _, h => h
  | r + 1, i, m, l, h => by
    by_cases e : l = 2
    · rw [e, tt_lp_s]; exact tt_lp_r hf r _ _ _ (hf i)
    · rw [tt_lp_n e]; exact h
theorem tt_lp_le {f : Nat → Int32} : ∀ r i m l, (tt_lp f r i m l).1 ≤ m + r
  | 0, _, _, _ => Nat.le_refl _
  | r + 1, i, m, l => by
    by_cases e : l = 2
    · rw [e, tt_lp_s]; have := tt_lp_le (f := f) r (i + 1) (m + 1) (f i); omega
    · rw [tt_lp_n e]; show m ≤ _; omega
def tt_own (OC : Nat → Int32) (t i : Nat) : Int32 := (OC t >>> ((2 * nI i) &&& 31)) &&& 3
noncomputable def tt_gt (p : Nat → Nat) (H OC : Nat → Int32) (t i : Nat) : Int32 := tt_g (tt_Ha p H t (fun o => tt_own OC t i = o))
noncomputable def tt_mr (p : Nat → Nat) (H OC TR : Nat → Int32) (t : Nat) : Nat × Int32 := tt_lp (tt_gt p H OC t) (TR t).toNatClampNeg 0 0 2
noncomputable def tt_md (n : Nat) (p : Nat → Nat) (T D H TS OC TR : Nat → Int32) (g : Int32) (t : Nat) : Int32 := tt_i (¬ T t = 0 ∧ tt_Go n p T D H TS g t) (nI (tt_mr p H OC TR t).1) 0
noncomputable def tt_rs (n : Nat) (p : Nat → Nat) (T D H TS OC TR : Nat → Int32) (g : Int32) (t : Nat) : Int32 := tt_i (tt_Go n p T D H TS g t) (tt_i (T t = 0) (tt_g (fun o => H (t * 4 + 0) = o ∨ H (t * 4 + 1) = o)) (tt_mr p H OC TR t).2) 0
noncomputable def tt_ev (n : Nat) (p : Nat → Nat) (T D H TS OC TR : Nat → Int32) (g : Int32) (i c w : Nat) : Int32 :=
  if w = 0 then (if c < i then tt_i (T c = 0) (tt_b (tt_Go n p T D H TS g c ∧ ¬ H (c * 4 + 0) = 0)) (tt_b (tt_Pa p H 2 c) * tt_md n p T D H TS OC TR g c) else 0)
  else if w = 1 then (if c < i then tt_b (T c = 0 ∧ tt_Go n p T D H TS g c ∧ ¬ H (c * 4 + 1) = 0) else 0)
  else tt_b (tt_Pa p H 2 c ∧ ¬ H (c * 4 + w) = 0) * tt_S (fun t => tt_b (tt_Ab p c t) * tt_md n p T D H TS OC TR g t) i
