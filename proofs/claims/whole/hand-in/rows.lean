section
/-! pasted from kit/rows/PURE-ROWS: as it stands there -/
theorem pk_us {f : Nat → Int32} {k : Nat} {x : Int32} : upd f k x k = x := if_pos rfl
theorem pk_un {f : Nat → Int32} {k j : Nat} {x : Int32} (h : j ≠ k) : upd f k x j = f j := if_neg h
theorem pk_sub {a b : Nat} (h : b ≤ a) : nI a - nI b = nI (a - b) := by
  obtain ⟨c, rfl⟩ : ∃ c, a = c + b := ⟨a - b, by omega⟩
  rw [← nI_add, Int32.add_sub_cancel, Nat.add_sub_cancel]
theorem pk_m1 (n : Nat) : nI (n + 1) + (-1) = nI n := by
  rw [← nI_1, Int32.add_assoc, show (1 : Int32) + (-1) = 0 from rfl, Int32.add_zero]
theorem pk_mul (a b : Nat) : nI a * nI b = nI (a * b) := (Int32.ofNat_mul a b).symm
theorem pk_div {a d : Nat} (ha : a < 2 ^ 31) (h0 : 0 < d) (hd : d < 2 ^ 31) : nI a / nI d = nI (a / d) := by
  apply Int32.toInt_inj.mp
  rw [lg_idiv_nonneg (by rw [nI_toInt ha]; omega) (by rw [nI_toInt hd]; omega), nI_toInt ha, nI_toInt hd, nI_toInt (Nat.lt_of_le_of_lt (Nat.div_le_self a d) ha)]
  first | rfl | exact (Int.natCast_ediv _ _).symm
theorem pk_rem {a d : Nat} (ha : a < 2 ^ 31) (h0 : 0 < d) (hd : d < 2 ^ 31) : nI a - nI a / nI d * nI d = nI (a % d) := by
  rw [pk_div ha h0 hd, pk_mul, pk_sub (Nat.div_mul_le_self a d)]
  exact congrArg nI (by have := Nat.div_add_mod' a d; omega)
theorem pk_ix (x : Int32) {n : Nat} (hn : n < 2 ^ 31) : x < 0 ∨ nI n ≤ x ∨ ∃ j : Nat, j < n ∧ x = nI j := by
  by_cases h : x < 0
  · exact Or.inl h
  · obtain ⟨j, hj, rfl⟩ := nI_of h
    by_cases h2 : j < n
    · exact Or.inr (Or.inr ⟨j, h2, rfl⟩)
    · exact Or.inr (Or.inl (nI_le (by omega) hj))
theorem pk_le {x y : Int32} {A B : Prop} (a b : Nat) (f : a ≤ b → A) (g : b < a → B) (hx : x = nI a := by rfl) (hy : y = nI b := by rfl) (ha : a < 2 ^ 31 := by omega) (hb : b < 2 ^ 31 := by omega) : (x ≤ y → A) ∧ (¬ x ≤ y → B) := by
  subst hx hy
  rw [nI_leI ha hb]
  exact ⟨f, fun z => g (by omega)⟩
theorem pk_lt {x y : Int32} {A B : Prop} (a b : Nat) (f : a < b → A) (g : b ≤ a → B) (hx : x = nI a := by rfl) (hy : y = nI b := by rfl) (ha : a < 2 ^ 31 := by omega) (hb : b < 2 ^ 31 := by omega) : (x < y → A) ∧ (¬ x < y → B) := by
  subst hx hy
  rw [nI_ltI ha hb]
  exact ⟨f, fun z => g (by omega)⟩
theorem pk_eq {x y : Int32} {A B : Prop} (a b : Nat) (f : a = b → A) (g : a ≠ b → B) (hx : x = nI a := by rfl) (hy : y = nI b := by rfl) (ha : a < 2 ^ 31 := by omega) (hb : b < 2 ^ 31 := by omega) : (x = y → A) ∧ (¬ x = y → B) := by
  subst hx hy
  rw [nI_eq ha hb]
  exact ⟨f, g⟩
theorem pk_least (P : Nat → Prop) (h : ∃ k, P k) : ∃ k, P k ∧ ∀ j, j < k → ¬ P j := by
  obtain ⟨k, hk⟩ := h
  induction k using Nat.strongRecOn with
  | ind k ih =>
    by_cases e : ∃ j, j < k ∧ P j
    · obtain ⟨j, hj, pj⟩ := e
      exact ih j hj pj
    · exact ⟨k, hk, fun j hj pj => e ⟨j, hj, pj⟩⟩
end
section
/-! cells, sides, neighbours, counting, light, rooms; no printed predicate stands here -/
/-- the neighbour of a cell at a side, in the component's order of the sides -/
def lf_n (c s : Nat) : Option Nat :=
  match s with
  | 0 => if 0 < c % 6 then some (c - 1) else none
  | 1 => if c % 6 < 5 then some (c + 1) else none
  | 2 => if 0 < c / 6 % 6 then some (c - 6) else none
  | 3 => if c / 6 % 6 < 5 then some (c + 6) else none
  | 4 => if 0 < c / 36 then some (c - 36) else none
  | _ => if c / 36 < 5 then some (c + 36) else none
/-- the side against a side -/
def lf_o (s : Nat) : Nat :=
  match s with
  | 0 => 1
  | 1 => 0
  | 2 => 3
  | 3 => 2
  | 4 => 5
  | _ => 4
/-- the same in the reference's order of the sides -/
def lf_m (c s : Nat) : Option Nat := lf_n c (lf_o s)
theorem lf_o_lt (s : Nat) : lf_o s < 6 := by
  match s with
  | 0 => decide
  | 1 => decide
  | 2 => decide
  | 3 => decide
  | 4 => decide
  | n + 5 => show 4 < 6; decide
theorem lf_oo : ∀ s, s < 6 → lf_o (lf_o s) = s := by decide
theorem lf_tab : (List.range 216).all (fun c => (List.range 6).all (fun s => match lf_n c s with
  | none => true
  | some d => decide (d < 216) && (lf_n d (lf_o s) == some c))) = true := by decide +kernel
theorem lf_nm {c s d : Nat} (hc : c < 216) (hs : s < 6) (e : lf_n c s = some d) : d < 216 ∧ lf_n d (lf_o s) = some c := by
  have h := List.all_eq_true.mp (List.all_eq_true.mp lf_tab c (List.mem_range.mpr hc)) s (List.mem_range.mpr hs)
  simp only [e, Bool.and_eq_true, decide_eq_true_eq, beq_iff_eq] at h
  exact h
def lf_adj (c d : Nat) : Prop := ∃ s, s < 6 ∧ lf_n c s = some d
theorem lf_adj_in {c d : Nat} (hc : c < 216) (h : lf_adj c d) : d < 216 := by
  obtain ⟨s, hs, e⟩ := h
  exact (lf_nm hc hs e).1
theorem lf_adj_sym {c d : Nat} (hc : c < 216) (h : lf_adj c d) : lf_adj d c := by
  obtain ⟨s, hs, e⟩ := h
  exact ⟨lf_o s, lf_o_lt s, (lf_nm hc hs e).2⟩
theorem lf_adj_m {c d s : Nat} (h : lf_m c s = some d) : lf_adj c d := ⟨lf_o s, lf_o_lt s, h⟩
theorem lf_adj_ex {c d : Nat} (h : lf_adj c d) : ∃ s, s < 6 ∧ lf_m c s = some d := by
  obtain ⟨s, hs, e⟩ := h
  refine ⟨lf_o s, lf_o_lt s, ?_⟩
  show lf_n c (lf_o (lf_o s)) = some d
  rw [lf_oo s hs]
  exact e
/-! counting -/
noncomputable def lf_b (p : Prop) : Nat := @ite Nat p (Classical.propDecidable p) 1 0
noncomputable def lf_cn (p : Nat → Prop) : Nat → Nat
  | 0 => 0
  | n + 1 => lf_cn p n + lf_b (p n)
theorem lf_cn_t {p : Nat → Prop} {n : Nat} (h : p n) : lf_cn p (n + 1) = lf_cn p n + 1 := by
  show lf_cn p n + lf_b (p n) = _
  rw [lf_b, if_pos h]
theorem lf_cn_f {p : Nat → Prop} {n : Nat} (h : ¬ p n) : lf_cn p (n + 1) = lf_cn p n := by
  show lf_cn p n + lf_b (p n) = _
  rw [lf_b, if_neg h]
  rfl
theorem lf_cn_le (p : Nat → Prop) (n : Nat) : lf_cn p n ≤ n := by
  induction n with
  | zero => exact Nat.le_refl 0
  | succ n ih =>
    by_cases h : p n
    · rw [lf_cn_t h]; omega
    · rw [lf_cn_f h]; omega
theorem lf_cn_congr {p q : Nat → Prop} {n : Nat} (h : ∀ i, i < n → (p i ↔ q i)) : lf_cn p n = lf_cn q n := by
  induction n with
  | zero => rfl
  | succ n ih =>
    have e := ih fun i hi => h i (by omega)
    by_cases hp : p n
    · rw [lf_cn_t hp, lf_cn_t ((h n (by omega)).mp hp), e]
    · rw [lf_cn_f hp, lf_cn_f (fun hq => hp ((h n (by omega)).mpr hq)), e]
theorem lf_cn_mono {p q : Nat → Prop} {n : Nat} (h : ∀ i, i < n → p i → q i) : lf_cn p n ≤ lf_cn q n := by
  induction n with
  | zero => exact Nat.le_refl 0
  | succ n ih =>
    have e := ih fun i hi => h i (by omega)
    by_cases hp : p n
    · rw [lf_cn_t hp, lf_cn_t (h n (by omega) hp)]; omega
    · rw [lf_cn_f hp]
      by_cases hq : q n
      · rw [lf_cn_t hq]; omega
      · rw [lf_cn_f hq]; exact e
theorem lf_cn_lt {p q : Nat → Prop} {n : Nat} (h : ∀ i, i < n → p i → q i) {i : Nat} (hi : i < n) (hq : q i) (hp : ¬ p i) : lf_cn p n < lf_cn q n := by
  induction n with
  | zero => omega
  | succ n ih =>
    by_cases e : i = n
    · subst e
      have := lf_cn_mono (p := p) (q := q) (n := i) fun j hj => h j (by omega)
      rw [lf_cn_f hp, lf_cn_t hq]; omega
    · have e1 := ih (fun j hj => h j (by omega)) (by omega)
      by_cases hp' : p n
      · rw [lf_cn_t hp', lf_cn_t (h n (by omega) hp')]; omega
      · rw [lf_cn_f hp']
        by_cases hq' : q n
        · rw [lf_cn_t hq']; omega
        · rw [lf_cn_f hq']; exact e1
theorem lf_cn_all {p : Nat → Prop} {n : Nat} (h : ∀ i, i < n → p i) : lf_cn p n = n := by
  induction n with
  | zero => rfl
  | succ n ih => rw [lf_cn_t (h n (by omega)), ih fun i hi => h i (by omega)]
theorem lf_cn_full {p : Nat → Prop} {n : Nat} (h : n ≤ lf_cn p n) : ∀ i, i < n → p i := by
  intro i hi
  refine Classical.byContradiction fun hp => ?_
  have a := lf_cn_lt (p := p) (q := fun _ => True) (fun _ _ _ => trivial) hi trivial hp
  have b := lf_cn_le (fun _ => True) n
  omega
theorem lf_cn_add (p : Nat → Prop) (a b : Nat) : lf_cn p (a + b) = lf_cn p a + lf_cn (fun i => p (a + i)) b := by
  induction b with
  | zero => rfl
  | succ b ih =>
    by_cases h : p (a + b)
    · rw [← Nat.add_assoc, lf_cn_t h, lf_cn_t (p := fun i => p (a + i)) h, ih]; omega
    · rw [← Nat.add_assoc, lf_cn_f h, lf_cn_f (p := fun i => p (a + i)) h, ih]
/-- six sides in the one order and in the other -/
theorem lf_cn_6 (p : Nat → Prop) : lf_cn (fun s => p (lf_o s)) 6 = lf_cn p 6 := by
  show 0 + lf_b (p 1) + lf_b (p 0) + lf_b (p 3) + lf_b (p 2) + lf_b (p 5) + lf_b (p 4) = 0 + lf_b (p 0) + lf_b (p 1) + lf_b (p 2) + lf_b (p 3) + lf_b (p 4) + lf_b (p 5)
  omega
/-! light: the least function above the sources that is closed under flowing -/
def lf_Cl (W : Nat → Int32) (f : Nat → Nat) : Prop := ∀ d c, d < 216 → lf_adj d c → W c = 0 → f d ≤ f c + 1
def lf_Ok (W : Nat → Int32) (s f : Nat → Nat) : Prop := (∀ c, c < 216 → s c ≤ f c) ∧ lf_Cl W f
def lf_L (W : Nat → Int32) (s f : Nat → Nat) : Prop := lf_Ok W s f ∧ ∀ g, lf_Ok W s g → ∀ c, c < 216 → f c ≤ g c
theorem lf_ok12 {W : Nat → Int32} {s : Nat → Nat} (h : ∀ c, c < 216 → s c ≤ 12) : lf_Ok W s (fun _ => 12) := ⟨h, fun _ _ _ _ _ => Nat.le_succ 12⟩
theorem lf_ex (W : Nat → Int32) {s : Nat → Nat} (h : ∀ c, c < 216 → s c ≤ 12) : ∃ f, lf_L W s f := by
  have key : ∀ c : Nat, ∃ v : Nat, (∃ g, lf_Ok W s g ∧ g c = v) ∧ ∀ j, j < v → ¬ ∃ g, lf_Ok W s g ∧ g c = j := fun c => pk_least (fun v => ∃ g, lf_Ok W s g ∧ g c = v) ⟨12, fun _ => 12, lf_ok12 h, rfl⟩
  obtain ⟨f, hf⟩ : ∃ f : Nat → Nat, ∀ c, (∃ g, lf_Ok W s g ∧ g c = f c) ∧ ∀ j, j < f c → ¬ ∃ g, lf_Ok W s g ∧ g c = j := ⟨fun c => Classical.choose (key c), fun c => Classical.choose_spec (key c)⟩
  have h2 : ∀ c g, lf_Ok W s g → f c ≤ g c := fun c g hg => Nat.le_of_not_lt fun hl => (hf c).2 _ hl ⟨g, hg, rfl⟩
  refine ⟨f, ⟨fun c hc => ?_, fun d c hd ha hw => ?_⟩, fun g hg c _ => h2 c g hg⟩
  · obtain ⟨g, hg, e⟩ := (hf c).1
    rw [← e]
    exact hg.1 c hc
  · obtain ⟨g, hg, e⟩ := (hf c).1
    rw [← e]
    exact Nat.le_trans (h2 d g hg) (hg.2 d c hd ha hw)
theorem lf_un {W : Nat → Int32} {s f g : Nat → Nat} (h : lf_L W s f) (h' : lf_L W s g) {c : Nat} (hc : c < 216) : f c = g c := Nat.le_antisymm (h.2 g h'.1 c hc) (h'.2 f h.1 c hc)
theorem lf_top {W : Nat → Int32} {s f : Nat → Nat} (hs : ∀ c, c < 216 → s c ≤ 12) (h : lf_L W s f) {c : Nat} (hc : c < 216) : f c ≤ 12 := h.2 _ (lf_ok12 hs) c hc
theorem lf_max {W : Nat → Int32} {s t f g : Nat → Nat} (h : lf_L W s f) (h' : lf_L W t g) : lf_L W (fun c => max (s c) (t c)) (fun c => max (f c) (g c)) := by
  refine ⟨⟨fun c hc => ?_, fun d c hd ha hw => ?_⟩, fun k hk c hc => ?_⟩
  · have a := h.1.1 c hc
    have b := h'.1.1 c hc
    show max (s c) (t c) ≤ max (f c) (g c)
    omega
  · have a := h.1.2 d c hd ha hw
    have b := h'.1.2 d c hd ha hw
    show max (f d) (g d) ≤ max (f c) (g c) + 1
    omega
  · have a := h.2 k ⟨fun x hx => Nat.le_trans (Nat.le_max_left _ _) (hk.1 x hx), hk.2⟩ c hc
    have b := h'.2 k ⟨fun x hx => Nat.le_trans (Nat.le_max_right _ _) (hk.1 x hx), hk.2⟩ c hc
    show max (f c) (g c) ≤ k c
    omega
theorem lf_congr {W : Nat → Int32} {s t f : Nat → Nat} (e : ∀ c, c < 216 → s c = t c) (h : lf_L W s f) : lf_L W t f :=
  ⟨⟨fun c hc => by rw [← e c hc]; exact h.1.1 c hc, h.1.2⟩, fun g hg => h.2 g ⟨fun c hc => by rw [e c hc]; exact hg.1 c hc, hg.2⟩⟩
/-- a cell above its source has its light from a neighbour -/
theorem lf_tight {W : Nat → Int32} {s f : Nat → Nat} (h : lf_L W s f) {c : Nat} (hc : c < 216) (hl : s c < f c) : W c = 0 ∧ ∃ d, d < 216 ∧ lf_adj d c ∧ f d = f c + 1 := by
  refine Classical.byContradiction fun hn => ?_
  have hg : lf_Ok W s (fun x => if x = c then f c - 1 else f x) := by
    refine ⟨fun x hx => ?_, fun d x hd ha hw => ?_⟩
    · show s x ≤ if x = c then f c - 1 else f x
      by_cases e : x = c
      · subst e
        rw [if_pos rfl]; omega
      · rw [if_neg e]; exact h.1.1 x hx
    · show (if d = c then f c - 1 else f d) ≤ (if x = c then f c - 1 else f x) + 1
      have k := h.1.2 d x hd ha hw
      have k1 : (if d = c then f c - 1 else f d) ≤ f d := by
        by_cases e : d = c
        · subst e
          rw [if_pos rfl]; omega
        · rw [if_neg e]; exact Nat.le_refl _
      by_cases e : x = c
      · subst e
        rw [if_pos rfl]
        have k2 : f d ≠ f x + 1 := fun e => hn ⟨hw, d, hd, ha, e⟩
        omega
      · rw [if_neg e]; omega
  have k := h.2 _ hg c hc
  have k' : f c ≤ if c = c then f c - 1 else f c := k
  rw [if_pos rfl] at k'
  omega
/-! the reference's passes -/
def lf_Pre (F s : Nat → Nat) (k : Nat) (f : Nat → Nat) : Prop := (∀ c, c < 216 → s c ≤ f c ∧ f c ≤ F c) ∧ ∀ c, c < 216 → 12 ≤ F c + k → f c = F c
theorem lf_pre0 {W : Nat → Int32} {s F : Nat → Nat} (hs : ∀ c, c < 216 → s c ≤ 12) (h : lf_L W s F) : lf_Pre F s 0 s := by
  refine ⟨fun c hc => ⟨Nat.le_refl _, h.1.1 c hc⟩, fun c hc hk => ?_⟩
  have a := h.1.1 c hc
  refine Classical.byContradiction fun hn => ?_
  obtain ⟨_, d, hd, _, e⟩ := lf_tight h hc (by omega)
  have b := lf_top hs h hd
  omega
theorem lf_preS {W : Nat → Int32} {s F f0 f : Nat → Nat} {k : Nat} (h : lf_L W s F) (p : lf_Pre F s k f0) (hf : ∀ c, c < 216 → f0 c ≤ f c ∧ f c ≤ F c) (hr : ∀ c d, c < 216 → lf_adj c d → W c = 0 → f0 d ≤ f c + 1) : lf_Pre F s (k + 1) f := by
  refine ⟨fun c hc => ⟨Nat.le_trans (p.1 c hc).1 (hf c hc).1, (hf c hc).2⟩, fun c hc hk => ?_⟩
  have a := hf c hc
  have b := p.1 c hc
  by_cases e : s c < F c
  · obtain ⟨hw, d, hd, ha, ed⟩ := lf_tight h hc e
    have q := p.2 d hd (by omega)
    have r := hr c d hc (lf_adj_sym hd ha) hw
    omega
  · omega
theorem lf_preE {W : Nat → Int32} {s F f : Nat → Nat} {k : Nat} (h : lf_L W s F) (p : lf_Pre F s k f) (e : 12 ≤ k ∨ lf_Cl W f) {c : Nat} (hc : c < 216) : f c = F c := by
  rcases e with e | e
  · exact p.2 c hc (by omega)
  · exact Nat.le_antisymm (p.1 c hc).2 (h.2 f ⟨fun c hc => (p.1 c hc).1, e⟩ c hc)
/-! the component's levels -/
def lf_Lv (W : Nat → Int32) (F s : Nat → Nat) (l i : Nat) (f : Nat → Nat) : Prop := (∀ c, c < 216 → s c ≤ f c ∧ f c ≤ F c) ∧ (∀ d c, d < 216 → lf_adj d c → W c = 0 → l < f d → f d ≤ f c + 1) ∧ ∀ d, d < i → d < 216 → f d = l → ∀ c, lf_adj d c → W c = 0 → l ≤ f c + 1
theorem lf_lv0 {W : Nat → Int32} {s F : Nat → Nat} (hs : ∀ c, c < 216 → s c ≤ 12) (h : lf_L W s F) : lf_Lv W F s 12 0 s :=
  ⟨fun c hc => ⟨Nat.le_refl _, h.1.1 c hc⟩, fun d c hd _ _ hl => by have := hs d hd; omega, fun d hd => by omega⟩
theorem lf_lvS {W : Nat → Int32} {F s f f' : Nat → Nat} {l i : Nat} (h : lf_Lv W F s l i f) (hf : ∀ c, c < 216 → f c ≤ f' c ∧ f' c ≤ F c ∧ (f' c = f c ∨ f' c + 1 = l)) (hr : ∀ c, lf_adj i c → W c = 0 → l ≤ f' c + 1) : lf_Lv W F s l (i + 1) f' := by
  refine ⟨fun c hc => ⟨Nat.le_trans (h.1 c hc).1 (hf c hc).1, (hf c hc).2.1⟩, fun d c hd ha hw hl => ?_, fun d hi hd hl c ha hw => ?_⟩
  · have a := hf d hd
    have b := hf c (lf_adj_in hd ha)
    have k := h.2.1 d c hd ha hw
    omega
  · by_cases e : d = i
    · subst e
      exact hr c ha hw
    · have a := hf d hd
      have b := hf c (lf_adj_in hd ha)
      have k := h.2.2 d (by omega) hd (by omega) c ha hw
      omega
theorem lf_lvN {W : Nat → Int32} {F s f : Nat → Nat} {l i : Nat} (h : lf_Lv W F s l i f) (e : f i ≠ l) : lf_Lv W F s l (i + 1) f := by
  refine ⟨h.1, h.2.1, fun d hi hd hl c ha hw => ?_⟩
  by_cases e' : d = i
  · subst e'
    exact absurd hl e
  · exact h.2.2 d (by omega) hd hl c ha hw
theorem lf_lvD {W : Nat → Int32} {F s f : Nat → Nat} {l : Nat} (h : lf_Lv W F s (l + 1) 216 f) : lf_Lv W F s l 0 f := by
  refine ⟨h.1, fun d c hd ha hw hl => ?_, fun d hd => by omega⟩
  by_cases e : f d = l + 1
  · have := h.2.2 d hd hd e c ha hw
    omega
  · exact h.2.1 d c hd ha hw (by omega)
theorem lf_lvE {W : Nat → Int32} {F s f : Nat → Nat} (h : lf_L W s F) (p : lf_Lv W F s 1 0 f) {c : Nat} (hc : c < 216) : f c = F c := by
  refine Nat.le_antisymm (p.1 c hc).2 (h.2 f ⟨fun c hc => (p.1 c hc).1, fun d c hd ha hw => ?_⟩ c hc)
  by_cases e : 1 < f d
  · exact p.2.1 d c hd ha hw e
  · omega
/-! the sky -/
def lf_sky (W : Nat → Int32) (c : Nat) : Prop := ∀ j, c + 36 * j < 216 → W (c + 36 * j) = 0
theorem lf_sky0 {W : Nat → Int32} {c : Nat} (h : 216 ≤ c) : lf_sky W c := fun j hj => by omega
theorem lf_skyS {W : Nat → Int32} {c : Nat} (h : c < 216) : lf_sky W c ↔ W c = 0 ∧ lf_sky W (c + 36) := by
  constructor
  · intro k
    refine ⟨k 0 h, fun j hj => ?_⟩
    have := k (j + 1) (by omega)
    rw [show c + 36 + 36 * j = c + 36 * (j + 1) from by omega]
    exact this
  · intro k j hj
    match j with
    | 0 => exact k.1
    | j + 1 =>
      rw [show c + 36 * (j + 1) = c + 36 + 36 * j from by omega] at hj ⊢
      exact k.2 j hj
/-! boxes -/
def lf_le (a b : Nat) : Prop := a % 6 ≤ b % 6 ∧ a / 6 % 6 ≤ b / 6 % 6 ∧ a / 36 ≤ b / 36
end
section
/-! rooms: connected cells, the reference's labels, the component's queue -/
def lf_st (W : Nat → Int32) (a b : Nat) : Prop := a < 216 ∧ lf_adj a b ∧ W a = 0 ∧ W b = 0
theorem lf_st_sym {W : Nat → Int32} {a b : Nat} (h : lf_st W a b) : lf_st W b a := ⟨lf_adj_in h.1 h.2.1, lf_adj_sym h.1 h.2.1, h.2.2.2, h.2.2.1⟩
def lf_conn (W : Nat → Int32) (c d : Nat) : Prop := ∀ P : Nat → Prop, P c → (∀ a b, P a → lf_st W a b → P b) → P d
theorem lf_conn_r {W : Nat → Int32} (c : Nat) : lf_conn W c c := fun _ h _ => h
theorem lf_conn_s {W : Nat → Int32} {c a b : Nat} (h : lf_conn W c a) (s : lf_st W a b) : lf_conn W c b := fun P h0 hs => hs a b (h P h0 hs) s
theorem lf_conn_t {W : Nat → Int32} {c d e : Nat} (h : lf_conn W c d) (k : lf_conn W d e) : lf_conn W c e := k (lf_conn W c) h fun _ _ ha s => lf_conn_s ha s
theorem lf_conn_y {W : Nat → Int32} {c d : Nat} (h : lf_conn W c d) : lf_conn W d c := h (fun x => lf_conn W x c) (lf_conn_r c) fun a b ha s => lf_conn_t (lf_conn_s (lf_conn_r b) (lf_st_sym s)) ha
theorem lf_conn_in {W : Nat → Int32} {c d : Nat} (h : lf_conn W c d) (hc : c < 216) : d < 216 := h (fun x => x < 216) hc fun _ _ ha s => lf_adj_in ha s.2.1
/-- nothing but itself is connected to a solid cell -/
theorem lf_conn_w {W : Nat → Int32} {c d : Nat} (h : lf_conn W c d) : c = d ∨ W c = 0 := h (fun x => c = x ∨ W c = 0) (Or.inl rfl) fun a b ha s => by
  rcases ha with e | e
  · subst e
    exact Or.inr s.2.2.1
  · exact Or.inr e
/-- the least cell of its room -/
def lf_ls (W : Nat → Int32) (c : Nat) : Prop := ∀ d, d < c → ¬ lf_conn W d c
/-! the reference's labels -/
def lf_set (W : Nat → Int32) (l : Nat → Nat) (c : Nat) : Prop := ∀ d, lf_conn W c d → l c ≤ d
def lf_Lb (W : Nat → Int32) (l : Nat → Nat) : Prop := ∀ c, c < 216 → l c ≤ c ∧ lf_conn W c (l c)
theorem lf_lb0 (W : Nat → Int32) : lf_Lb W (fun c => c) := fun c _ => ⟨Nat.le_refl c, lf_conn_r c⟩
theorem lf_set_ls {W : Nat → Int32} {l : Nat → Nat} {c : Nat} (hc : c < 216) (b : lf_Lb W l) (h : lf_set W l c) : l c = c ↔ lf_ls W c := by
  constructor
  · intro e d hd k
    have := h d (lf_conn_y k)
    omega
  · intro k
    have a := (b c hc).1
    refine Classical.byContradiction fun hn => ?_
    exact k (l c) (by omega) (lf_conn_y (b c hc).2)
/-- a pass that changes nothing leaves every label settled -/
theorem lf_set_all {W : Nat → Int32} {l : Nat → Nat} (b : lf_Lb W l) (h : ∀ c d, lf_st W c d → l c ≤ l d) {c : Nat} (hc : c < 216) : lf_set W l c := by
  intro d k
  have a : l c ≤ l d := k (fun x => l c ≤ l x) (Nat.le_refl _) fun x y hx s => Nat.le_trans hx (h x y s)
  exact Nat.le_trans a (b d (lf_conn_in k hc)).1
/-- a pass settles one cell more, if one is left -/
theorem lf_setS {W : Nat → Int32} {l0 l : Nat → Nat} {k : Nat} (b0 : lf_Lb W l0) (hk : k < 216) (h : k ≤ lf_cn (lf_set W l0) 216) (hl : ∀ c, c < 216 → l c ≤ l0 c) (hs : ∀ c d, lf_st W c d → l c ≤ l0 d) : k + 1 ≤ lf_cn (lf_set W l) 216 := by
  have mono : ∀ c, c < 216 → lf_set W l0 c → lf_set W l c := fun c hc s d kd => Nat.le_trans (hl c hc) (s d kd)
  have nxt : ∀ a c, lf_set W l0 a → lf_st W a c → lf_set W l c := fun a c s t d kd => Nat.le_trans (hs c a (lf_st_sym t)) (s d (lf_conn_t (lf_conn_s (lf_conn_r a) t) kd))
  by_cases hx : ∃ a c, lf_set W l0 a ∧ lf_st W a c ∧ ¬ lf_set W l0 c
  · obtain ⟨a, c, sa, t, nc⟩ := hx
    have := lf_cn_lt (p := lf_set W l0) (q := lf_set W l) mono (lf_adj_in t.1 t.2.1) (nxt a c sa t) nc
    omega
  · have all : ∀ c, c < 216 → lf_set W l0 c := by
      intro c hc
      obtain ⟨m, km, hm⟩ := pk_least (fun x => lf_conn W c x) ⟨c, lf_conn_r c⟩
      have sm : lf_set W l0 m := by
        intro d kd
        have a := (b0 m (lf_conn_in km hc)).1
        have b : ¬ d < m := fun hd => hm d hd (lf_conn_t km kd)
        omega
      exact lf_conn_y km (lf_set W l0) sm fun a b ha t => Classical.byContradiction fun hb => hx ⟨a, b, ha, t, hb⟩
    have := lf_cn_all (p := lf_set W l) fun c hc => mono c hc (all c hc)
    omega
/-! the component's queue: a: marked, q: the queue, V0: marked before, tk: taken, wt: waiting -/
def lf_Bf (W V0 : Nat → Int32) (st tk wt : Nat) (X : Nat → Prop) (a q : Nat → Int32) : Prop :=
  (∀ j, j < wt → ∃ x, x < 216 ∧ q j = nI x ∧ W x = 0 ∧ a x ≠ 0 ∧ lf_conn W st x) ∧
  (∀ x, x < 216 → a x ≠ 0 → V0 x ≠ 0 ∨ lf_conn W st x) ∧
  (∀ x, x < 216 → V0 x ≠ 0 ∨ x = st → a x ≠ 0) ∧
  wt ≤ lf_cn (fun x => a x ≠ 0) 216 ∧
  ∀ x, x < 216 → a x ≠ 0 → V0 x ≠ 0 ∨ (∃ j, tk ≤ j ∧ j < wt ∧ q j = nI x) ∨ X x ∨ ∀ b, lf_adj x b → W b = 0 → a b ≠ 0
/-- a new cell is marked and waits -/
theorem lf_bfM {W V0 a q : Nat → Int32} {st tk wt x b : Nat} {X : Nat → Prop} (h : lf_Bf W V0 st tk wt X a q) (hx : x < 216) (kx : lf_conn W st x) (wx : W x = 0) (hb : lf_adj x b) (wb : W b = 0) (ab : a b = 0) (ht : tk ≤ wt) : wt < 216 ∧ lf_Bf W V0 st tk (wt + 1) X (upd a b 1) (upd q wt (nI b)) := by
  have b216 := lf_adj_in hx hb
  have one : (1 : Int32) ≠ 0 := by decide
  have up : ∀ y, a y ≠ 0 → upd a b 1 y ≠ 0 := by
    intro y hy
    by_cases e : y = b
    · subst e
      exact absurd ab hy
    · rw [pk_un e]; exact hy
  have lt := lf_cn_lt (p := fun y => a y ≠ 0) (q := fun y => upd a b 1 y ≠ 0) (n := 216) (fun y _ hy => up y hy) b216 (by show upd a b 1 b ≠ 0; rw [pk_us]; exact one) (fun z => z ab)
  have le := lf_cn_le (fun y => upd a b 1 y ≠ 0) 216
  have h4 := h.2.2.2.1
  refine ⟨by omega, fun j hj => ?_, fun y hy ha => ?_, fun y hy hv => up y (h.2.2.1 y hy hv), by omega, fun y hy ha => ?_⟩
  · by_cases e : j = wt
    · subst e
      exact ⟨b, b216, pk_us, wb, by rw [pk_us]; exact one, lf_conn_s kx ⟨hx, hb, wx, wb⟩⟩
    · obtain ⟨y, hy, e1, e2, e3, e4⟩ := h.1 j (by omega)
      exact ⟨y, hy, by rw [pk_un e]; exact e1, e2, up y e3, e4⟩
  · by_cases e : y = b
    · subst e
      exact Or.inr (lf_conn_s kx ⟨hx, hb, wx, wb⟩)
    · rw [pk_un e] at ha
      exact h.2.1 y hy ha
  · by_cases e : y = b
    · subst e
      exact Or.inr (Or.inl ⟨wt, ht, by omega, pk_us⟩)
    · rw [pk_un e] at ha
      rcases h.2.2.2.2 y hy ha with k | ⟨j, h1, h2, h3⟩ | k | k
      · exact Or.inl k
      · exact Or.inr (Or.inl ⟨j, h1, by omega, by rw [pk_un (by omega)]; exact h3⟩)
      · exact Or.inr (Or.inr (Or.inl k))
      · exact Or.inr (Or.inr (Or.inr fun c hc wc => up c (k c hc wc)))
/-- the first waiting one is taken -/
theorem lf_bfT {W V0 a q : Nat → Int32} {st tk wt x : Nat} (h : lf_Bf W V0 st tk wt (fun _ => False) a q) (e : q tk = nI x) (hx : x < 216) : lf_Bf W V0 st (tk + 1) wt (fun y => y = x) a q := by
  refine ⟨h.1, h.2.1, h.2.2.1, h.2.2.2.1, fun y hy ha => ?_⟩
  rcases h.2.2.2.2 y hy ha with k | ⟨j, h1, h2, h3⟩ | k | k
  · exact Or.inl k
  · by_cases ej : j = tk
    · subst ej
      rw [e] at h3
      exact Or.inr (Or.inr (Or.inl ((nI_eq (by omega) (by omega)).mp h3).symm))
    · exact Or.inr (Or.inl ⟨j, by omega, h2, h3⟩)
  · exact absurd k id
  · exact Or.inr (Or.inr (Or.inr k))
/-- its six sides are through -/
theorem lf_bfD {W V0 a q : Nat → Int32} {st tk wt x : Nat} (h : lf_Bf W V0 st tk wt (fun y => y = x) a q) (hd : ∀ t, t < 6 → ∀ b, lf_n x t = some b → W b = 0 → a b ≠ 0) : lf_Bf W V0 st tk wt (fun _ => False) a q := by
  refine ⟨h.1, h.2.1, h.2.2.1, h.2.2.2.1, fun y hy ha => ?_⟩
  rcases h.2.2.2.2 y hy ha with k | k | k | k
  · exact Or.inl k
  · exact Or.inr (Or.inl k)
  · refine Or.inr (Or.inr (Or.inr fun b hb wb => ?_))
    obtain ⟨t, ht, et⟩ := hb
    rw [k] at et
    exact hd t ht b et wb
  · exact Or.inr (Or.inr (Or.inr k))
/-! the component's rooms: V: marked, i: the next cell -/
def lf_Rm (W : Nat → Int32) (i : Nat) (V : Nat → Int32) : Prop := (∀ a b, V a ≠ 0 → lf_st W a b → V b ≠ 0) ∧ (∀ d, d < 216 → V d ≠ 0 → ∃ c, c < i ∧ lf_conn W c d) ∧ ∀ c, c < i → W c = 0 → V c ≠ 0
theorem lf_rm0 {W V : Nat → Int32} (h : ∀ c, c < 216 → V c = 0) : lf_Rm W 0 V := ⟨fun a _ ha s => absurd (h a s.1) ha, fun d hd k => absurd (h d hd) k, fun _ hc => absurd hc (Nat.not_lt_zero _)⟩
theorem lf_rmI {W V : Nat → Int32} {i : Nat} (h : lf_Rm W i V) (hi : i < 216) : V i = 0 ∧ W i = 0 ↔ W i = 0 ∧ lf_ls W i := by
  constructor
  · intro k
    refine ⟨k.2, fun d hd kd => ?_⟩
    have wd : W d = 0 := by
      rcases lf_conn_w kd with e | e
      · omega
      · exact e
    exact kd (fun x => V x ≠ 0) (h.2.2 d hd wd) (fun a b ha s => h.1 a b ha s) k.1
  · intro k
    refine ⟨Classical.byContradiction fun hv => ?_, k.1⟩
    obtain ⟨c, hc, kc⟩ := h.2.1 i hi hv
    exact k.2 c hc kc
theorem lf_rmN {W V : Nat → Int32} {i : Nat} (h : lf_Rm W i V) (hn : W i = 0 → V i ≠ 0) : lf_Rm W (i + 1) V := by
  refine ⟨h.1, fun d hd k => ?_, fun c hc wc => ?_⟩
  · obtain ⟨c, hc, kc⟩ := h.2.1 d hd k
    exact ⟨c, by omega, kc⟩
  · by_cases e : c = i
    · subst e
      exact hn wc
    · exact h.2.2 c (by omega) wc
/-- the queue before its first turn -/
theorem lf_bf0 {W V0 q : Nat → Int32} {i : Nat} (h : lf_Rm W i V0) (hi : i < 216) (wi : W i = 0) : lf_Bf W V0 i 0 1 (fun _ => False) (upd V0 i 1) (upd q 0 (nI i)) := by
  have one : (1 : Int32) ≠ 0 := by decide
  have up : ∀ y, V0 y ≠ 0 → upd V0 i 1 y ≠ 0 := by
    intro y hy
    by_cases e : y = i
    · subst e
      rw [pk_us]; exact one
    · rw [pk_un e]; exact hy
  have ai : upd V0 i 1 i ≠ 0 := by rw [pk_us]; exact one
  refine ⟨fun j hj => ?_, fun y hy ha => ?_, fun y _ hv => hv.elim (up y) (fun e => by rw [e]; exact ai), ?_, fun y hy ha => ?_⟩
  · have e : j = 0 := by omega
    subst e
    exact ⟨i, hi, pk_us, wi, ai, lf_conn_r i⟩
  · by_cases e : y = i
    · subst e
      exact Or.inr (lf_conn_r y)
    · rw [pk_un e] at ha
      exact Or.inl ha
  · have := lf_cn_lt (p := fun _ => False) (q := fun y => upd V0 i 1 y ≠ 0) (n := 216) (fun _ _ z => absurd z id) hi ai id
    omega
  · by_cases e : y = i
    · subst e
      exact Or.inr (Or.inl ⟨0, Nat.le_refl 0, by omega, pk_us⟩)
    · rw [pk_un e] at ha
      exact Or.inl ha
/-- the queue is empty: the room is marked -/
theorem lf_rmS {W V0 a q : Nat → Int32} {i tk wt : Nat} (h : lf_Rm W i V0) (hi : i < 216) (b : lf_Bf W V0 i tk wt (fun _ => False) a q) (ht : wt ≤ tk) : lf_Rm W (i + 1) a := by
  refine ⟨fun x y hx s => ?_, fun d hd k => ?_, fun c hc wc => ?_⟩
  · rcases b.2.2.2.2 x s.1 hx with k | ⟨j, h1, h2, _⟩ | k | k
    · exact b.2.2.1 y (lf_adj_in s.1 s.2.1) (Or.inl (h.1 x y k s))
    · omega
    · exact absurd k id
    · exact k y s.2.1 s.2.2.2
  · rcases b.2.1 d hd k with k | k
    · obtain ⟨c, hc, kc⟩ := h.2.1 d hd k
      exact ⟨c, by omega, kc⟩
    · exact ⟨i, by omega, k⟩
  · by_cases e : c = i
    · subst e
      exact b.2.2.1 c hi (Or.inr rfl)
    · exact b.2.2.1 c (by omega) (Or.inl (h.2.2 c (by omega) wc))
end
section
/-! numbers, and the small methods of both sides (PURE-ROWS pk_us .. pk_cl, pk_m1, pk_ix stand ahead) -/
theorem lf_10 : ¬ (1 : Int32) = 0 := by decide
theorem lf_b1 : vp_nar .boolean 1 = 1 := by first | rfl | decide
theorem lf_b0 : vp_nar .boolean 0 = 0 := by first | rfl | decide
theorem lf_r6 {c : Nat} (h : c < 2 ^ 31) : nI c - nI c / 6 * 6 = nI (c % 6) := pk_rem (d := 6) h (by decide) (by decide)
theorem lf_d6 {c : Nat} (h : c < 2 ^ 31) : nI c / 6 = nI (c / 6) := pk_div (d := 6) h (by decide) (by decide)
theorem lf_y6 {c : Nat} (h : c < 2 ^ 31) : (nI c / 6) - (nI c / 6) / 6 * 6 = nI (c / 6 % 6) := by
  rw [lf_d6 h]
  exact lf_r6 (by omega)
theorem lf_z36 {c : Nat} (h : c < 2 ^ 31) : nI c / 36 = nI (c / 36) := pk_div (d := 36) h (by decide) (by decide)
/-- light less one against light -/
theorem lf_m1 {a b : Nat} {A B : Prop} (ha : a < 2 ^ 30) (hb : b < 2 ^ 30) (f : a ≤ b + 1 → A) (g : b + 1 < a → B) : (nI a - 1 ≤ nI b → A) ∧ (¬ nI a - 1 ≤ nI b → B) := by
  match a with
  | 0 =>
    refine br_t ?_ (f (by omega))
    have e : (nI 0 - 1).toInt = -1 := by decide
    rw [Int32.le_iff_toInt_le, e, nI_toInt (by omega)]
    omega
  | a + 1 =>
    rw [nI_pred]
    exact pk_le a b (fun h => f (by omega)) (fun h => g (by omega))
def lf_bad (x : Int32) : Prop := x < 0 ∨ nI 216 ≤ x
theorem lf_ix (x : Int32) : lf_bad x ∨ ∃ c, c < 216 ∧ x = nI c := by
  rcases pk_ix x (n := 216) (by decide) with h | h | h
  · exact Or.inl (Or.inl h)
  · exact Or.inl (Or.inr h)
  · exact Or.inr h
theorem lf_bad_n {c : Nat} (hc : c < 216) : ¬ lf_bad (nI c) := fun h => h.elim (nI_pos (by omega)) (nI_ge hc (by decide))
theorem lf_in {c : Nat} (hc : c < 216) : vp_in (nI c) 216 := vp_in_nI hc (by decide)
theorem lf_c {c : Nat} (hc : c < 216) : (nI c).toNatClampNeg = c := nI_clamp (by omega)
theorem lf_inj {a b : Nat} (ha : a < 216) (hb : b < 216) (e : nI a = nI b) : a = b := (nI_eq (by omega) (by omega)).mp e
/-! neighbours, case by case -/
theorem lf_n0t {c : Nat} (h : 0 < c % 6) : lf_n c 0 = some (c - 1) := if_pos h
theorem lf_n0f {c : Nat} (h : ¬ 0 < c % 6) : lf_n c 0 = none := if_neg h
theorem lf_n1t {c : Nat} (h : c % 6 < 5) : lf_n c 1 = some (c + 1) := if_pos h
theorem lf_n1f {c : Nat} (h : ¬ c % 6 < 5) : lf_n c 1 = none := if_neg h
theorem lf_n2t {c : Nat} (h : 0 < c / 6 % 6) : lf_n c 2 = some (c - 6) := if_pos h
theorem lf_n2f {c : Nat} (h : ¬ 0 < c / 6 % 6) : lf_n c 2 = none := if_neg h
theorem lf_n3t {c : Nat} (h : c / 6 % 6 < 5) : lf_n c 3 = some (c + 6) := if_pos h
theorem lf_n3f {c : Nat} (h : ¬ c / 6 % 6 < 5) : lf_n c 3 = none := if_neg h
theorem lf_n4t {c : Nat} (h : 0 < c / 36) : lf_n c 4 = some (c - 36) := if_pos h
theorem lf_n4f {c : Nat} (h : ¬ 0 < c / 36) : lf_n c 4 = none := if_neg h
theorem lf_n5t {c : Nat} (h : c / 36 < 5) : lf_n c 5 = some (c + 36) := if_pos h
theorem lf_n5f {c : Nat} (h : ¬ c / 36 < 5) : lf_n c 5 = none := if_neg h
theorem lf_s1 {c : Nat} (h : 0 < c % 6) : nI c - 1 = nI (c - 1) := pk_sub (b := 1) (by omega)
theorem lf_s6 {c : Nat} (h : 0 < c / 6 % 6) : nI c - 6 = nI (c - 6) := pk_sub (b := 6) (by omega)
theorem lf_s36 {c : Nat} (h : 36 ≤ c) : nI c - 36 = nI (c - 36) := pk_sub (b := 36) h
/-! the component's small methods -/
theorem lf_xGood1 {post : Int32 → Prop} {c : Nat} (hc : c < 216) (h : post 1) : wpX_isGood post (nI c) := br_f (nI_pos (by omega)) (br_f (nI_ge (b := 216) hc (by decide)) h)
theorem lf_xGood0 {post : Int32 → Prop} {x : Int32} (hx : lf_bad x) (h : post 0) : wpX_isGood post x := by
  by_cases h0 : x < 0
  · exact br_t h0 h
  · exact br_f h0 (br_t (hx.resolve_left h0) h)
theorem lf_xX {post : Int32 → Prop} {c : Nat} (hc : c < 216) (h : post (nI (c % 6))) : wpX_xOf post (nI c) := by
  refine ⟨by decide, ?_⟩
  rw [lf_r6 (by omega)]
  exact h
theorem lf_xY {post : Int32 → Prop} {c : Nat} (hc : c < 216) (h : post (nI (c / 6 % 6))) : wpX_yOf post (nI c) := by
  refine ⟨by decide, by decide, ?_⟩
  rw [lf_y6 (by omega)]
  exact h
theorem lf_xZ {post : Int32 → Prop} {c : Nat} (hc : c < 216) (h : post (nI (c / 36))) : wpX_zOf post (nI c) := by
  refine ⟨by decide, ?_⟩
  rw [lf_z36 (by omega)]
  exact h
theorem lf_xLe {post : Int32 → Prop} {a b : Nat} (ha : a < 216) (hb : b < 216) (h1 : lf_le a b → post 1) (h0 : ¬ lf_le a b → post 0) : wpX_isAtMost post (nI a) (nI b) := by
  unfold wpX_isAtMost
  refine lf_xX ha (lf_xX hb (pk_lt (b % 6) (a % 6) (fun h => h0 fun k => ?_) fun h => ?_))
  · have := k.1
    omega
  refine lf_xY ha (lf_xY hb (pk_lt (b / 6 % 6) (a / 6 % 6) (fun h' => h0 fun k => ?_) fun h' => ?_))
  · have := k.2.1
    omega
  refine lf_xZ ha (lf_xZ hb (pk_lt (b / 36) (a / 36) (fun h'' => h0 fun k => ?_) fun h'' => h1 ⟨h, h', h''⟩))
  have := k.2.2
  omega
theorem lf_xBox {post : Int32 → Prop} {c a b : Nat} (hc : c < 216) (ha : a < 216) (hb : b < 216) (h1 : lf_le a c ∧ lf_le c b → post 1) (h0 : ¬ (lf_le a c ∧ lf_le c b) → post 0) : wpX_isInBox post (nI c) (nI a) (nI b) := by
  unfold wpX_isInBox
  refine lf_xLe ha hc (fun k => br_f lf_10 ?_) (fun k => br_t rfl (h0 fun z => k z.1))
  exact lf_xLe hc hb (fun k' => br_f lf_10 (h1 ⟨k, k'⟩)) (fun k' => br_t rfl (h0 fun z => k' z.2))
/-- a good box -/
def lf_gb (x y : Int32) : Prop := ∃ a b, a < 216 ∧ b < 216 ∧ x = nI a ∧ y = nI b ∧ lf_le a b
theorem lf_gb1 {x y : Int32} (h : lf_bad x) : ¬ lf_gb x y := fun ⟨a, _, ha, _, e, _, _⟩ => lf_bad_n ha (e ▸ h)
theorem lf_gb2 {x y : Int32} (h : lf_bad y) : ¬ lf_gb x y := fun ⟨_, b, _, hb, _, e, _⟩ => lf_bad_n hb (e ▸ h)
theorem lf_gb3 {a b : Nat} (ha : a < 216) (hb : b < 216) (h : ¬ lf_le a b) : ¬ lf_gb (nI a) (nI b) := by
  intro ⟨a', b', ha', hb', e, e', k⟩
  have e1 := lf_inj ha ha' e
  have e2 := lf_inj hb hb' e'
  subst e1 e2
  exact h k
theorem lf_xGB {post : Int32 → Prop} {x y : Int32} (h1 : lf_gb x y → post 1) (h0 : ¬ lf_gb x y → post 0) : wpX_isGoodBox post x y := by
  unfold wpX_isGoodBox
  rcases lf_ix x with bx | ⟨a, ha, rfl⟩
  · exact lf_xGood0 bx (br_t rfl (h0 (lf_gb1 bx)))
  refine lf_xGood1 ha (br_f lf_10 ?_)
  rcases lf_ix y with bd | ⟨b, hb, rfl⟩
  · exact lf_xGood0 bd (br_t rfl (h0 (lf_gb2 bd)))
  refine lf_xGood1 hb (br_f lf_10 ?_)
  exact lf_xLe ha hb (fun k => br_f lf_10 (h1 ⟨a, b, ha, hb, rfl, rfl, k⟩)) (fun k => br_t rfl (h0 (lf_gb3 ha hb k)))
def lf_end (c a b : Nat) : Prop := c % 6 = a % 6 ∨ c % 6 = b % 6 ∨ c / 6 % 6 = a / 6 % 6 ∨ c / 6 % 6 = b / 6 % 6 ∨ c / 36 = a / 36 ∨ c / 36 = b / 36
theorem lf_xEnd {post : Int32 → Prop} {c a b : Nat} (hc : c < 216) (ha : a < 216) (hb : b < 216) (h1 : lf_end c a b → post 1) (h0 : ¬ lf_end c a b → post 0) : wpX_isAtAnEnd post (nI c) (nI a) (nI b) := by
  unfold wpX_isAtAnEnd
  refine lf_xX hc (lf_xX ha (pk_eq (c % 6) (a % 6) (fun h => h1 (by unfold lf_end; omega)) fun e1 => ?_))
  refine lf_xX hc (lf_xX hb (pk_eq (c % 6) (b % 6) (fun h => h1 (by unfold lf_end; omega)) fun e2 => ?_))
  refine lf_xY hc (lf_xY ha (pk_eq (c / 6 % 6) (a / 6 % 6) (fun h => h1 (by unfold lf_end; omega)) fun e3 => ?_))
  refine lf_xY hc (lf_xY hb (pk_eq (c / 6 % 6) (b / 6 % 6) (fun h => h1 (by unfold lf_end; omega)) fun e4 => ?_))
  refine lf_xZ hc (lf_xZ ha (pk_eq (c / 36) (a / 36) (fun h => h1 (by unfold lf_end; omega)) fun e5 => ?_))
  exact lf_xZ hc (lf_xZ hb (pk_eq (c / 36) (b / 36) (fun h => h1 (by unfold lf_end; omega)) fun e6 => h0 (by unfold lf_end; omega)))
theorem lf_xNb {post : Int32 → Prop} {c s : Nat} (hc : c < 216) (hs : s < 6) (hn : lf_n c s = none → post (-1)) (hm : ∀ d, lf_n c s = some d → post (nI d)) : wpX_neighbour post (nI c) (nI s) := by
  unfold wpX_neighbour
  have hs' : s = 0 ∨ s = 1 ∨ s = 2 ∨ s = 3 ∨ s = 4 ∨ s = 5 := by omega
  rcases hs' with rfl | rfl | rfl | rfl | rfl | rfl
  · refine br_f (by decide) (br_f (by decide) (br_t (by decide) ?_))
    refine lf_xX hc (pk_le (c % 6) 0 (fun h => hn (lf_n0f (by omega))) fun h => ?_)
    rw [lf_s1 h]
    exact hm _ (lf_n0t h)
  · refine br_f (by decide) (br_f (by decide) (br_f (by decide) (br_t (by decide) ?_)))
    refine lf_xX hc (pk_le 5 (c % 6) (fun h => hn (lf_n1f (by omega))) fun h => ?_)
    exact (nI_add c 1 : nI c + 1 = nI (c + 1)) ▸ hm _ (lf_n1t h)
  · refine br_f (by decide) (br_f (by decide) (br_f (by decide) (br_f (by decide) (br_t (by decide) ?_))))
    refine lf_xY hc (pk_le (c / 6 % 6) 0 (fun h => hn (lf_n2f (by omega))) fun h => ?_)
    rw [lf_s6 h]
    exact hm _ (lf_n2t h)
  · refine br_f (by decide) (br_f (by decide) (br_f (by decide) (br_f (by decide) (br_f (by decide) (br_t (by decide) ?_)))))
    refine lf_xY hc (pk_le 5 (c / 6 % 6) (fun h => hn (lf_n3f (by omega))) fun h => ?_)
    have e : nI c + 6 = nI (c + 6) := nI_add c 6
    rw [e]
    exact hm _ (lf_n3t h)
  · refine br_f (by decide) (br_f (by decide) (br_f (by decide) (br_f (by decide) (br_f (by decide) (br_f (by decide) (br_t (by decide) ?_))))))
    refine lf_xZ hc (pk_le (c / 36) 0 (fun h => hn (lf_n4f (by omega))) fun h => ?_)
    rw [lf_s36 (by omega)]
    exact hm _ (lf_n4t h)
  · refine br_f (by decide) (br_t (by decide) ?_)
    refine lf_xZ hc (pk_le 5 (c / 36) (fun h => hn (lf_n5f (by omega))) fun h => ?_)
    have e : nI c + 36 = nI (c + 36) := nI_add c 36
    rw [e]
    exact hm _ (lf_n5t h)
section
variable {W L G H V Q : Nat → Int32}
theorem lf_xFreeN {post : Int32 → Prop} (h : post 0) : wpX_isFree post (W, L, G, H, V, Q) (-1) := by
  unfold wpX_isFree
  dsimp only
  exact lf_xGood0 (Or.inl (by decide)) (br_t rfl h)
theorem lf_xFree {post : Int32 → Prop} {d : Nat} (hd : d < 216) (h1 : W d = 0 → post 1) (h0 : ¬ W d = 0 → post 0) : wpX_isFree post (W, L, G, H, V, Q) (nI d) := by
  unfold wpX_isFree
  dsimp only
  refine lf_xGood1 hd (br_f lf_10 ⟨lf_in hd, ?_⟩)
  rw [lf_c hd]
  exact ⟨h1, h0⟩
theorem lf_xSkyL {post : Int32 → Prop} : ∀ n c : Nat, 216 - c < n → c < 300 → (lf_sky W c → post 1) → (¬ lf_sky W c → post 0) → wX_seesSky_2 post W L G H V Q n (nI c) := by
  intro n
  induction n with
  | zero => intro c h; omega
  | succ n ih =>
    intro c hn hc h1 h0
    refine pk_le 216 c (fun h => h1 (lf_sky0 h)) fun h => ?_
    refine lf_xFree h (fun w => br_f lf_10 (nm_r (nI_add c 36) ?_)) fun w => br_t rfl (h0 fun z => w ((lf_skyS h).mp z).1)
    exact ih (c + 36) (by omega) (by omega) (fun k => h1 ((lf_skyS h).mpr ⟨w, k⟩)) fun k => h0 fun z => k ((lf_skyS h).mp z).2
theorem lf_xSky {post : Int32 → Prop} {c : Nat} (hc : c < 216) (h1 : lf_sky W c → post 1) (h0 : ¬ lf_sky W c → post 0) : wpX_seesSky post (W, L, G, H, V, Q) (nI c) := ⟨217, lf_xSkyL 217 c (by omega) (by omega) h1 h0⟩
end
/-! the reference's small methods -/
section
variable {W L A B C D : Nat → Int32}
theorem lf_yBad0 {post : Int32 → Prop} {c : Nat} (hc : c < 216) (h : post 0) : wpY_bad post (W, L, A, B, C, D) (nI c) := br_f (nI_pos (by omega)) (br_t (nI_le (a := c) (b := 215) (by omega) (by decide)) h)
theorem lf_yBad1 {post : Int32 → Prop} {x : Int32} (hx : lf_bad x) (h : post 1) : wpY_bad post (W, L, A, B, C, D) x := by
  by_cases h0 : x < 0
  · exact br_t h0 h
  · obtain ⟨j, hj, rfl⟩ := nI_of h0
    have k := (nI_leI (a := 216) (by decide) hj).mp (hx.resolve_left h0)
    exact br_f h0 (br_f (nI_ge (a := 215) (by omega) hj) h)
theorem lf_yGB {post : Int32 → Prop} {x y : Int32} (h1 : lf_gb x y → post 0) (h0 : ¬ lf_gb x y → post 1) : wpY_badBox post (W, L, A, B, C, D) x y := by
  unfold wpY_badBox
  dsimp only
  rcases lf_ix x with bx | ⟨a, ha, rfl⟩
  · exact lf_yBad1 bx (br_f lf_10 (h0 (lf_gb1 bx)))
  refine lf_yBad0 ha (br_t rfl ?_)
  rcases lf_ix y with bd | ⟨b, hb, rfl⟩
  · exact lf_yBad1 bd (br_f lf_10 (h0 (lf_gb2 bd)))
  refine lf_yBad0 hb (br_t rfl ⟨by decide, by decide, ?_⟩)
  refine pk_lt (b % 6) (a % 6) (fun h => h0 (lf_gb3 ha hb fun k => ?_)) (fun h => ⟨by decide, by decide, by decide, by decide, ?_⟩) (lf_r6 (by omega)) (lf_r6 (by omega))
  · have := k.1
    omega
  refine pk_lt (b / 6 % 6) (a / 6 % 6) (fun h' => h0 (lf_gb3 ha hb fun k => ?_)) (fun h' => ⟨by decide, by decide, ?_⟩) (lf_y6 (by omega)) (lf_y6 (by omega))
  · have := k.2.1
    omega
  refine pk_le (a / 36) (b / 36) (fun h'' => h1 ⟨a, b, ha, hb, rfl, rfl, h, h', h''⟩) (fun h'' => h0 (lf_gb3 ha hb fun k => ?_)) (lf_z36 (by omega)) (lf_z36 (by omega))
  have := k.2.2
  omega
theorem lf_yBox68 {post : Int32 → Prop} {c a b : Nat} {x z : Int32} {P R : Prop} (hc : c < 216) (ha : a < 216) (hb : b < 216) (hx : x = 1 ∧ P ∨ x = 0 ∧ ¬ P) (hz : z = 1 ∧ R ∨ z = 0 ∧ ¬ R) (h1 : P ∧ R ∧ a / 36 ≤ c / 36 ∧ c / 36 ≤ b / 36 → post 1) (h0 : ¬ (P ∧ R ∧ a / 36 ≤ c / 36 ∧ c / 36 ≤ b / 36) → post 0) : wY_inBox_68 post (nI c) (nI a) (nI b) x z W L A B C D := by
  unfold wY_inBox_68
  rcases hx with ⟨rfl, p⟩ | ⟨rfl, p⟩
  · rcases hz with ⟨rfl, r⟩ | ⟨rfl, r⟩
    · refine br_f lf_10 (br_f lf_10 ⟨by decide, by decide, ?_⟩)
      refine pk_lt (c / 36) (a / 36) (fun h => h0 fun k => ?_) (fun h => ⟨by decide, by decide, ?_⟩) (lf_z36 (by omega)) (lf_z36 (by omega))
      · have := k.2.2.1
        omega
      refine pk_lt (b / 36) (c / 36) (fun h' => h0 fun k => ?_) (fun h' => h1 ⟨p, r, h, h'⟩) (lf_z36 (by omega)) (lf_z36 (by omega))
      have := k.2.2.2
      omega
    · exact br_f lf_10 (br_t rfl (h0 fun k => r k.2.1))
  · exact br_t rfl (h0 fun k => p k.1)
theorem lf_yBox27 {post : Int32 → Prop} {c a b : Nat} {x : Int32} {P : Prop} (hc : c < 216) (ha : a < 216) (hb : b < 216) (hx : x = 1 ∧ P ∨ x = 0 ∧ ¬ P) (h1 : P ∧ (a / 6 % 6 ≤ c / 6 % 6 ∧ c / 6 % 6 ≤ b / 6 % 6) ∧ a / 36 ≤ c / 36 ∧ c / 36 ≤ b / 36 → post 1) (h0 : ¬ (P ∧ (a / 6 % 6 ≤ c / 6 % 6 ∧ c / 6 % 6 ≤ b / 6 % 6) ∧ a / 36 ≤ c / 36 ∧ c / 36 ≤ b / 36) → post 0) : wY_inBox_27 post (nI c) (nI a) (nI b) x W L A B C D := by
  unfold wY_inBox_27
  refine ⟨by decide, by decide, by decide, by decide, ?_⟩
  refine pk_lt (c / 6 % 6) (a / 6 % 6) (fun h => ?_) (fun h => ⟨by decide, by decide, by decide, by decide, ?_⟩) (lf_y6 (by omega)) (lf_y6 (by omega))
  · unfold wY_inBox_67
    exact lf_yBox68 hc ha hb hx (Or.inr ⟨rfl, by omega⟩) h1 h0
  refine pk_lt (b / 6 % 6) (c / 6 % 6) (fun h' => ?_) (fun h' => ?_) (lf_y6 (by omega)) (lf_y6 (by omega))
  · unfold wY_inBox_67
    exact lf_yBox68 hc ha hb hx (Or.inr ⟨rfl, by omega⟩) h1 h0
  · exact lf_yBox68 hc ha hb hx (Or.inl ⟨rfl, by omega⟩) h1 h0
theorem lf_yBox {post : Int32 → Prop} {c a b : Nat} (hc : c < 216) (ha : a < 216) (hb : b < 216) (h1 : lf_le a c ∧ lf_le c b → post 1) (h0 : ¬ (lf_le a c ∧ lf_le c b) → post 0) : wpY_inBox post (W, L, A, B, C, D) (nI c) (nI a) (nI b) := by
  unfold wpY_inBox
  dsimp only
  refine ⟨by decide, by decide, ?_⟩
  have g1 : (a % 6 ≤ c % 6 ∧ c % 6 ≤ b % 6) ∧ (a / 6 % 6 ≤ c / 6 % 6 ∧ c / 6 % 6 ≤ b / 6 % 6) ∧ a / 36 ≤ c / 36 ∧ c / 36 ≤ b / 36 → post 1 := fun ⟨x, y, z⟩ => h1 ⟨⟨x.1, y.1, z.1⟩, x.2, y.2, z.2⟩
  have g0 : ¬ ((a % 6 ≤ c % 6 ∧ c % 6 ≤ b % 6) ∧ (a / 6 % 6 ≤ c / 6 % 6 ∧ c / 6 % 6 ≤ b / 6 % 6) ∧ a / 36 ≤ c / 36 ∧ c / 36 ≤ b / 36) → post 0 := fun k => h0 fun ⟨x, y⟩ => k ⟨⟨x.1, y.1⟩, ⟨x.2.1, y.2.1⟩, x.2.2, y.2.2⟩
  refine pk_lt (c % 6) (a % 6) (fun h => ?_) (fun h => ⟨by decide, by decide, ?_⟩) (lf_r6 (by omega)) (lf_r6 (by omega))
  · unfold wY_inBox_26
    exact lf_yBox27 hc ha hb (Or.inr ⟨rfl, by omega⟩) g1 g0
  refine pk_lt (b % 6) (c % 6) (fun h' => ?_) (fun h' => ?_) (lf_r6 (by omega)) (lf_r6 (by omega))
  · unfold wY_inBox_26
    exact lf_yBox27 hc ha hb (Or.inr ⟨rfl, by omega⟩) g1 g0
  · exact lf_yBox27 hc ha hb (Or.inl ⟨rfl, by omega⟩) g1 g0
theorem lf_yNb {post : Int32 → Prop} {c s : Nat} (hc : c < 216) (hs : s < 6) (hn : lf_m c s = none → post (-1)) (hm : ∀ d, lf_m c s = some d → post (nI d)) : wpY_beside post (W, L, A, B, C, D) (nI c) (nI s) := by
  unfold wpY_beside
  dsimp only
  have hs' : s = 0 ∨ s = 1 ∨ s = 2 ∨ s = 3 ∨ s = 4 ∨ s = 5 := by omega
  rcases hs' with rfl | rfl | rfl | rfl | rfl | rfl
  · refine br_t (by decide) ⟨by decide, ?_⟩
    refine pk_le 5 (c % 6) (fun h => hn (lf_n1f (by omega))) (fun h => ?_) rfl (lf_r6 (by omega))
    have e : nI c + 1 = nI (c + 1) := nI_add c 1
    rw [e]
    exact hm _ (lf_n1t h)
  · refine br_f (by decide) (br_t (by decide) ⟨by decide, ?_⟩)
    refine pk_le (c % 6) 0 (fun h => hn (lf_n0f (by omega))) (fun h => ?_) (lf_r6 (by omega)) rfl
    rw [lf_s1 h]
    exact hm _ (lf_n0t h)
  · refine br_f (by decide) (br_f (by decide) (br_t (by decide) ⟨by decide, by decide, ?_⟩))
    refine pk_le 5 (c / 6 % 6) (fun h => hn (lf_n3f (by omega))) (fun h => ?_) rfl (lf_y6 (by omega))
    have e : nI c + 6 = nI (c + 6) := nI_add c 6
    rw [e]
    exact hm _ (lf_n3t h)
  · refine br_f (by decide) (br_f (by decide) (br_f (by decide) (br_t (by decide) ⟨by decide, by decide, ?_⟩)))
    refine pk_le (c / 6 % 6) 0 (fun h => hn (lf_n2f (by omega))) (fun h => ?_) (lf_y6 (by omega)) rfl
    rw [lf_s6 h]
    exact hm _ (lf_n2t h)
  · refine br_f (by decide) (br_f (by decide) (br_f (by decide) (br_f (by decide) (br_t (by decide) ⟨by decide, ?_⟩))))
    refine pk_le 5 (c / 36) (fun h => hn (lf_n5f (by omega))) (fun h => ?_) rfl (lf_z36 (by omega))
    have e : nI c + 36 = nI (c + 36) := nI_add c 36
    rw [e]
    exact hm _ (lf_n5t h)
  · refine br_f (by decide) (br_f (by decide) (br_f (by decide) (br_f (by decide) (br_f (by decide) ⟨by decide, ?_⟩))))
    refine pk_le (c / 36) 0 (fun h => hn (lf_n4f (by omega))) (fun h => ?_) (lf_z36 (by omega)) rfl
    rw [lf_s36 (by omega)]
    exact hm _ (lf_n4t h)
theorem lf_ySkyL {post : Int32 → Prop} : ∀ n c : Nat, 216 - c < n → c < 300 → (lf_sky W c → post 1) → (¬ lf_sky W c → post 0) → wY_sees_2 post W L A B C D n (nI c) := by
  intro n
  induction n with
  | zero => intro c h; omega
  | succ n ih =>
    intro c hn hc h1 h0
    refine pk_le 216 c (fun h => h1 (lf_sky0 h)) fun h => ⟨lf_in h, ?_⟩
    rw [lf_c h]
    refine br_c (fun w => nm_r (nI_add c 36) ?_) fun w => h0 fun z => w ((lf_skyS h).mp z).1
    exact ih (c + 36) (by omega) (by omega) (fun k => h1 ((lf_skyS h).mpr ⟨w, k⟩)) fun k => h0 fun z => k ((lf_skyS h).mp z).2
theorem lf_ySky {post : Int32 → Prop} {c : Nat} (hc : c < 216) (h1 : lf_sky W c → post 1) (h0 : ¬ lf_sky W c → post 0) : wpY_sees post (W, L, A, B, C, D) (nI c) := ⟨217, lf_ySkyL 217 c (by omega) (by omega) h1 h0⟩
end
end
section
/-! the component's light (written by gen-04.py: once for glow, once for glowWithout) -/
def lf_eq (G : Nat → Int32) (f : Nat → Nat) : Prop := ∀ c, c < 216 → G c = nI (f c)
def lf_u (f : Nat → Nat) (d v : Nat) : Nat → Nat := fun x => if x = d then v else f x
theorem lf_us {f : Nat → Nat} {d v : Nat} : lf_u f d v d = v := if_pos rfl
theorem lf_uo {f : Nat → Nat} {d v x : Nat} (h : x ≠ d) : lf_u f d v x = f x := if_neg h
theorem lf_eqU {G : Nat → Int32} {f : Nat → Nat} (h : lf_eq G f) (d v : Nat) : lf_eq (upd G d (nI v)) (lf_u f d v) := by
  intro c hc
  by_cases e : c = d
  · subst e
    rw [pk_us, lf_us]
  · rw [pk_un e, lf_uo e]
    exact h c hc
theorem lf_eqC {G : Nat → Int32} {f g : Nat → Nat} (h : lf_eq G f) (e : ∀ c, c < 216 → f c = g c) : lf_eq G g := fun c hc => by rw [h c hc, e c hc]
/-- the lamps' strengths as if e held none -/
def lf_wo (l : Nat → Nat) (e : Int32) (c : Nat) : Nat := if nI c = e then 0 else l c
theorem lf_wo1 {l : Nat → Nat} {e : Int32} {c : Nat} (h : nI c = e) : lf_wo l e c = 0 := if_pos h
theorem lf_wo0 {l : Nat → Nat} {e : Int32} {c : Nat} (h : ¬ nI c = e) : lf_wo l e c = l c := if_neg h
theorem lf_wo12 {l : Nat → Nat} (h : ∀ c, l c ≤ 12) (e : Int32) (c : Nat) : lf_wo l e c ≤ 12 := by
  by_cases k : nI c = e
  · rw [lf_wo1 k]; omega
  · rw [lf_wo0 k]; exact h c
theorem lf_woM {l : Nat → Nat} {c : Nat} (hc : c < 216) : lf_wo l (-1) c = l c := lf_wo0 fun h => by
  have := congrArg Int32.toInt h
  rw [nI_toInt (by omega), show (-1 : Int32).toInt = -1 from by decide] at this
  omega
/-- the sky as a source -/
noncomputable def lf_s8 (W : Nat → Int32) (c : Nat) : Nat := @ite Nat (lf_sky W c) (Classical.propDecidable _) 8 0
theorem lf_s8t {W : Nat → Int32} {c : Nat} (h : lf_sky W c) : lf_s8 W c = 8 := if_pos h
theorem lf_s8f {W : Nat → Int32} {c : Nat} (h : ¬ lf_sky W c) : lf_s8 W c = 0 := if_neg h
theorem lf_s812 (W : Nat → Int32) (c : Nat) : lf_s8 W c ≤ 12 := by
  by_cases h : lf_sky W c
  · rw [lf_s8t h]; omega
  · rw [lf_s8f h]; omega
section
variable {W L G H V Q : Nat → Int32}
theorem lf_xDarkA {post : SX → Prop} : ∀ (n i : Nat) (G : Nat → Int32), 216 - i < n → i ≤ 216 → (∀ c, c < i → G c = nI 0) → (∀ G', lf_eq G' (fun _ => 0) → post (W, L, G', H, V, Q)) → wX_darken__glow_2 post n (nI i) W L G H V Q := by
  intro n
  induction n with
  | zero => intro i G h; omega
  | succ n ih =>
    intro i G hn hi hG hp
    refine pk_le 216 i (fun h => hp G fun c hc => hG c (by omega)) fun h => ⟨lf_in h, nm_r (e' := upd G i 0) (by rw [lf_c h]) (nm_r (nI_1 i) ?_)⟩
    refine ih (i + 1) (upd G i 0) (by omega) h (fun c hc => ?_) hp
    by_cases e : c = i
    · subst e
      exact pk_us
    · rw [pk_un e]
      exact hG c (by omega)
theorem lf_xLampsA {post : SX → Prop} {l : Nat → Nat} {e : Int32} (hl : ∀ c, l c ≤ 12 ∧ L c = nI (l c)) : ∀ (n i : Nat) (G : Nat → Int32), 216 - i < n → i ≤ 216 → lf_eq G (fun c => if c < i then lf_wo l e c else 0) → (∀ G', lf_eq G' (lf_wo l e) → post (W, L, G', H, V, Q)) → wX_addLamps__glow_2 post e n (nI i) W L G H V Q := by
  intro n
  induction n with
  | zero => intro i G h; omega
  | succ n ih =>
    intro i G hn hi hG hp
    have up : ∀ G', lf_eq G' (lf_u (fun c => if c < i then lf_wo l e c else 0) i (lf_wo l e i)) → lf_eq G' (fun c => if c < i + 1 then lf_wo l e c else 0) := by
      intro G' k
      refine lf_eqC k fun c hc => ?_
      by_cases ec : c = i
      · subst ec
        rw [lf_us]
        show _ = if c < c + 1 then lf_wo l e c else 0
        rw [if_pos (by omega)]
      · rw [lf_uo ec]
        show (if c < i then lf_wo l e c else 0) = if c < i + 1 then lf_wo l e c else 0
        by_cases k : c < i
        · rw [if_pos k, if_pos (by omega)]
        · rw [if_neg k, if_neg (by omega)]
    have same : lf_wo l e i = 0 → lf_eq G (fun c => if c < i + 1 then lf_wo l e c else 0) := by
      intro z
      refine up G (lf_eqC hG fun c hc => ?_)
      by_cases ec : c = i
      · subst ec
        rw [lf_us, z]
        exact if_neg (Nat.lt_irrefl c)
      · rw [lf_uo ec]
    refine pk_le 216 i (fun h => hp G (lf_eqC hG fun c hc => ?_)) fun h => ?_
    · show (if c < i then lf_wo l e c else 0) = _
      rw [if_pos (by omega)]
    have g0 : G (nI i).toNatClampNeg = nI 0 := by
      rw [lf_c h, hG i h]
      show nI (if i < i then lf_wo l e i else 0) = nI 0
      rw [if_neg (by omega)]
    have li : L (nI i).toNatClampNeg = nI (l i) := by
      rw [lf_c h]
      exact (hl i).2
    have l12 := (hl i).1
    refine br_c (fun ee => nm_r (nI_1 i) (ih (i + 1) G (by omega) h (same (lf_wo1 ee)) hp)) fun ee => ⟨lf_in h, lf_in h, ?_⟩
    refine pk_le (l i) 0 (fun k => nm_r (nI_1 i) (ih (i + 1) G (by omega) h (same (by rw [lf_wo0 ee]; omega)) hp)) (fun k => ⟨lf_in h, lf_in h, ?_⟩) li g0
    refine nm_r (e' := upd G i (nI (lf_wo l e i))) (by rw [li, lf_c h, lf_wo0 ee]) (nm_r (nI_1 i) ?_)
    exact ih (i + 1) _ (by omega) h (up _ (lf_eqU hG i _)) hp
theorem lf_xSkiesA {post : SX → Prop} {f : Nat → Nat} (hf : ∀ c, c < 216 → f c ≤ 12) : ∀ (n i : Nat) (G : Nat → Int32), 216 - i < n → i ≤ 216 → lf_eq G (fun c => if c < i then max (f c) (lf_s8 W c) else f c) → (∀ G', lf_eq G' (fun c => max (f c) (lf_s8 W c)) → post (W, L, G', H, V, Q)) → wX_addSky__glow_2 post n (nI i) W L G H V Q := by
  intro n
  induction n with
  | zero => intro i G h; omega
  | succ n ih =>
    intro i G hn hi hG hp
    have up : ∀ G', lf_eq G' (lf_u (fun c => if c < i then max (f c) (lf_s8 W c) else f c) i (max (f i) (lf_s8 W i))) → lf_eq G' (fun c => if c < i + 1 then max (f c) (lf_s8 W c) else f c) := by
      intro G' k
      refine lf_eqC k fun c hc => ?_
      by_cases ec : c = i
      · subst ec
        rw [lf_us]
        show _ = if c < c + 1 then max (f c) (lf_s8 W c) else f c
        rw [if_pos (by omega)]
      · rw [lf_uo ec]
        show (if c < i then max (f c) (lf_s8 W c) else f c) = if c < i + 1 then max (f c) (lf_s8 W c) else f c
        by_cases k : c < i
        · rw [if_pos k, if_pos (by omega)]
        · rw [if_neg k, if_neg (by omega)]
    have same : max (f i) (lf_s8 W i) = f i → lf_eq G (fun c => if c < i + 1 then max (f c) (lf_s8 W c) else f c) := by
      intro z
      refine up G (lf_eqC hG fun c hc => ?_)
      by_cases ec : c = i
      · subst ec
        rw [lf_us, z]
        exact if_neg (Nat.lt_irrefl c)
      · rw [lf_uo ec]
    refine pk_le 216 i (fun h => hp G (lf_eqC hG fun c hc => ?_)) fun h => ⟨lf_in h, ?_⟩
    · show (if c < i then max (f c) (lf_s8 W c) else f c) = _
      rw [if_pos (by omega)]
    have g0 : G (nI i).toNatClampNeg = nI (f i) := by
      rw [lf_c h, hG i h]
      show nI (if i < i then max (f i) (lf_s8 W i) else f i) = nI (f i)
      rw [if_neg (by omega)]
    have f12 := hf i h
    have s8 : lf_s8 W i = 8 ∨ lf_s8 W i = 0 := by
      by_cases k : lf_sky W i
      · exact Or.inl (lf_s8t k)
      · exact Or.inr (lf_s8f k)
    refine pk_le 8 (f i) (fun k => nm_r (nI_1 i) (ih (i + 1) G (by omega) h (same (by omega)) hp)) (fun k => ?_) rfl g0
    refine lf_xSky h (fun sk => br_f lf_10 ⟨lf_in h, ?_⟩) fun sk => br_t rfl (nm_r (nI_1 i) (ih (i + 1) G (by omega) h (same (by rw [lf_s8f sk]; omega)) hp))
    have e8 : max (f i) (lf_s8 W i) = 8 := by
      rw [lf_s8t sk]
      omega
    refine nm_r (e' := upd G i (nI (max (f i) (lf_s8 W i)))) (by rw [lf_c h, e8]; rfl) (nm_r (nI_1 i) ?_)
    exact ih (i + 1) _ (by omega) h (up _ (lf_eqU hG i _)) hp
/-- from cell i (level g + 1) to its six sides -/
theorem lf_xSF9A {post : SX → Prop} {i g : Nat} {f F : Nat → Nat} (hi : i < 216) (h12 : ∀ c, c < 216 → F c ≤ 12) (hg : g ≤ 12) (hF : ∀ c, lf_adj i c → W c = 0 → g ≤ F c) (hp : ∀ G' f', lf_eq G' f' → (∀ c, c < 216 → f c ≤ f' c ∧ f' c ≤ F c ∧ (f' c = f c ∨ f' c = g)) → (∀ c, lf_adj i c → W c = 0 → g ≤ f' c) → post (W, L, G', H, V, Q)) : ∀ (n s : Nat) (G : Nat → Int32) (f' : Nat → Nat), 6 - s < n → s ≤ 6 → lf_eq G f' → (∀ c, c < 216 → f c ≤ f' c ∧ f' c ≤ F c ∧ (f' c = f c ∨ f' c = g)) → (∀ t, t < s → ∀ c, lf_n i t = some c → W c = 0 → g ≤ f' c) → wX_spreadFrom__glow_9 post (nI i) (nI g) n (nI s) W L G H V Q := by
  intro n
  induction n with
  | zero => intro s G f' h; omega
  | succ n ih =>
    intro s G f' hn hs hG hf hd
    refine pk_le 6 s (fun h => hp G f' hG hf fun c ⟨t, ht, e⟩ w => hd t (by omega) c e w) fun h => ?_
    have nxt : ∀ f'' : Nat → Nat, (∀ c, c < 216 → f' c ≤ f'' c) → (∀ c, lf_n i s = some c → W c = 0 → g ≤ f'' c) → ∀ t, t < s + 1 → ∀ c, lf_n i t = some c → W c = 0 → g ≤ f'' c := by
      intro f'' up k t ht c e w
      by_cases et : t = s
      · subst et
        exact k c e w
      · exact Nat.le_trans (hd t (by omega) c e w) (up c (lf_nm hi (by omega) e).1)
    refine lf_xNb hi h (fun e => lf_xFreeN (br_t rfl (nm_r (nI_1 s) (ih (s + 1) G f' (by omega) h hG hf (nxt f' (fun _ _ => Nat.le_refl _) fun c e' => ?_))))) fun d e => ?_
    · rw [e] at e'
      exact nomatch e'
    have hd216 := (lf_nm hi h e).1
    have gd : G (nI d).toNatClampNeg = nI (f' d) := by
      rw [lf_c hd216]
      exact hG d hd216
    have fd := (hf d hd216).2.1
    have Fd := h12 d hd216
    refine lf_xFree hd216 (fun w => br_f lf_10 ⟨lf_in hd216, ?_⟩) fun w => br_t rfl (nm_r (nI_1 s) (ih (s + 1) G f' (by omega) h hG hf (nxt f' (fun _ _ => Nat.le_refl _) fun c e' w' => ?_)))
    · refine pk_le g (f' d) (fun k => nm_r (nI_1 s) (ih (s + 1) G f' (by omega) h hG hf (nxt f' (fun _ _ => Nat.le_refl _) fun c e' _ => ?_))) (fun k => ⟨lf_in hd216, nm_r (e' := upd G d (nI g)) (by rw [lf_c hd216]) (nm_r (nI_1 s) ?_)⟩) rfl gd
      · rw [e] at e'
        injection e' with e'
        subst e'
        exact k
      · refine ih (s + 1) _ (lf_u f' d g) (by omega) h (lf_eqU hG d g) (fun c hc => ?_) (nxt _ (fun c hc => ?_) fun c e' _ => ?_)
        · by_cases ec : c = d
          · subst ec
            rw [lf_us]
            have a := hf c hc
            exact ⟨by omega, hF c ⟨s, h, e⟩ w, Or.inr rfl⟩
          · rw [lf_uo ec]
            exact hf c hc
        · by_cases ec : c = d
          · subst ec
            rw [lf_us]
            omega
          · rw [lf_uo ec]
            exact Nat.le_refl _
        · rw [e] at e'
          injection e' with e'
          subst e'
          rw [lf_us]
          exact Nat.le_refl _
    · rw [e] at e'
      injection e' with e'
      subst e'
      exact absurd w' w
theorem lf_xSFA {post : SX → Prop} {i g : Nat} {f F : Nat → Nat} (hi : i < 216) (h12 : ∀ c, c < 216 → F c ≤ 12) (hG : lf_eq G f) (hf : ∀ c, c < 216 → f c ≤ F c) (fi : f i = g + 1) (hc : lf_Cl W F) (hp : ∀ G' f', lf_eq G' f' → (∀ c, c < 216 → f c ≤ f' c ∧ f' c ≤ F c ∧ (f' c = f c ∨ f' c = g)) → (∀ c, lf_adj i c → W c = 0 → g ≤ f' c) → post (W, L, G', H, V, Q)) : wpX_spreadFrom__glow post (W, L, G, H, V, Q) (nI i) := by
  have a := hf i hi
  have b := h12 i hi
  unfold wpX_spreadFrom__glow
  dsimp only
  refine ⟨lf_in hi, nm_r (e' := nI g) (by rw [lf_c hi, hG i hi, fi, nI_pred]) ⟨7, ?_⟩⟩
  refine lf_xSF9A hi h12 (by omega) (fun c ha w => ?_) hp 7 0 G f (by omega) (by omega) hG (fun c hc => ⟨Nat.le_refl _, hf c hc, Or.inl rfl⟩) fun t ht => absurd ht (Nat.not_lt_zero t)
  have := hc i c hi ha w
  omega
theorem lf_xSp10A {post : SX → Prop} {J : Int32 → (Nat → Int32) → (Nat → Int32) → (Nat → Int32) → (Nat → Int32) → (Nat → Int32) → (Nat → Int32) → Prop} {g : Nat} {F s : Nat → Nat} (h12 : ∀ c, c < 216 → F c ≤ 12) (hc : lf_Cl W F) (hg : g < 13) (hJ : ∀ G' f', lf_eq G' f' → lf_Lv W F s (g + 1) 216 f' → J (nI g) W L G' H V Q) : ∀ (n i : Nat) (G : Nat → Int32) (f : Nat → Nat), 216 - i < n → i ≤ 216 → lf_eq G f → lf_Lv W F s (g + 1) i f → wX_spread__glow_10 post J (nI (g + 1)) n (nI i) W L G H V Q := by
  intro n
  induction n with
  | zero => intro i G f h; omega
  | succ n ih =>
    intro i G f hn hi hG hv
    refine pk_le 216 i (fun h => nm_r (pk_m1 g) (hJ G f hG ?_)) fun h => ⟨lf_in h, ?_⟩
    · have e : i = 216 := by omega
      rw [e] at hv
      exact hv
    have gi : G (nI i).toNatClampNeg = nI (f i) := by
      rw [lf_c h]
      exact hG i h
    have a := (hv.1 i h).2
    have b := h12 i h
    refine pk_eq (f i) (g + 1) (fun e => ?_) (fun e => nm_r (nI_1 i) (ih (i + 1) G f (by omega) h hG (lf_lvN hv e))) gi rfl
    refine lf_xSFA h h12 hG (fun c hc => (hv.1 c hc).2) e hc fun G' f' k1 k2 k3 => nm_r (nI_1 i) ?_
    refine ih (i + 1) G' f' (by omega) h k1 (lf_lvS hv (fun c hc => ?_) fun c ha w => ?_)
    · have := k2 c hc
      omega
    · have := k3 c ha w
      omega
theorem lf_xSp3A {post : SX → Prop} {F s : Nat → Nat} (hL : lf_L W s F) (h12 : ∀ c, c < 216 → F c ≤ 12) (hp : ∀ G', lf_eq G' F → post (W, L, G', H, V, Q)) : ∀ (n l : Nat) (G : Nat → Int32) (f : Nat → Nat), l < n → 1 ≤ l → l ≤ 12 → lf_eq G f → lf_Lv W F s l 0 f → wX_spread__glow_3 post n (nI l) W L G H V Q := by
  intro n
  induction n with
  | zero => intro l G f h; omega
  | succ n ih =>
    intro l G f hn h1 hl hG hv
    refine pk_le l 1 (fun h => hp G (lf_eqC hG fun c hc => ?_)) fun h => ?_
    · have e : l = 1 := by omega
      subst e
      exact lf_lvE hL hv hc
    · obtain ⟨g, rfl⟩ : ∃ g, l = g + 1 := ⟨l - 1, by omega⟩
      exact ⟨217, lf_xSp10A h12 hL.1.2 (by omega) (fun G' f' k1 k2 => ih g G' f' (by omega) (by omega) (by omega) k1 (lf_lvD k2)) 217 0 G f (by omega) (by omega) hG hv⟩
theorem lf_xSpreadA {post : SX → Prop} {F s : Nat → Nat} (hs : ∀ c, c < 216 → s c ≤ 12) (hL : lf_L W s F) (hG : lf_eq G s) (hp : ∀ G', lf_eq G' F → post (W, L, G', H, V, Q)) : wpX_spread__glow post (W, L, G, H, V, Q) := ⟨13, lf_xSp3A hL (fun _ hc => lf_top hs hL hc) hp 13 12 G s (by omega) (by omega) (by omega) hG (lf_lv0 hs hL)⟩
theorem lf_xDarkenA {post : SX → Prop} (hp : ∀ G', lf_eq G' (fun _ => 0) → post (W, L, G', H, V, Q)) : wpX_darken__glow post (W, L, G, H, V, Q) := ⟨217, lf_xDarkA 217 0 G (by omega) (by omega) (fun c hc => absurd hc (Nat.not_lt_zero c)) hp⟩
theorem lf_xAddLampsA {post : SX → Prop} {l : Nat → Nat} {e : Int32} (hl : ∀ c, l c ≤ 12 ∧ L c = nI (l c)) (hG : lf_eq G (fun _ => 0)) (hp : ∀ G', lf_eq G' (lf_wo l e) → post (W, L, G', H, V, Q)) : wpX_addLamps__glow post (W, L, G, H, V, Q) e := ⟨217, lf_xLampsA hl 217 0 G (by omega) (by omega) (lf_eqC hG fun c _ => (if_neg (Nat.not_lt_zero c)).symm) hp⟩
theorem lf_xAddSkyA {post : SX → Prop} {f : Nat → Nat} (hf : ∀ c, c < 216 → f c ≤ 12) (hG : lf_eq G f) (hp : ∀ G', lf_eq G' (fun c => max (f c) (lf_s8 W c)) → post (W, L, G', H, V, Q)) : wpX_addSky__glow post (W, L, G, H, V, Q) := ⟨217, lf_xSkiesA hf 217 0 G (by omega) (by omega) (lf_eqC hG fun c _ => (if_neg (Nat.not_lt_zero c)).symm) hp⟩
theorem lf_xLightA {post : SX → Prop} {l Fa Fb : Nat → Nat} {e : Int32} (hl : ∀ c, l c ≤ 12 ∧ L c = nI (l c)) (ha : lf_L W (lf_wo l e) Fa) (hb : lf_L W (lf_s8 W) Fb) (hp : ∀ G', lf_eq G' (fun c => max (Fa c) (Fb c)) → post (W, L, G', H, V, Q)) : wpX_findLight__glow post (W, L, G, H, V, Q) e := by
  unfold wpX_findLight__glow
  dsimp only
  refine lf_xDarkenA fun G1 k1 => ?_
  refine lf_xAddLampsA hl k1 fun G2 k2 => ?_
  refine lf_xAddSkyA (fun c _ => lf_wo12 (fun c => (hl c).1) e c) k2 fun G3 k3 => ?_
  refine lf_xSpreadA (fun c hc => ?_) (lf_max ha hb) k3 fun G4 k4 => hp G4 k4
  have a := lf_wo12 (fun c => (hl c).1) e c
  have b := lf_s812 W c
  show max (lf_wo l e c) (lf_s8 W c) ≤ 12
  omega
end
section
variable {W L G H V Q : Nat → Int32}
theorem lf_xDarkB {post : SX → Prop} : ∀ (n i : Nat) (G : Nat → Int32), 216 - i < n → i ≤ 216 → (∀ c, c < i → G c = nI 0) → (∀ G', lf_eq G' (fun _ => 0) → post (W, L, H, G', V, Q)) → wX_darken__glowWithout_2 post n (nI i) W L H G V Q := by
  intro n
  induction n with
  | zero => intro i G h; omega
  | succ n ih =>
    intro i G hn hi hG hp
    refine pk_le 216 i (fun h => hp G fun c hc => hG c (by omega)) fun h => ⟨lf_in h, nm_r (e' := upd G i 0) (by rw [lf_c h]) (nm_r (nI_1 i) ?_)⟩
    refine ih (i + 1) (upd G i 0) (by omega) h (fun c hc => ?_) hp
    by_cases e : c = i
    · subst e
      exact pk_us
    · rw [pk_un e]
      exact hG c (by omega)
theorem lf_xLampsB {post : SX → Prop} {l : Nat → Nat} {e : Int32} (hl : ∀ c, l c ≤ 12 ∧ L c = nI (l c)) : ∀ (n i : Nat) (G : Nat → Int32), 216 - i < n → i ≤ 216 → lf_eq G (fun c => if c < i then lf_wo l e c else 0) → (∀ G', lf_eq G' (lf_wo l e) → post (W, L, H, G', V, Q)) → wX_addLamps__glowWithout_2 post e n (nI i) W L H G V Q := by
  intro n
  induction n with
  | zero => intro i G h; omega
  | succ n ih =>
    intro i G hn hi hG hp
    have up : ∀ G', lf_eq G' (lf_u (fun c => if c < i then lf_wo l e c else 0) i (lf_wo l e i)) → lf_eq G' (fun c => if c < i + 1 then lf_wo l e c else 0) := by
      intro G' k
      refine lf_eqC k fun c hc => ?_
      by_cases ec : c = i
      · subst ec
        rw [lf_us]
        show _ = if c < c + 1 then lf_wo l e c else 0
        rw [if_pos (by omega)]
      · rw [lf_uo ec]
        show (if c < i then lf_wo l e c else 0) = if c < i + 1 then lf_wo l e c else 0
        by_cases k : c < i
        · rw [if_pos k, if_pos (by omega)]
        · rw [if_neg k, if_neg (by omega)]
    have same : lf_wo l e i = 0 → lf_eq G (fun c => if c < i + 1 then lf_wo l e c else 0) := by
      intro z
      refine up G (lf_eqC hG fun c hc => ?_)
      by_cases ec : c = i
      · subst ec
        rw [lf_us, z]
        exact if_neg (Nat.lt_irrefl c)
      · rw [lf_uo ec]
    refine pk_le 216 i (fun h => hp G (lf_eqC hG fun c hc => ?_)) fun h => ?_
    · show (if c < i then lf_wo l e c else 0) = _
      rw [if_pos (by omega)]
    have g0 : G (nI i).toNatClampNeg = nI 0 := by
      rw [lf_c h, hG i h]
      show nI (if i < i then lf_wo l e i else 0) = nI 0
      rw [if_neg (by omega)]
    have li : L (nI i).toNatClampNeg = nI (l i) := by
      rw [lf_c h]
      exact (hl i).2
    have l12 := (hl i).1
    refine br_c (fun ee => nm_r (nI_1 i) (ih (i + 1) G (by omega) h (same (lf_wo1 ee)) hp)) fun ee => ⟨lf_in h, lf_in h, ?_⟩
    refine pk_le (l i) 0 (fun k => nm_r (nI_1 i) (ih (i + 1) G (by omega) h (same (by rw [lf_wo0 ee]; omega)) hp)) (fun k => ⟨lf_in h, lf_in h, ?_⟩) li g0
    refine nm_r (e' := upd G i (nI (lf_wo l e i))) (by rw [li, lf_c h, lf_wo0 ee]) (nm_r (nI_1 i) ?_)
    exact ih (i + 1) _ (by omega) h (up _ (lf_eqU hG i _)) hp
theorem lf_xSkiesB {post : SX → Prop} {f : Nat → Nat} (hf : ∀ c, c < 216 → f c ≤ 12) : ∀ (n i : Nat) (G : Nat → Int32), 216 - i < n → i ≤ 216 → lf_eq G (fun c => if c < i then max (f c) (lf_s8 W c) else f c) → (∀ G', lf_eq G' (fun c => max (f c) (lf_s8 W c)) → post (W, L, H, G', V, Q)) → wX_addSky__glowWithout_2 post n (nI i) W L H G V Q := by
  intro n
  induction n with
  | zero => intro i G h; omega
  | succ n ih =>
    intro i G hn hi hG hp
    have up : ∀ G', lf_eq G' (lf_u (fun c => if c < i then max (f c) (lf_s8 W c) else f c) i (max (f i) (lf_s8 W i))) → lf_eq G' (fun c => if c < i + 1 then max (f c) (lf_s8 W c) else f c) := by
      intro G' k
      refine lf_eqC k fun c hc => ?_
      by_cases ec : c = i
      · subst ec
        rw [lf_us]
        show _ = if c < c + 1 then max (f c) (lf_s8 W c) else f c
        rw [if_pos (by omega)]
      · rw [lf_uo ec]
        show (if c < i then max (f c) (lf_s8 W c) else f c) = if c < i + 1 then max (f c) (lf_s8 W c) else f c
        by_cases k : c < i
        · rw [if_pos k, if_pos (by omega)]
        · rw [if_neg k, if_neg (by omega)]
    have same : max (f i) (lf_s8 W i) = f i → lf_eq G (fun c => if c < i + 1 then max (f c) (lf_s8 W c) else f c) := by
      intro z
      refine up G (lf_eqC hG fun c hc => ?_)
      by_cases ec : c = i
      · subst ec
        rw [lf_us, z]
        exact if_neg (Nat.lt_irrefl c)
      · rw [lf_uo ec]
    refine pk_le 216 i (fun h => hp G (lf_eqC hG fun c hc => ?_)) fun h => ⟨lf_in h, ?_⟩
    · show (if c < i then max (f c) (lf_s8 W c) else f c) = _
      rw [if_pos (by omega)]
    have g0 : G (nI i).toNatClampNeg = nI (f i) := by
      rw [lf_c h, hG i h]
      show nI (if i < i then max (f i) (lf_s8 W i) else f i) = nI (f i)
      rw [if_neg (by omega)]
    have f12 := hf i h
    have s8 : lf_s8 W i = 8 ∨ lf_s8 W i = 0 := by
      by_cases k : lf_sky W i
      · exact Or.inl (lf_s8t k)
      · exact Or.inr (lf_s8f k)
    refine pk_le 8 (f i) (fun k => nm_r (nI_1 i) (ih (i + 1) G (by omega) h (same (by omega)) hp)) (fun k => ?_) rfl g0
    refine lf_xSky h (fun sk => br_f lf_10 ⟨lf_in h, ?_⟩) fun sk => br_t rfl (nm_r (nI_1 i) (ih (i + 1) G (by omega) h (same (by rw [lf_s8f sk]; omega)) hp))
    have e8 : max (f i) (lf_s8 W i) = 8 := by
      rw [lf_s8t sk]
      omega
    refine nm_r (e' := upd G i (nI (max (f i) (lf_s8 W i)))) (by rw [lf_c h, e8]; rfl) (nm_r (nI_1 i) ?_)
    exact ih (i + 1) _ (by omega) h (up _ (lf_eqU hG i _)) hp
/-- from cell i (level g + 1) to its six sides -/
theorem lf_xSF9B {post : SX → Prop} {i g : Nat} {f F : Nat → Nat} (hi : i < 216) (h12 : ∀ c, c < 216 → F c ≤ 12) (hg : g ≤ 12) (hF : ∀ c, lf_adj i c → W c = 0 → g ≤ F c) (hp : ∀ G' f', lf_eq G' f' → (∀ c, c < 216 → f c ≤ f' c ∧ f' c ≤ F c ∧ (f' c = f c ∨ f' c = g)) → (∀ c, lf_adj i c → W c = 0 → g ≤ f' c) → post (W, L, H, G', V, Q)) : ∀ (n s : Nat) (G : Nat → Int32) (f' : Nat → Nat), 6 - s < n → s ≤ 6 → lf_eq G f' → (∀ c, c < 216 → f c ≤ f' c ∧ f' c ≤ F c ∧ (f' c = f c ∨ f' c = g)) → (∀ t, t < s → ∀ c, lf_n i t = some c → W c = 0 → g ≤ f' c) → wX_spreadFrom__glowWithout_9 post (nI i) (nI g) n (nI s) W L H G V Q := by
  intro n
  induction n with
  | zero => intro s G f' h; omega
  | succ n ih =>
    intro s G f' hn hs hG hf hd
    refine pk_le 6 s (fun h => hp G f' hG hf fun c ⟨t, ht, e⟩ w => hd t (by omega) c e w) fun h => ?_
    have nxt : ∀ f'' : Nat → Nat, (∀ c, c < 216 → f' c ≤ f'' c) → (∀ c, lf_n i s = some c → W c = 0 → g ≤ f'' c) → ∀ t, t < s + 1 → ∀ c, lf_n i t = some c → W c = 0 → g ≤ f'' c := by
      intro f'' up k t ht c e w
      by_cases et : t = s
      · subst et
        exact k c e w
      · exact Nat.le_trans (hd t (by omega) c e w) (up c (lf_nm hi (by omega) e).1)
    refine lf_xNb hi h (fun e => lf_xFreeN (br_t rfl (nm_r (nI_1 s) (ih (s + 1) G f' (by omega) h hG hf (nxt f' (fun _ _ => Nat.le_refl _) fun c e' => ?_))))) fun d e => ?_
    · rw [e] at e'
      exact nomatch e'
    have hd216 := (lf_nm hi h e).1
    have gd : G (nI d).toNatClampNeg = nI (f' d) := by
      rw [lf_c hd216]
      exact hG d hd216
    have fd := (hf d hd216).2.1
    have Fd := h12 d hd216
    refine lf_xFree hd216 (fun w => br_f lf_10 ⟨lf_in hd216, ?_⟩) fun w => br_t rfl (nm_r (nI_1 s) (ih (s + 1) G f' (by omega) h hG hf (nxt f' (fun _ _ => Nat.le_refl _) fun c e' w' => ?_)))
    · refine pk_le g (f' d) (fun k => nm_r (nI_1 s) (ih (s + 1) G f' (by omega) h hG hf (nxt f' (fun _ _ => Nat.le_refl _) fun c e' _ => ?_))) (fun k => ⟨lf_in hd216, nm_r (e' := upd G d (nI g)) (by rw [lf_c hd216]) (nm_r (nI_1 s) ?_)⟩) rfl gd
      · rw [e] at e'
        injection e' with e'
        subst e'
        exact k
      · refine ih (s + 1) _ (lf_u f' d g) (by omega) h (lf_eqU hG d g) (fun c hc => ?_) (nxt _ (fun c hc => ?_) fun c e' _ => ?_)
        · by_cases ec : c = d
          · subst ec
            rw [lf_us]
            have a := hf c hc
            exact ⟨by omega, hF c ⟨s, h, e⟩ w, Or.inr rfl⟩
          · rw [lf_uo ec]
            exact hf c hc
        · by_cases ec : c = d
          · subst ec
            rw [lf_us]
            omega
          · rw [lf_uo ec]
            exact Nat.le_refl _
        · rw [e] at e'
          injection e' with e'
          subst e'
          rw [lf_us]
          exact Nat.le_refl _
    · rw [e] at e'
      injection e' with e'
      subst e'
      exact absurd w' w
theorem lf_xSFB {post : SX → Prop} {i g : Nat} {f F : Nat → Nat} (hi : i < 216) (h12 : ∀ c, c < 216 → F c ≤ 12) (hG : lf_eq G f) (hf : ∀ c, c < 216 → f c ≤ F c) (fi : f i = g + 1) (hc : lf_Cl W F) (hp : ∀ G' f', lf_eq G' f' → (∀ c, c < 216 → f c ≤ f' c ∧ f' c ≤ F c ∧ (f' c = f c ∨ f' c = g)) → (∀ c, lf_adj i c → W c = 0 → g ≤ f' c) → post (W, L, H, G', V, Q)) : wpX_spreadFrom__glowWithout post (W, L, H, G, V, Q) (nI i) := by
  have a := hf i hi
  have b := h12 i hi
  unfold wpX_spreadFrom__glowWithout
  dsimp only
  refine ⟨lf_in hi, nm_r (e' := nI g) (by rw [lf_c hi, hG i hi, fi, nI_pred]) ⟨7, ?_⟩⟩
  refine lf_xSF9B hi h12 (by omega) (fun c ha w => ?_) hp 7 0 G f (by omega) (by omega) hG (fun c hc => ⟨Nat.le_refl _, hf c hc, Or.inl rfl⟩) fun t ht => absurd ht (Nat.not_lt_zero t)
  have := hc i c hi ha w
  omega
theorem lf_xSp10B {post : SX → Prop} {J : Int32 → (Nat → Int32) → (Nat → Int32) → (Nat → Int32) → (Nat → Int32) → (Nat → Int32) → (Nat → Int32) → Prop} {g : Nat} {F s : Nat → Nat} (h12 : ∀ c, c < 216 → F c ≤ 12) (hc : lf_Cl W F) (hg : g < 13) (hJ : ∀ G' f', lf_eq G' f' → lf_Lv W F s (g + 1) 216 f' → J (nI g) W L H G' V Q) : ∀ (n i : Nat) (G : Nat → Int32) (f : Nat → Nat), 216 - i < n → i ≤ 216 → lf_eq G f → lf_Lv W F s (g + 1) i f → wX_spread__glowWithout_10 post J (nI (g + 1)) n (nI i) W L H G V Q := by
  intro n
  induction n with
  | zero => intro i G f h; omega
  | succ n ih =>
    intro i G f hn hi hG hv
    refine pk_le 216 i (fun h => nm_r (pk_m1 g) (hJ G f hG ?_)) fun h => ⟨lf_in h, ?_⟩
    · have e : i = 216 := by omega
      rw [e] at hv
      exact hv
    have gi : G (nI i).toNatClampNeg = nI (f i) := by
      rw [lf_c h]
      exact hG i h
    have a := (hv.1 i h).2
    have b := h12 i h
    refine pk_eq (f i) (g + 1) (fun e => ?_) (fun e => nm_r (nI_1 i) (ih (i + 1) G f (by omega) h hG (lf_lvN hv e))) gi rfl
    refine lf_xSFB h h12 hG (fun c hc => (hv.1 c hc).2) e hc fun G' f' k1 k2 k3 => nm_r (nI_1 i) ?_
    refine ih (i + 1) G' f' (by omega) h k1 (lf_lvS hv (fun c hc => ?_) fun c ha w => ?_)
    · have := k2 c hc
      omega
    · have := k3 c ha w
      omega
theorem lf_xSp3B {post : SX → Prop} {F s : Nat → Nat} (hL : lf_L W s F) (h12 : ∀ c, c < 216 → F c ≤ 12) (hp : ∀ G', lf_eq G' F → post (W, L, H, G', V, Q)) : ∀ (n l : Nat) (G : Nat → Int32) (f : Nat → Nat), l < n → 1 ≤ l → l ≤ 12 → lf_eq G f → lf_Lv W F s l 0 f → wX_spread__glowWithout_3 post n (nI l) W L H G V Q := by
  intro n
  induction n with
  | zero => intro l G f h; omega
  | succ n ih =>
    intro l G f hn h1 hl hG hv
    refine pk_le l 1 (fun h => hp G (lf_eqC hG fun c hc => ?_)) fun h => ?_
    · have e : l = 1 := by omega
      subst e
      exact lf_lvE hL hv hc
    · obtain ⟨g, rfl⟩ : ∃ g, l = g + 1 := ⟨l - 1, by omega⟩
      exact ⟨217, lf_xSp10B h12 hL.1.2 (by omega) (fun G' f' k1 k2 => ih g G' f' (by omega) (by omega) (by omega) k1 (lf_lvD k2)) 217 0 G f (by omega) (by omega) hG hv⟩
theorem lf_xSpreadB {post : SX → Prop} {F s : Nat → Nat} (hs : ∀ c, c < 216 → s c ≤ 12) (hL : lf_L W s F) (hG : lf_eq G s) (hp : ∀ G', lf_eq G' F → post (W, L, H, G', V, Q)) : wpX_spread__glowWithout post (W, L, H, G, V, Q) := ⟨13, lf_xSp3B hL (fun _ hc => lf_top hs hL hc) hp 13 12 G s (by omega) (by omega) (by omega) hG (lf_lv0 hs hL)⟩
theorem lf_xDarkenB {post : SX → Prop} (hp : ∀ G', lf_eq G' (fun _ => 0) → post (W, L, H, G', V, Q)) : wpX_darken__glowWithout post (W, L, H, G, V, Q) := ⟨217, lf_xDarkB 217 0 G (by omega) (by omega) (fun c hc => absurd hc (Nat.not_lt_zero c)) hp⟩
theorem lf_xAddLampsB {post : SX → Prop} {l : Nat → Nat} {e : Int32} (hl : ∀ c, l c ≤ 12 ∧ L c = nI (l c)) (hG : lf_eq G (fun _ => 0)) (hp : ∀ G', lf_eq G' (lf_wo l e) → post (W, L, H, G', V, Q)) : wpX_addLamps__glowWithout post (W, L, H, G, V, Q) e := ⟨217, lf_xLampsB hl 217 0 G (by omega) (by omega) (lf_eqC hG fun c _ => (if_neg (Nat.not_lt_zero c)).symm) hp⟩
theorem lf_xAddSkyB {post : SX → Prop} {f : Nat → Nat} (hf : ∀ c, c < 216 → f c ≤ 12) (hG : lf_eq G f) (hp : ∀ G', lf_eq G' (fun c => max (f c) (lf_s8 W c)) → post (W, L, H, G', V, Q)) : wpX_addSky__glowWithout post (W, L, H, G, V, Q) := ⟨217, lf_xSkiesB hf 217 0 G (by omega) (by omega) (lf_eqC hG fun c _ => (if_neg (Nat.not_lt_zero c)).symm) hp⟩
theorem lf_xLightB {post : SX → Prop} {l Fa Fb : Nat → Nat} {e : Int32} (hl : ∀ c, l c ≤ 12 ∧ L c = nI (l c)) (ha : lf_L W (lf_wo l e) Fa) (hb : lf_L W (lf_s8 W) Fb) (hp : ∀ G', lf_eq G' (fun c => max (Fa c) (Fb c)) → post (W, L, H, G', V, Q)) : wpX_findLight__glowWithout post (W, L, H, G, V, Q) e := by
  unfold wpX_findLight__glowWithout
  dsimp only
  refine lf_xDarkenB fun G1 k1 => ?_
  refine lf_xAddLampsB hl k1 fun G2 k2 => ?_
  refine lf_xAddSkyB (fun c _ => lf_wo12 (fun c => (hl c).1) e c) k2 fun G3 k3 => ?_
  refine lf_xSpreadB (fun c hc => ?_) (lf_max ha hb) k3 fun G4 k4 => hp G4 k4
  have a := lf_wo12 (fun c => (hl c).1) e c
  have b := lf_s812 W c
  show max (lf_wo l e c) (lf_s8 W c) ≤ 12
  omega
end
end
section
/-! the reference's light -/
/-- one pass, up to step k: f0 at its start, f now -/
def lf_Fw (W : Nat → Int32) (F f0 : Nat → Nat) (k : Nat) (f : Nat → Nat) : Prop := (∀ c, c < 216 → f0 c ≤ f c ∧ f c ≤ F c) ∧ ∀ j, j < k → ∀ d, lf_m (j / 6) (j % 6) = some d → W (j / 6) = 0 → f0 d ≤ f (j / 6) + 1
theorem lf_fw0 {W : Nat → Int32} {F f0 : Nat → Nat} (h : ∀ c, c < 216 → f0 c ≤ F c) : lf_Fw W F f0 0 f0 := ⟨fun c hc => ⟨Nat.le_refl _, h c hc⟩, fun j hj => absurd hj (Nat.not_lt_zero j)⟩
theorem lf_fwN {W : Nat → Int32} {F f0 f : Nat → Nat} {k : Nat} (hk : k < 1296) (h : lf_Fw W F f0 k f) (e : ∀ d, lf_m (k / 6) (k % 6) = some d → W (k / 6) = 0 → f d ≤ f (k / 6) + 1) : lf_Fw W F f0 (k + 1) f := by
  refine ⟨h.1, fun j hj d em w => ?_⟩
  by_cases ej : j = k
  · subst ej
    have a := e d em w
    have b := (h.1 d (lf_adj_in (by omega) (lf_adj_m em))).1
    omega
  · exact h.2 j (by omega) d em w
theorem lf_fwS {W : Nat → Int32} {F f0 f : Nat → Nat} {k d : Nat} (hk : k < 1296) (hc : lf_Cl W F) (h : lf_Fw W F f0 k f) (em : lf_m (k / 6) (k % 6) = some d) (w : W (k / 6) = 0) (hl : f (k / 6) + 1 < f d) : lf_Fw W F f0 (k + 1) (lf_u f (k / 6) (f d - 1)) := by
  have c216 : k / 6 < 216 := by omega
  have adj := lf_adj_m em
  have d216 := lf_adj_in c216 adj
  have up : ∀ x, f x ≤ lf_u f (k / 6) (f d - 1) x := by
    intro x
    by_cases ex : x = k / 6
    · rw [ex, lf_us]
      omega
    · rw [lf_uo ex]
      exact Nat.le_refl _
  refine ⟨fun x hx => ⟨Nat.le_trans (h.1 x hx).1 (up x), ?_⟩, fun j hj d' em' w' => ?_⟩
  · by_cases ex : x = k / 6
    · rw [ex, lf_us]
      have a := hc d (k / 6) d216 (lf_adj_sym c216 adj) w
      have b := (h.1 d d216).2
      omega
    · rw [lf_uo ex]
      exact (h.1 x hx).2
  · by_cases ej : j = k
    · subst ej
      have e : d = d' := by
        rw [em] at em'
        injection em'
      subst e
      rw [lf_us]
      have b := (h.1 d d216).1
      omega
    · have a := h.2 j (by omega) d' em' w'
      have b := up (j / 6)
      omega
theorem lf_fwE {W : Nat → Int32} {F f0 f : Nat → Nat} (h : lf_Fw W F f0 1296 f) {c d : Nat} (hc : c < 216) (ha : lf_adj c d) (w : W c = 0) : f0 d ≤ f c + 1 := by
  obtain ⟨s, hs, e⟩ := lf_adj_ex ha
  have e1 : (6 * c + s) / 6 = c := by omega
  have e2 : (6 * c + s) % 6 = s := by omega
  have k := h.2 (6 * c + s) (by omega) d
  rw [e1, e2] at k
  exact k e w
theorem lf_fwC {W : Nat → Int32} {F f0 f : Nat → Nat} (h : lf_Fw W F f0 1296 f) (e : ∀ c, c < 216 → f c = f0 c) : lf_Cl W f := by
  intro d c hd ha w
  rw [e d hd]
  exact lf_fwE h (lf_adj_in hd ha) (lf_adj_sym hd ha) w
theorem lf_nbool {m : Int32} (h : m = 0 ∨ m = 1) : narrow .boolean (.int m) = .int m := by
  rcases h with rfl | rfl
  · exact congrArg Value.int (by decide)
  · exact congrArg Value.int (by decide)
section
variable {W L A B C D : Nat → Int32}
/-- the second half of a step: the sky's light -/
theorem lf_y79 {post : Int32 → SY → Prop} {J : Int32 → Int32 → (Nat → Int32) → (Nat → Int32) → (Nat → Int32) → (Nat → Int32) → (Nat → Int32) → (Nat → Int32) → Prop} {m : Int32} {k d : Nat} {Fb b0 fb : Nat → Nat} (hk : k < 1296) (h12 : ∀ c, c < 216 → Fb c ≤ 12) (hc : lf_Cl W Fb) (hB : lf_eq B fb) (hb : lf_Fw W Fb b0 k fb) (em : lf_m (k / 6) (k % 6) = some d) (w : W (k / 6) = 0) (h0 : lf_Fw W Fb b0 (k + 1) fb → J m (nI (k + 1)) W L A B C D) (h1 : ∀ B' fb', lf_eq B' fb' → lf_Fw W Fb b0 (k + 1) fb' → J 1 (nI (k + 1)) W L A B' C D) : wY_flow_79 post J m (nI k) (nI (k / 6)) (nI d) W L A B C D := by
  have c216 : k / 6 < 216 := by omega
  have d216 := lf_adj_in c216 (lf_adj_m em)
  have x1 := (hb.1 d d216).2
  have x2 := h12 d d216
  have x3 := (hb.1 _ c216).2
  have x4 := h12 _ c216
  unfold wY_flow_79
  refine ⟨lf_in d216, lf_in c216, ?_⟩
  rw [lf_c d216, lf_c c216, hB d d216, hB _ c216]
  refine lf_m1 (by omega) (by omega) (fun le => nm_r (nI_1 k) (h0 (lf_fwN hk hb fun d' e' _ => ?_))) fun lt => ⟨lf_in d216, lf_in c216, ?_⟩
  · rw [em] at e'
    injection e' with e'
    subst e'
    exact le
  · refine nm_r (e' := upd B (k / 6) (nI (fb d - 1))) ?_ (nm_r (nI_1 k) (h1 _ _ (lf_eqU hB _ _) (lf_fwS hk hc hb em w lt)))
    obtain ⟨q, e⟩ : ∃ q, fb d = q + 1 := ⟨fb d - 1, by omega⟩
    rw [e, nI_pred]
    rfl
/-- one pass -/
theorem lf_yFlow4 {post : Int32 → SY → Prop} {Fa Fb a0 b0 : Nat → Nat} (ha12 : ∀ c, c < 216 → Fa c ≤ 12) (hb12 : ∀ c, c < 216 → Fb c ≤ 12) (hca : lf_Cl W Fa) (hcb : lf_Cl W Fb) (hp : ∀ m A' B' fa fb, m = 0 ∨ m = 1 → lf_eq A' fa → lf_eq B' fb → lf_Fw W Fa a0 1296 fa → lf_Fw W Fb b0 1296 fb → (m = 0 → (∀ c, c < 216 → fa c = a0 c) ∧ ∀ c, c < 216 → fb c = b0 c) → post m (W, L, A', B', C, D)) : ∀ (n k : Nat) (m : Int32) (A B : Nat → Int32) (fa fb : Nat → Nat), 1296 - k < n → k ≤ 1296 → (m = 0 ∨ m = 1) → lf_eq A fa → lf_eq B fb → lf_Fw W Fa a0 k fa → lf_Fw W Fb b0 k fb → (m = 0 → (∀ c, c < 216 → fa c = a0 c) ∧ ∀ c, c < 216 → fb c = b0 c) → wY_flow_4 post n m (nI k) W L A B C D := by
  intro n
  induction n with
  | zero => intro k m A B fa fb h; omega
  | succ n ih =>
    intro k m A B fa fb hn hk hm hA hB fwa fwb hz
    refine pk_le 1296 k (fun h => ?_) fun h => ⟨by decide, nm_r (lf_d6 (by omega)) ⟨by decide, ?_⟩⟩
    · have e : k = 1296 := by omega
      subst e
      exact ⟨lf_nbool hm, hp m A B fa fb hm hA hB fwa fwb hz⟩
    have c216 : k / 6 < 216 := by omega
    have skip : (∀ d, lf_m (k / 6) (k % 6) = some d → ¬ W (k / 6) = 0) → wY_flow_4 post n m (nI (k + 1)) W L A B C D := fun no => ih (k + 1) m A B fa fb (by omega) h hm hA hB (lf_fwN h fwa fun d e w => absurd w (no d e)) (lf_fwN h fwb fun d e w => absurd w (no d e)) hz
    rw [lf_r6 (c := k) (by omega)]
    refine lf_yNb c216 (by omega) (fun e => br_t (by decide) (nm_r (nI_1 k) (skip fun d e' => ?_))) fun d e => ?_
    · rw [e] at e'
      exact nomatch e'
    have d216 := lf_adj_in c216 (lf_adj_m e)
    refine br_f (nI_pos (by omega)) ⟨lf_in c216, ?_⟩
    rw [lf_c c216]
    refine br_c (fun w => ⟨lf_in d216, lf_in c216, ?_⟩) fun w => nm_r (nI_1 k) (skip fun _ _ => w)
    have x1 := (fwa.1 d d216).2
    have x2 := ha12 d d216
    have x3 := (fwa.1 _ c216).2
    have x4 := ha12 _ c216
    rw [lf_c d216, hA d d216, hA _ c216]
    refine lf_m1 (by omega) (by omega) (fun le => ?_) fun lt => ⟨lf_in d216, lf_in c216, nm_r (e' := upd A (k / 6) (nI (fa d - 1))) ?_ ?_⟩
    · have fa' : lf_Fw W Fa a0 (k + 1) fa := lf_fwN h fwa fun d' e' _ => by
        rw [e] at e'
        injection e' with e'
        subst e'
        exact le
      exact lf_y79 h hb12 hcb hB fwb e w (fun fb' => ih (k + 1) m A B fa fb (by omega) h hm hA hB fa' fb' hz) fun B' fb' k1 k2 => ih (k + 1) 1 A B' fa fb' (by omega) h (Or.inr rfl) hA k1 fa' k2 fun z => absurd z lf_10
    · obtain ⟨q, eq⟩ : ∃ q, fa d = q + 1 := ⟨fa d - 1, by omega⟩
      rw [eq, nI_pred]
      rfl
    · have fa' := lf_fwS h hca fwa e w lt
      have hA' := lf_eqU hA (k / 6) (fa d - 1)
      exact lf_y79 h hb12 hcb hB fwb e w (fun fb' => ih (k + 1) 1 _ B _ fb (by omega) h (Or.inr rfl) hA' hB fa' fb' fun z => absurd z lf_10) fun B' fb' k1 k2 => ih (k + 1) 1 _ B' _ fb' (by omega) h (Or.inr rfl) hA' k1 fa' k2 fun z => absurd z lf_10
theorem lf_yFlow {post : Int32 → SY → Prop} {Fa Fb a0 b0 : Nat → Nat} (ha12 : ∀ c, c < 216 → Fa c ≤ 12) (hb12 : ∀ c, c < 216 → Fb c ≤ 12) (hca : lf_Cl W Fa) (hcb : lf_Cl W Fb) (hA : lf_eq A a0) (hB : lf_eq B b0) (la : ∀ c, c < 216 → a0 c ≤ Fa c) (lb : ∀ c, c < 216 → b0 c ≤ Fb c) (hp : ∀ m A' B' fa fb, m = 0 ∨ m = 1 → lf_eq A' fa → lf_eq B' fb → lf_Fw W Fa a0 1296 fa → lf_Fw W Fb b0 1296 fb → (m = 0 → (∀ c, c < 216 → fa c = a0 c) ∧ ∀ c, c < 216 → fb c = b0 c) → post m (W, L, A', B', C, D)) : wpY_flow post (W, L, A, B, C, D) := ⟨1297, lf_yFlow4 ha12 hb12 hca hcb hp 1297 0 0 A B a0 b0 (by omega) (by omega) (Or.inl rfl) hA hB (lf_fw0 la) (lf_fw0 lb) fun _ => ⟨fun _ _ => rfl, fun _ _ => rfl⟩⟩
/-- the passes -/
theorem lf_y51 {post : SY → Prop} {sa sb Fa Fb : Nat → Nat} (h1 : ∀ c, c < 216 → sa c ≤ 12) (h2 : ∀ c, c < 216 → sb c ≤ 12) (La : lf_L W sa Fa) (Lb : lf_L W sb Fb) (hp : ∀ A' B', lf_eq A' Fa → lf_eq B' Fb → post (W, L, A', B', C, D)) : ∀ (n k : Nat) (m : Int32) (A B : Nat → Int32) (fa fb : Nat → Nat), 216 - k < n → k ≤ 216 → lf_eq A fa → lf_eq B fb → lf_Pre Fa sa k fa → lf_Pre Fb sb k fb → (m = 0 → lf_Cl W fa ∧ lf_Cl W fb) → wY_shine_51 post n m (nI k) W L A B C D := by
  intro n
  induction n with
  | zero => intro k m A B fa fb h; omega
  | succ n ih =>
    intro k m A B fa fb hn hk hA hB pa pb hz
    refine pk_le 216 k (fun h => hp A B (lf_eqC hA fun c hc => lf_preE La pa (Or.inl (by omega)) hc) (lf_eqC hB fun c hc => lf_preE Lb pb (Or.inl (by omega)) hc)) fun h => ?_
    refine br_c (fun z => hp A B (lf_eqC hA fun c hc => lf_preE La pa (Or.inr (hz z).1) hc) (lf_eqC hB fun c hc => lf_preE Lb pb (Or.inr (hz z).2) hc)) fun z => ?_
    refine lf_yFlow (fun c hc => lf_top h1 La hc) (fun c hc => lf_top h2 Lb hc) La.1.2 Lb.1.2 hA hB (fun c hc => (pa.1 c hc).2) (fun c hc => (pb.1 c hc).2) fun m' A' B' fa' fb' _ hA' hB' fwa fwb hz' => nm_r (nI_1 k) ?_
    refine ih (k + 1) m' A' B' fa' fb' (by omega) h hA' hB' (lf_preS La pa fwa.1 fun c d hc ha w => lf_fwE fwa hc ha w) (lf_preS Lb pb fwb.1 fun c d hc ha w => lf_fwE fwb hc ha w) fun z' => ⟨lf_fwC fwa (hz' z').1, lf_fwC fwb (hz' z').2⟩
theorem lf_yShine2 {post : SY → Prop} {l Fa Fb : Nat → Nat} (hl : ∀ c, l c ≤ 12 ∧ L c = nI (l c)) (La : lf_L W l Fa) (Lb : lf_L W (lf_s8 W) Fb) (hp : ∀ A' B', lf_eq A' Fa → lf_eq B' Fb → post (W, L, A', B', C, D)) : ∀ (n i : Nat) (A B : Nat → Int32), 216 - i < n → i ≤ 216 → (∀ c, c < i → A c = nI (l c) ∧ B c = nI (lf_s8 W c)) → wY_shine_2 post n (nI i) W L A B C D := by
  intro n
  induction n with
  | zero => intro i A B h; omega
  | succ n ih =>
    intro i A B hn hi hAB
    refine pk_le 216 i (fun h => ?_) fun h => ⟨lf_in h, lf_in h, nm_r (e' := upd A i (nI (l i))) (by rw [lf_c h, (hl i).2]) ?_⟩
    · exact ⟨217, lf_y51 (fun c _ => (hl c).1) (fun c _ => lf_s812 W c) La Lb hp 217 0 1 A B l (lf_s8 W) (by omega) (by omega) (fun c hc => (hAB c (by omega)).1) (fun c hc => (hAB c (by omega)).2) (lf_pre0 (fun c _ => (hl c).1) La) (lf_pre0 (fun c _ => lf_s812 W c) Lb) fun z => absurd z lf_10⟩
    have go : ∀ v, v = lf_s8 W i → wY_shine_2 post n (nI (i + 1)) W L (upd A i (nI (l i))) (upd B i (nI v)) C D := by
      intro v ev
      refine ih (i + 1) _ _ (by omega) h fun c hc => ?_
      by_cases e : c = i
      · subst e
        rw [pk_us, pk_us, ev]
        exact ⟨rfl, rfl⟩
      · rw [pk_un e, pk_un e]
        exact hAB c (by omega)
    refine lf_ySky h (fun sk => br_f lf_10 ⟨lf_in h, nm_r (e' := upd B i (nI 8)) (by rw [lf_c h]; rfl) (nm_r (nI_1 i) (go 8 (lf_s8t sk).symm))⟩) fun sk => br_t rfl ⟨lf_in h, nm_r (e' := upd B i (nI 0)) (by rw [lf_c h]; rfl) (nm_r (nI_1 i) (go 0 (lf_s8f sk).symm))⟩
theorem lf_yShine {post : SY → Prop} {l Fa Fb : Nat → Nat} (hl : ∀ c, l c ≤ 12 ∧ L c = nI (l c)) (La : lf_L W l Fa) (Lb : lf_L W (lf_s8 W) Fb) (hp : ∀ A' B', lf_eq A' Fa → lf_eq B' Fb → post (W, L, A', B', C, D)) : wpY_shine post (W, L, A, B, C, D) := ⟨217, lf_yShine2 hl La Lb hp 217 0 A B (by omega) (by omega) fun c hc => absurd hc (Nat.not_lt_zero c)⟩
theorem lf_yLight {post : Int32 → Prop} {fa fb : Nat → Nat} {c : Nat} (hc : c < 216) (hA : lf_eq A fa) (hB : lf_eq B fb) (a12 : fa c ≤ 12) (b12 : fb c ≤ 12) (h : post (nI (max (fa c) (fb c)))) : wpY_light post (W, L, A, B, C, D) (nI c) := by
  unfold wpY_light
  dsimp only
  refine ⟨lf_in hc, lf_in hc, ?_⟩
  rw [lf_c hc, hA c hc, hB c hc]
  refine pk_le (fa c) (fb c) (fun k => ⟨lf_in hc, ?_⟩) fun k => ⟨lf_in hc, ?_⟩
  · rw [Nat.max_eq_right k] at h
    exact h
  · rw [Nat.max_eq_left (by omega)] at h
    exact h
end
end
section
/-! the loops that count, fill, shell, darkest -/
theorem lf_cn_0 {p : Nat → Prop} {n : Nat} (h : ∀ i, i < n → ¬ p i) : lf_cn p n = 0 := by
  induction n with
  | zero => rfl
  | succ n ih => rw [lf_cn_f (h n (by omega)), ih fun i hi => h i (by omega)]
/-- a loop that counts -/
theorem lf_cnt (p : Nat → Prop) (e : Nat) (K : Nat → Int32 → Nat → Prop) (hx : ∀ n, K (n + 1) (nI (lf_cn p e)) e) (hs : ∀ n i, i < e → (p i → K n (nI (lf_cn p i + 1)) (i + 1)) → (¬ p i → K n (nI (lf_cn p i)) (i + 1)) → K (n + 1) (nI (lf_cn p i)) i) : ∀ n i, i ≤ e → e - i < n → K n (nI (lf_cn p i)) i := by
  intro n
  induction n with
  | zero => intro i _ h; omega
  | succ n ih =>
    intro i hi hn
    by_cases h : i = e
    · subst h
      exact hx n
    · refine hs n i (by omega) (fun k => ?_) fun k => ?_
      · have z := ih (i + 1) (by omega) (by omega)
        rw [lf_cn_t k] at z
        exact z
      · have z := ih (i + 1) (by omega) (by omega)
        rw [lf_cn_f k] at z
        exact z
def lf_pLit (f : Nat → Nat) (a b : Nat) (v : Int32) (c : Nat) : Prop := (lf_le a c ∧ lf_le c b) ∧ ¬ nI (f c) < v
def lf_pDim (W : Nat → Int32) (f : Nat → Nat) (v : Int32) (c : Nat) : Prop := W c = 0 ∧ nI (f c) = v
def lf_pSha (W : Nat → Int32) (f : Nat → Nat) (v : Int32) (c : Nat) : Prop := 36 ≤ c ∧ W c = 0 ∧ ¬ W (c - 36) = 0 ∧ ¬ v < nI (f c)
def lf_pSrv (f g : Nat → Nat) (c : Nat) : Prop := ¬ f c ≤ g c
/-- a side is bare: outside, or beside a free cell -/
def lf_br (W : Nat → Int32) (o : Option Nat) : Prop := ∀ d, o = some d → W d = 0
def lf_pFac (W : Nat → Int32) (k : Nat) : Prop := ¬ W (k / 6) = 0 ∧ lf_br W (lf_m (k / 6) (k % 6))
theorem lf_br_n {W : Nat → Int32} {o : Option Nat} (h : o = none) : lf_br W o := fun d e => by
  rw [h] at e
  exact nomatch e
theorem lf_br_s {W : Nat → Int32} {o : Option Nat} {d : Nat} (h : o = some d) : lf_br W o ↔ W d = 0 := by
  constructor
  · intro k
    exact k d h
  · intro k d' e
    rw [h] at e
    injection e with e
    subst e
    exact k
section
variable {W L G H V Q : Nat → Int32}
theorem lf_xLit {post : Int32 → SX → Prop} {f : Nat → Nat} {a b : Nat} {v : Int32} (ha : a < 216) (hb : b < 216) (hG : lf_eq G f) (hp : post (nI (lf_cn (lf_pLit f a b v) 216)) (W, L, G, H, V, Q)) : ∃ n, wX_lit_25 post (nI a) (nI b) v W L G H V Q n 0 0 := by
  refine ⟨217, lf_cnt (lf_pLit f a b v) 216 (fun n x i => wX_lit_25 post (nI a) (nI b) v W L G H V Q n x (nI i)) (fun n => ?_) (fun n i h t z => ?_) 217 0 (by omega) (by omega)⟩
  · exact br_t (nI_le (b := 216) (Nat.le_refl _) (by decide)) hp
  · refine br_f (nI_ge (b := 216) h (by decide)) (lf_xBox h ha hb (fun k => br_f lf_10 ⟨lf_in h, ?_⟩) fun k => br_t rfl (nm_r (nI_1 i) (z fun q => k q.1)))
    rw [lf_c h, hG i h]
    exact br_c (fun q => nm_r (nI_1 i) (z fun q' => q'.2 q)) fun q => nm_r (nI_1 _) (nm_r (nI_1 i) (t ⟨k, q⟩))
theorem lf_xDim {post : Int32 → SX → Prop} {f : Nat → Nat} {v : Int32} (hG : lf_eq G f) (hp : post (nI (lf_cn (lf_pDim W f v) 216)) (W, L, G, H, V, Q)) : ∃ n, wX_dim_25 post v W L G H V Q n 0 0 := by
  refine ⟨217, lf_cnt (lf_pDim W f v) 216 (fun n x i => wX_dim_25 post v W L G H V Q n x (nI i)) (fun n => ?_) (fun n i h t z => ?_) 217 0 (by omega) (by omega)⟩
  · exact br_t (nI_le (b := 216) (Nat.le_refl _) (by decide)) hp
  · refine br_f (nI_ge (b := 216) h (by decide)) (lf_xFree h (fun w => br_f lf_10 ⟨lf_in h, ?_⟩) fun w => br_t rfl (nm_r (nI_1 i) (z fun q => w q.1)))
    rw [lf_c h, hG i h]
    exact br_c (fun q => nm_r (nI_1 _) (nm_r (nI_1 i) (t ⟨w, q⟩))) fun q => nm_r (nI_1 i) (z fun q' => q q'.2)
theorem lf_xSha {post : Int32 → SX → Prop} {f : Nat → Nat} {v : Int32} (hG : lf_eq G f) (hp : post (nI (lf_cn (lf_pSha W f v) 216)) (W, L, G, H, V, Q)) : ∃ n, wX_shady_14 post v W L G H V Q n 0 36 := by
  have key := lf_cnt (lf_pSha W f v) 216 (fun n x i => 36 ≤ i → wX_shady_14 post v W L G H V Q n x (nI i)) (fun n _ => ?_) (fun n i h t z h36 => ?_) 217 36 (by omega) (by omega) (Nat.le_refl 36)
  · rw [lf_cn_0 (p := lf_pSha W f v) (n := 36) fun i hi q => absurd q.1 (by omega)] at key
    exact ⟨217, key⟩
  · exact br_t (nI_le (b := 216) (Nat.le_refl _) (by decide)) hp
  · have u216 : i - 36 < 216 := by omega
    refine br_f (nI_ge (b := 216) h (by decide)) (lf_xFree h (fun w => br_f lf_10 ?_) fun w => br_t rfl (nm_r (nI_1 i) (z (fun q => w q.2.1) (by omega))))
    rw [lf_s36 h36, lf_c u216, lf_c h, hG i h]
    refine ⟨lf_in u216, br_c (fun w' => nm_r (nI_1 i) (z (fun q => q.2.2.1 w') (by omega))) fun w' => ⟨lf_in h, ?_⟩⟩
    exact br_c (fun q => nm_r (nI_1 i) (z (fun q' => q'.2.2.2 q) (by omega))) fun q => nm_r (nI_1 _) (nm_r (nI_1 i) (t ⟨h36, w, w', q⟩ (by omega)))
theorem lf_xOpen {post : Int32 → Prop} (hp : post (nI (lf_cn (lf_sky W) 216))) : wpX_open post (W, L, G, H, V, Q) := by
  refine ⟨217, lf_cnt (lf_sky W) 216 (fun n x i => wX_open_4 post W L G H V Q n x (nI i)) (fun n => ?_) (fun n i h t z => ?_) 217 0 (by omega) (by omega)⟩
  · exact br_t (nI_le (b := 216) (Nat.le_refl _) (by decide)) hp
  · exact br_f (nI_ge (b := 216) h (by decide)) (lf_xSky h (fun k => br_f lf_10 (nm_r (nI_1 _) (nm_r (nI_1 i) (t k)))) fun k => br_t rfl (nm_r (nI_1 i) (z k)))
theorem lf_xSrv {post : Int32 → SX → Prop} {f g : Nat → Nat} (f12 : ∀ c, c < 216 → f c ≤ 12) (g12 : ∀ c, c < 216 → g c ≤ 12) (hG : lf_eq G f) (hH : lf_eq H g) (hp : post (nI (lf_cn (lf_pSrv f g) 216)) (W, L, G, H, V, Q)) : ∃ n, wX_serves_31 post W L G H V Q n 0 0 := by
  refine ⟨217, lf_cnt (lf_pSrv f g) 216 (fun n x i => wX_serves_31 post W L G H V Q n x (nI i)) (fun n => ?_) (fun n i h t z => ?_) 217 0 (by omega) (by omega)⟩
  · exact br_t (nI_le (b := 216) (Nat.le_refl _) (by decide)) hp
  · refine br_f (nI_ge (b := 216) h (by decide)) ⟨lf_in h, lf_in h, ?_⟩
    have a := f12 i h
    have b := g12 i h
    rw [lf_c h, hG i h, hH i h]
    exact pk_le (f i) (g i) (fun q => nm_r (nI_1 i) (z fun q' => q' q)) fun q => nm_r (nI_1 _) (nm_r (nI_1 i) (t (by unfold lf_pSrv; omega)))
theorem lf_xBare {post : Int32 → Prop} {c : Nat} (hc : c < 216) (hp : post (nI (lf_cn (fun s => lf_br W (lf_n c s)) 6))) : wpX_bareSides post (W, L, G, H, V, Q) (nI c) := by
  refine ⟨7, lf_cnt (fun s => lf_br W (lf_n c s)) 6 (fun n x s => wX_bareSides_4 post (nI c) W L G H V Q n x (nI s)) (fun n => ?_) (fun n s h t z => ?_) 7 0 (by omega) (by omega)⟩
  · exact br_t (nI_le (b := 6) (Nat.le_refl _) (by decide)) hp
  · refine br_f (nI_ge (b := 6) h (by decide)) (lf_xNb hc h (fun e => br_t rfl (nm_r (nI_1 _) (nm_r (nI_1 s) (t (lf_br_n e))))) fun d e => ?_)
    have d216 := (lf_nm hc h e).1
    have ne : ¬ nI d = -1 := fun k => by
      have := congrArg Int32.toInt k
      rw [nI_toInt (by omega), show (-1 : Int32).toInt = -1 from by decide] at this
      omega
    exact br_f ne (lf_xFree d216 (fun w => br_f lf_10 (nm_r (nI_1 _) (nm_r (nI_1 s) (t ((lf_br_s e).mpr w))))) fun w => br_t rfl (nm_r (nI_1 s) (z fun q => w ((lf_br_s e).mp q))))
theorem lf_facS {i : Nat} : (¬ W i = 0 → lf_cn (lf_pFac W) (6 * (i + 1)) = lf_cn (lf_pFac W) (6 * i) + lf_cn (fun s => lf_br W (lf_n i s)) 6) ∧ (W i = 0 → lf_cn (lf_pFac W) (6 * (i + 1)) = lf_cn (lf_pFac W) (6 * i)) := by
  have e := lf_cn_add (lf_pFac W) (6 * i) 6
  rw [show 6 * (i + 1) = 6 * i + 6 from by omega, e]
  have d : ∀ s, s < 6 → (6 * i + s) / 6 = i ∧ (6 * i + s) % 6 = s := fun s hs => ⟨by omega, by omega⟩
  constructor
  · intro w
    rw [← lf_cn_6 (fun s => lf_br W (lf_n i s))]
    refine congrArg (fun y => _ + y) (lf_cn_congr fun s hs => ?_)
    show (¬ W ((6 * i + s) / 6) = 0 ∧ lf_br W (lf_m ((6 * i + s) / 6) ((6 * i + s) % 6))) ↔ lf_br W (lf_n i (lf_o s))
    rw [(d s hs).1, (d s hs).2]
    exact ⟨fun k => k.2, fun k => ⟨w, k⟩⟩
  · intro w
    rw [lf_cn_0 (p := fun s => lf_pFac W (6 * i + s)) fun s hs q => q.1 (by rw [(d s hs).1]; exact w)]
    rfl
theorem lf_xFac4 {post : Int32 → Prop} (hp : post (nI (lf_cn (lf_pFac W) 1296))) : ∀ n i : Nat, i ≤ 216 → 216 - i < n → wX_faces_4 post W L G H V Q n (nI (lf_cn (lf_pFac W) (6 * i))) (nI i) := by
  intro n
  induction n with
  | zero => intro i _ h; omega
  | succ n ih =>
    intro i hi hn
    refine pk_le 216 i (fun h => ?_) fun h => ⟨lf_in h, ?_⟩
    · have e : i = 216 := by omega
      subst e
      exact hp
    rw [lf_c h]
    have z := ih (i + 1) h (by omega)
    refine br_c (fun w => nm_r (nI_1 i) ?_) fun w => lf_xBare h (nm_r (nI_add _ _) (nm_r (nI_1 i) ?_))
    · rw [lf_facS.2 w] at z
      exact z
    · rw [lf_facS.1 w] at z
      exact z
theorem lf_xFac {post : Int32 → Prop} (hp : post (nI (lf_cn (lf_pFac W) 1296))) : wpX_faces post (W, L, G, H, V, Q) := ⟨217, lf_xFac4 hp 217 0 (by omega) (by omega)⟩
theorem lf_xMk {post : Int32 → SX → Prop} {c : Nat} {z : Int32} (hc : c < 216) (hz : vp_nar .boolean z = z) (h0 : W c = z → post 0 (W, L, G, H, V, Q)) (h1 : ¬ W c = z → post 1 (upd W c z, L, G, H, V, Q)) : wpX_makeSolid post (W, L, G, H, V, Q) (nI c) z := by
  unfold wpX_makeSolid
  dsimp only
  refine ⟨lf_in hc, ?_⟩
  rw [lf_c hc, hz]
  exact br_c h0 fun k => ⟨lf_in hc, nm_e (h1 k)⟩
theorem lf_xF48 {post : Int32 → SX → Prop} {J : Int32 → Int32 → (Nat → Int32) → (Nat → Int32) → (Nat → Int32) → (Nat → Int32) → (Nat → Int32) → (Nat → Int32) → Prop} {x1 x2 x3 x z : Int32} {c : Nat} (hc : c < 216) (hz : vp_nar .boolean z = z) (h0 : W c = z → J x (nI (c + 1)) W L G H V Q) (h1 : ¬ W c = z → J (x + 1) (nI (c + 1)) (upd W c z) L G H V Q) : wX_fill_48 post J x1 x2 x3 (nI c) z (nI c) x W L G H V Q := by
  unfold wX_fill_48
  exact lf_xMk hc hz (fun e => nm_r (Int32.add_zero x) (nm_r (nI_1 c) (h0 e))) fun e => nm_e (nm_r (nI_1 c) (h1 e))
end
section
variable {W L A B C D : Nat → Int32}
theorem lf_yLit {post : Int32 → SY → Prop} {fa fb : Nat → Nat} {a b : Nat} {v : Int32} (ha : a < 216) (hb : b < 216) (hA : lf_eq A fa) (hB : lf_eq B fb) (a12 : ∀ c, c < 216 → fa c ≤ 12) (b12 : ∀ c, c < 216 → fb c ≤ 12) (hp : post (nI (lf_cn (lf_pLit (fun c => max (fa c) (fb c)) a b v) 216)) (W, L, A, B, C, D)) : ∃ n, wY_lit_21 post (nI a) (nI b) v W L A B C D n 0 0 := by
  refine ⟨217, lf_cnt (lf_pLit (fun c => max (fa c) (fb c)) a b v) 216 (fun n x i => wY_lit_21 post (nI a) (nI b) v W L A B C D n x (nI i)) (fun n => ?_) (fun n i h t z => ?_) 217 0 (by omega) (by omega)⟩
  · exact br_t (nI_le (b := 216) (Nat.le_refl _) (by decide)) hp
  · refine br_f (nI_ge (b := 216) h (by decide)) (lf_yBox h ha hb (fun k => br_f lf_10 (lf_yLight h hA hB (a12 i h) (b12 i h) ?_)) fun k => br_t rfl (nm_r (nI_1 i) (z fun q => k q.1)))
    exact br_c (fun q => nm_r (nI_1 i) (z fun q' => q'.2 q)) fun q => nm_r (nI_1 _) (nm_r (nI_1 i) (t ⟨k, q⟩))
theorem lf_yDim {post : Int32 → SY → Prop} {fa fb : Nat → Nat} {v : Int32} (hA : lf_eq A fa) (hB : lf_eq B fb) (a12 : ∀ c, c < 216 → fa c ≤ 12) (b12 : ∀ c, c < 216 → fb c ≤ 12) (hp : post (nI (lf_cn (lf_pDim W (fun c => max (fa c) (fb c)) v) 216)) (W, L, A, B, C, D)) : ∃ n, wY_dim_20 post v W L A B C D n 0 0 := by
  refine ⟨217, lf_cnt (lf_pDim W (fun c => max (fa c) (fb c)) v) 216 (fun n x i => wY_dim_20 post v W L A B C D n x (nI i)) (fun n => ?_) (fun n i h t z => ?_) 217 0 (by omega) (by omega)⟩
  · exact br_t (nI_le (b := 216) (Nat.le_refl _) (by decide)) hp
  · refine br_f (nI_ge (b := 216) h (by decide)) ⟨lf_in h, ?_⟩
    rw [lf_c h]
    refine br_c (fun w => lf_yLight h hA hB (a12 i h) (b12 i h) ?_) fun w => nm_r (nI_1 i) (z fun q => w q.1)
    exact br_c (fun q => nm_r (nI_1 _) (nm_r (nI_1 i) (t ⟨w, q⟩))) fun q => nm_r (nI_1 i) (z fun q' => q q'.2)
theorem lf_ySha {post : Int32 → SY → Prop} {fa fb : Nat → Nat} {v : Int32} (hA : lf_eq A fa) (hB : lf_eq B fb) (a12 : ∀ c, c < 216 → fa c ≤ 12) (b12 : ∀ c, c < 216 → fb c ≤ 12) (hp : post (nI (lf_cn (lf_pSha W (fun c => max (fa c) (fb c)) v) 216)) (W, L, A, B, C, D)) : ∃ n, wY_shady_9 post v W L A B C D n 0 36 := by
  have key := lf_cnt (lf_pSha W (fun c => max (fa c) (fb c)) v) 216 (fun n x i => 36 ≤ i → wY_shady_9 post v W L A B C D n x (nI i)) (fun n _ => ?_) (fun n i h t z h36 => ?_) 217 36 (by omega) (by omega) (Nat.le_refl 36)
  · rw [lf_cn_0 (p := lf_pSha W (fun c => max (fa c) (fb c)) v) (n := 36) fun i hi q => absurd q.1 (by omega)] at key
    exact ⟨217, key⟩
  · exact br_t (nI_le (b := 216) (Nat.le_refl _) (by decide)) hp
  · have u216 : i - 36 < 216 := by omega
    refine br_f (nI_ge (b := 216) h (by decide)) ⟨lf_in h, ?_⟩
    rw [lf_c h]
    refine br_c (fun w => ?_) fun w => nm_r (nI_1 i) (z (fun q => w q.2.1) (by omega))
    rw [lf_s36 h36, lf_c u216]
    refine ⟨lf_in u216, br_c (fun w' => nm_r (nI_1 i) (z (fun q => q.2.2.1 w') (by omega))) fun w' => lf_yLight h hA hB (a12 i h) (b12 i h) ?_⟩
    exact br_c (fun q => nm_r (nI_1 i) (z (fun q' => q'.2.2.2 q) (by omega))) fun q => nm_r (nI_1 _) (nm_r (nI_1 i) (t ⟨h36, w, w', q⟩ (by omega)))
theorem lf_yOpen {post : Int32 → Prop} (hp : post (nI (lf_cn (lf_sky W) 216))) : wpY_open post (W, L, A, B, C, D) := by
  refine ⟨217, lf_cnt (lf_sky W) 216 (fun n x i => wY_open_4 post W L A B C D n x (nI i)) (fun n => ?_) (fun n i h t z => ?_) 217 0 (by omega) (by omega)⟩
  · exact br_t (nI_le (b := 216) (Nat.le_refl _) (by decide)) hp
  · exact br_f (nI_ge (b := 216) h (by decide)) (lf_ySky h (fun k => br_f lf_10 (nm_r (nI_1 _) (nm_r (nI_1 i) (t k)))) fun k => br_t rfl (nm_r (nI_1 i) (z k)))
theorem lf_ySrv {post : Int32 → SY → Prop} {f fa fb : Nat → Nat} (f12 : ∀ c, c < 216 → f c ≤ 12) (hD : lf_eq D f) (hA : lf_eq A fa) (hB : lf_eq B fb) (a12 : ∀ c, c < 216 → fa c ≤ 12) (b12 : ∀ c, c < 216 → fb c ≤ 12) (hp : post (nI (lf_cn (lf_pSrv f (fun c => max (fa c) (fb c))) 216)) (W, L, A, B, C, D)) : ∃ n, wY_serves_70 post W L A B C D n 0 0 := by
  refine ⟨217, lf_cnt (lf_pSrv f (fun c => max (fa c) (fb c))) 216 (fun n x i => wY_serves_70 post W L A B C D n x (nI i)) (fun n => ?_) (fun n i h t z => ?_) 217 0 (by omega) (by omega)⟩
  · exact br_t (nI_le (b := 216) (Nat.le_refl _) (by decide)) hp
  · refine br_f (nI_ge (b := 216) h (by decide)) (lf_yLight h hA hB (a12 i h) (b12 i h) ⟨lf_in h, ?_⟩)
    have a := f12 i h
    have b := a12 i h
    have c := b12 i h
    rw [lf_c h, hD i h]
    exact pk_le (f i) (max (fa i) (fb i)) (fun q => nm_r (nI_1 i) (z fun q' => q' q)) fun q => nm_r (nI_1 _) (nm_r (nI_1 i) (t (Nat.not_le_of_lt q)))
theorem lf_yFac {post : Int32 → Prop} (hp : post (nI (lf_cn (lf_pFac W) 1296))) : wpY_faces post (W, L, A, B, C, D) := by
  refine ⟨1297, lf_cnt (lf_pFac W) 1296 (fun n x k => wY_faces_4 post W L A B C D n x (nI k)) (fun n => ?_) (fun n k h t z => ?_) 1297 0 (by omega) (by omega)⟩
  · exact br_t (nI_le (b := 1296) (Nat.le_refl _) (by decide)) hp
  · have c216 : k / 6 < 216 := by omega
    refine br_f (nI_ge (b := 1296) h (by decide)) ⟨by decide, by decide, ?_⟩
    rw [lf_r6 (c := k) (by omega), lf_d6 (c := k) (by omega), lf_c c216]
    refine lf_yNb c216 (by omega) (fun e => ⟨by decide, lf_in c216, ?_⟩) fun d e => ⟨by decide, lf_in c216, ?_⟩
    · exact br_c (fun w => nm_r (nI_1 k) (z fun q => q.1 w)) fun w => br_t (by decide) (nm_r (nI_1 _) (nm_r (nI_1 k) (t ⟨w, lf_br_n e⟩)))
    · have d216 := lf_adj_in c216 (lf_adj_m e)
      refine br_c (fun w => nm_r (nI_1 k) (z fun q => q.1 w)) fun w => br_f (nI_pos (by omega)) ⟨lf_in d216, ?_⟩
      rw [lf_c d216]
      exact br_c (fun w' => nm_r (nI_1 _) (nm_r (nI_1 k) (t ⟨w, (lf_br_s e).mpr w'⟩))) fun w' => nm_r (nI_1 k) (z fun q => w' ((lf_br_s e).mp q.2))
theorem lf_yF52 {post : Int32 → SY → Prop} {J : Int32 → Int32 → (Nat → Int32) → (Nat → Int32) → (Nat → Int32) → (Nat → Int32) → (Nat → Int32) → (Nat → Int32) → Prop} {x1 x2 x3 x z : Int32} {c : Nat} (hc : c < 216) (hz : x3 = 0 ∧ z = 0 ∨ ¬ x3 = 0 ∧ z = 1) (h0 : W c = z → J x (nI (c + 1)) W L A B C D) (h1 : ¬ W c = z → J (x + 1) (nI (c + 1)) (upd W c z) L A B C D) : wY_fill_52 post J x1 x2 x3 x (nI c) z (W c) W L A B C D := by
  unfold wY_fill_52
  refine br_c (fun e => nm_r (nI_1 c) (h0 e)) fun e => ?_
  rcases hz with ⟨e3, rfl⟩ | ⟨e3, rfl⟩
  · exact br_t e3 ⟨lf_in hc, nm_r (e' := upd W c 0) (by rw [lf_c hc, lf_b0]) (nm_e (nm_r (nI_1 c) (h1 e)))⟩
  · exact br_f e3 ⟨lf_in hc, nm_r (e' := upd W c 1) (by rw [lf_c hc, lf_b1]) (nm_e (nm_r (nI_1 c) (h1 e)))⟩
def lf_fl (f : Int32) (P : Prop) : Prop := f = 1 ∧ P ∨ f = 0 ∧ ¬ P
theorem lf_ySh127 {post : Int32 → SY → Prop} {J : Int32 → Int32 → (Nat → Int32) → (Nat → Int32) → (Nat → Int32) → (Nat → Int32) → (Nat → Int32) → (Nat → Int32) → Prop} {x f1 f2 f3 : Int32} {a b c : Nat} {P R S : Prop} (hc : c < 216) (ha : a < 216) (hb : b < 216) (h1 : lf_fl f1 P) (h2 : lf_fl f2 R) (h3 : lf_fl f3 S) (y : (lf_le a c ∧ lf_le c b) ∧ W c = 0 ∧ (P ∨ R ∨ S) → J (x + 1) (nI (c + 1)) (upd W c 1) L A B C D) (no : ¬ ((lf_le a c ∧ lf_le c b) ∧ W c = 0 ∧ (P ∨ R ∨ S)) → J x (nI (c + 1)) W L A B C D) : wY_shell_127 post J (nI a) (nI b) x (nI c) f1 f2 f3 W L A B C D := by
  unfold wY_shell_127
  refine lf_yBox hc ha hb (fun k => br_f lf_10 ⟨lf_in hc, ?_⟩) fun k => br_t rfl (nm_r (nI_1 c) (no fun z => k z.1))
  rw [lf_c hc]
  refine br_c (fun w => ?_) fun w => nm_r (nI_1 c) (no fun z => w z.2.1)
  have g : (P ∨ R ∨ S) → wY_shell_168 post J (nI a) (nI b) x (nI c) W L A B C D := fun p => ⟨lf_in hc, nm_r (e' := upd W c 1) (by rw [lf_c hc, lf_b1]) (nm_e (nm_r (nI_1 c) (y ⟨k, w, p⟩)))⟩
  rcases h1 with ⟨rfl, p⟩ | ⟨rfl, p⟩
  · exact br_f lf_10 (g (Or.inl p))
  refine br_t rfl ?_
  rcases h2 with ⟨rfl, q⟩ | ⟨rfl, q⟩
  · exact br_f lf_10 (g (Or.inr (Or.inl q)))
  refine br_t rfl ?_
  rcases h3 with ⟨rfl, s⟩ | ⟨rfl, s⟩
  · exact br_f lf_10 (g (Or.inr (Or.inr s)))
  exact br_t rfl (nm_r (nI_1 c) (no fun z => z.2.2.elim p fun z => z.elim q s))
theorem lf_ySh96 {post : Int32 → SY → Prop} {J : Int32 → Int32 → (Nat → Int32) → (Nat → Int32) → (Nat → Int32) → (Nat → Int32) → (Nat → Int32) → (Nat → Int32) → Prop} {x f1 f2 : Int32} {a b c : Nat} {P R : Prop} (hc : c < 216) (ha : a < 216) (hb : b < 216) (h1 : lf_fl f1 P) (h2 : lf_fl f2 R) (y : (lf_le a c ∧ lf_le c b) ∧ W c = 0 ∧ (P ∨ R ∨ (c / 36 = a / 36 ∨ c / 36 = b / 36)) → J (x + 1) (nI (c + 1)) (upd W c 1) L A B C D) (no : ¬ ((lf_le a c ∧ lf_le c b) ∧ W c = 0 ∧ (P ∨ R ∨ (c / 36 = a / 36 ∨ c / 36 = b / 36))) → J x (nI (c + 1)) W L A B C D) : wY_shell_96 post J (nI a) (nI b) x (nI c) f1 f2 W L A B C D := by
  unfold wY_shell_96
  refine ⟨by decide, by decide, pk_eq (c / 36) (a / 36) (fun e => ?_) (fun e => ⟨by decide, by decide, pk_eq (c / 36) (b / 36) (fun e' => ?_) (fun e' => ?_) (lf_z36 (by omega)) (lf_z36 (by omega))⟩) (lf_z36 (by omega)) (lf_z36 (by omega))⟩
  · unfold wY_shell_122
    exact lf_ySh127 hc ha hb h1 h2 (Or.inl ⟨rfl, Or.inl e⟩) y no
  · unfold wY_shell_122
    exact lf_ySh127 hc ha hb h1 h2 (Or.inl ⟨rfl, Or.inr e'⟩) y no
  · exact lf_ySh127 hc ha hb h1 h2 (Or.inr ⟨rfl, fun z => z.elim e e'⟩) y no
theorem lf_ySh53 {post : Int32 → SY → Prop} {J : Int32 → Int32 → (Nat → Int32) → (Nat → Int32) → (Nat → Int32) → (Nat → Int32) → (Nat → Int32) → (Nat → Int32) → Prop} {x f1 : Int32} {a b c : Nat} {P : Prop} (hc : c < 216) (ha : a < 216) (hb : b < 216) (h1 : lf_fl f1 P) (y : (lf_le a c ∧ lf_le c b) ∧ W c = 0 ∧ (P ∨ (c / 6 % 6 = a / 6 % 6 ∨ c / 6 % 6 = b / 6 % 6) ∨ (c / 36 = a / 36 ∨ c / 36 = b / 36)) → J (x + 1) (nI (c + 1)) (upd W c 1) L A B C D) (no : ¬ ((lf_le a c ∧ lf_le c b) ∧ W c = 0 ∧ (P ∨ (c / 6 % 6 = a / 6 % 6 ∨ c / 6 % 6 = b / 6 % 6) ∨ (c / 36 = a / 36 ∨ c / 36 = b / 36))) → J x (nI (c + 1)) W L A B C D) : wY_shell_53 post J (nI a) (nI b) x (nI c) f1 W L A B C D := by
  unfold wY_shell_53
  refine ⟨by decide, by decide, by decide, by decide, pk_eq (c / 6 % 6) (a / 6 % 6) (fun e => ?_) (fun e => ⟨by decide, by decide, by decide, by decide, pk_eq (c / 6 % 6) (b / 6 % 6) (fun e' => ?_) (fun e' => ?_) (lf_y6 (by omega)) (lf_y6 (by omega))⟩) (lf_y6 (by omega)) (lf_y6 (by omega))⟩
  · unfold wY_shell_91
    exact lf_ySh96 hc ha hb h1 (Or.inl ⟨rfl, Or.inl e⟩) y no
  · unfold wY_shell_91
    exact lf_ySh96 hc ha hb h1 (Or.inl ⟨rfl, Or.inr e'⟩) y no
  · exact lf_ySh96 hc ha hb h1 (Or.inr ⟨rfl, fun z => z.elim e e'⟩) y no
theorem lf_ySh16 {post : Int32 → SY → Prop} {x : Int32} {a b c n : Nat} (hc : c < 216) (ha : a < 216) (hb : b < 216) (y : (lf_le a c ∧ lf_le c b) ∧ W c = 0 ∧ lf_end c a b → wY_shell_16 post (nI a) (nI b) n (x + 1) (nI (c + 1)) (upd W c 1) L A B C D) (no : ¬ ((lf_le a c ∧ lf_le c b) ∧ W c = 0 ∧ lf_end c a b) → wY_shell_16 post (nI a) (nI b) n x (nI (c + 1)) W L A B C D) : wY_shell_16 post (nI a) (nI b) (n + 1) x (nI c) W L A B C D := by
  have en : lf_end c a b ↔ (c % 6 = a % 6 ∨ c % 6 = b % 6) ∨ (c / 6 % 6 = a / 6 % 6 ∨ c / 6 % 6 = b / 6 % 6) ∨ (c / 36 = a / 36 ∨ c / 36 = b / 36) := by
    unfold lf_end
    omega
  rw [en] at y no
  refine br_f (nI_ge (b := 216) hc (by decide)) ⟨by decide, by decide, pk_eq (c % 6) (a % 6) (fun e => ?_) (fun e => ⟨by decide, by decide, pk_eq (c % 6) (b % 6) (fun e' => ?_) (fun e' => ?_) (lf_r6 (by omega)) (lf_r6 (by omega))⟩) (lf_r6 (by omega)) (lf_r6 (by omega))⟩
  · unfold wY_shell_48
    exact lf_ySh53 hc ha hb (Or.inl ⟨rfl, Or.inl e⟩) y no
  · unfold wY_shell_48
    exact lf_ySh53 hc ha hb (Or.inl ⟨rfl, Or.inr e'⟩) y no
  · exact lf_ySh53 hc ha hb (Or.inr ⟨rfl, fun z => z.elim e e'⟩) y no
end
/-! both sides at once: fill, shell, darkest -/
theorem lf_01U {W : Nat → Int32} {c : Nat} {z : Int32} (h : ∀ c, W c = 0 ∨ W c = 1) (hz : z = 0 ∨ z = 1) : ∀ x, upd W c z x = 0 ∨ upd W c z x = 1 := by
  intro x
  by_cases e : x = c
  · rw [e, pk_us]
    exact hz
  · rw [pk_un e]
    exact h x
theorem lf_fill {a b : Nat} {x3 z : Int32} (ha : a < 216) (hb : b < 216) (hz : x3 = 0 ∧ z = 0 ∨ ¬ x3 = 0 ∧ z = 1) : ∀ (d j : Nat) (x : Int32) (W : Nat → Int32), j + d = 216 → (∀ c, W c = 0 ∨ W c = 1) → ∃ (r : Int32) (W' : Nat → Int32), (∀ c, W' c = 0 ∨ W' c = 1) ∧ (∀ (post : Int32 → SX → Prop) (L G H V Q : Nat → Int32), post r (W', L, G, H, V, Q) → wX_fill_16 post (nI a) (nI b) x3 (d + 1) x (nI j) W L G H V Q) ∧ ∀ (post : Int32 → SY → Prop) (L A B C D : Nat → Int32), post r (W', L, A, B, C, D) → wY_fill_17 post (nI a) (nI b) x3 (d + 1) x (nI j) W L A B C D := by
  have z01 : z = 0 ∨ z = 1 := hz.elim (fun k => Or.inl k.2) fun k => Or.inr k.2
  have zn : vp_nar .boolean z = z := by
    rcases z01 with rfl | rfl
    · exact lf_b0
    · exact lf_b1
  intro d
  induction d with
  | zero =>
    intro j x W hj hW
    have e : j = 216 := by omega
    subst e
    exact ⟨x, W, hW, fun post L G H V Q hp => br_t (nI_le (b := 216) (Nat.le_refl _) (by decide)) hp, fun post L A B C D hp => br_t (nI_le (b := 216) (Nat.le_refl _) (by decide)) hp⟩
  | succ d ih =>
    intro j x W hj hW
    have h : j < 216 := by omega
    by_cases bx : lf_le a j ∧ lf_le j b
    · have stepX : ∀ (post : Int32 → SX → Prop) (L G H V Q : Nat → Int32), (W j = z → wX_fill_16 post (nI a) (nI b) x3 (d + 1) x (nI (j + 1)) W L G H V Q) → (¬ W j = z → wX_fill_16 post (nI a) (nI b) x3 (d + 1) (x + 1) (nI (j + 1)) (upd W j z) L G H V Q) → wX_fill_16 post (nI a) (nI b) x3 (d + 1 + 1) x (nI j) W L G H V Q := by
        intro post L G H V Q h0 h1
        refine br_f (nI_ge (b := 216) h (by decide)) (lf_xBox h ha hb (fun _ => br_f lf_10 ?_) fun k => absurd bx k)
        rcases hz with ⟨e3, rfl⟩ | ⟨e3, rfl⟩
        · exact br_t e3 (lf_xF48 h zn h0 h1)
        · exact br_f e3 (lf_xF48 h zn h0 h1)
      have stepY : ∀ (post : Int32 → SY → Prop) (L A B C D : Nat → Int32), (W j = z → wY_fill_17 post (nI a) (nI b) x3 (d + 1) x (nI (j + 1)) W L A B C D) → (¬ W j = z → wY_fill_17 post (nI a) (nI b) x3 (d + 1) (x + 1) (nI (j + 1)) (upd W j z) L A B C D) → wY_fill_17 post (nI a) (nI b) x3 (d + 1 + 1) x (nI j) W L A B C D := by
        intro post L A B C D h0 h1
        refine br_f (nI_ge (b := 216) h (by decide)) (lf_yBox h ha hb (fun _ => br_f lf_10 ⟨lf_in h, ?_⟩) fun k => absurd bx k)
        rw [lf_c h]
        have hz' := hz
        rcases hz with ⟨e3, rfl⟩ | ⟨e3, rfl⟩
        · exact br_t e3 (lf_yF52 h hz' h0 h1)
        · exact br_f e3 (lf_yF52 h hz' h0 h1)
      by_cases e : W j = z
      · obtain ⟨r, W', k1, k2, k3⟩ := ih (j + 1) x W (by omega) hW
        exact ⟨r, W', k1, fun post L G H V Q hp => stepX post L G H V Q (fun _ => k2 post L G H V Q hp) fun n => absurd e n, fun post L A B C D hp => stepY post L A B C D (fun _ => k3 post L A B C D hp) fun n => absurd e n⟩
      · obtain ⟨r, W', k1, k2, k3⟩ := ih (j + 1) (x + 1) (upd W j z) (by omega) (lf_01U hW z01)
        exact ⟨r, W', k1, fun post L G H V Q hp => stepX post L G H V Q (fun y => absurd y e) fun _ => k2 post L G H V Q hp, fun post L A B C D hp => stepY post L A B C D (fun y => absurd y e) fun _ => k3 post L A B C D hp⟩
    · obtain ⟨r, W', k1, k2, k3⟩ := ih (j + 1) x W (by omega) hW
      exact ⟨r, W', k1, fun post L G H V Q hp => br_f (nI_ge (b := 216) h (by decide)) (lf_xBox h ha hb (fun k => absurd k bx) fun _ => br_t rfl (nm_r (nI_1 j) (k2 post L G H V Q hp))), fun post L A B C D hp => br_f (nI_ge (b := 216) h (by decide)) (lf_yBox h ha hb (fun k => absurd k bx) fun _ => br_t rfl (nm_r (nI_1 j) (k3 post L A B C D hp)))⟩
theorem lf_shell {a b : Nat} (ha : a < 216) (hb : b < 216) : ∀ (d j : Nat) (x : Int32) (W : Nat → Int32), j + d = 216 → (∀ c, W c = 0 ∨ W c = 1) → ∃ (r : Int32) (W' : Nat → Int32), (∀ c, W' c = 0 ∨ W' c = 1) ∧ (∀ (post : Int32 → SX → Prop) (L G H V Q : Nat → Int32), post r (W', L, G, H, V, Q) → wX_shell_15 post (nI a) (nI b) (d + 1) x (nI j) W L G H V Q) ∧ ∀ (post : Int32 → SY → Prop) (L A B C D : Nat → Int32), post r (W', L, A, B, C, D) → wY_shell_16 post (nI a) (nI b) (d + 1) x (nI j) W L A B C D := by
  intro d
  induction d with
  | zero =>
    intro j x W hj hW
    have e : j = 216 := by omega
    subst e
    exact ⟨x, W, hW, fun post L G H V Q hp => br_t (nI_le (b := 216) (Nat.le_refl _) (by decide)) hp, fun post L A B C D hp => br_t (nI_le (b := 216) (Nat.le_refl _) (by decide)) hp⟩
  | succ d ih =>
    intro j x W hj hW
    have h : j < 216 := by omega
    have stepX : ∀ (post : Int32 → SX → Prop) (L G H V Q : Nat → Int32), (¬ ((lf_le a j ∧ lf_le j b) ∧ W j = 0 ∧ lf_end j a b) → wX_shell_15 post (nI a) (nI b) (d + 1) x (nI (j + 1)) W L G H V Q) → ((lf_le a j ∧ lf_le j b) ∧ W j = 0 ∧ lf_end j a b → wX_shell_15 post (nI a) (nI b) (d + 1) (x + 1) (nI (j + 1)) (upd W j 1) L G H V Q) → wX_shell_15 post (nI a) (nI b) (d + 1 + 1) x (nI j) W L G H V Q := by
      intro post L G H V Q h0 h1
      refine br_f (nI_ge (b := 216) h (by decide)) (lf_xBox h ha hb (fun k => br_f lf_10 (lf_xEnd h ha hb (fun k' => br_f lf_10 (lf_xMk h lf_b1 (fun e => nm_r (Int32.add_zero x) (nm_r (nI_1 j) (h0 fun q => ?_))) fun e => nm_e (nm_r (nI_1 j) (h1 ⟨k, (hW j).resolve_right e, k'⟩)))) fun k' => br_t rfl (nm_r (nI_1 j) (h0 fun q => k' q.2.2)))) fun k => br_t rfl (nm_r (nI_1 j) (h0 fun q => k q.1)))
      exact lf_10 (e.symm.trans q.2.1)
    by_cases e : (lf_le a j ∧ lf_le j b) ∧ W j = 0 ∧ lf_end j a b
    · obtain ⟨r, W', k1, k2, k3⟩ := ih (j + 1) (x + 1) (upd W j 1) (by omega) (lf_01U hW (Or.inr rfl))
      exact ⟨r, W', k1, fun post L G H V Q hp => stepX post L G H V Q (fun n => absurd e n) fun _ => k2 post L G H V Q hp, fun post L A B C D hp => lf_ySh16 h ha hb (fun _ => k3 post L A B C D hp) fun n => absurd e n⟩
    · obtain ⟨r, W', k1, k2, k3⟩ := ih (j + 1) x W (by omega) hW
      exact ⟨r, W', k1, fun post L G H V Q hp => stepX post L G H V Q (fun _ => k2 post L G H V Q hp) fun y => absurd y e, fun post L A B C D hp => lf_ySh16 h ha hb (fun y => absurd y e) fun _ => k3 post L A B C D hp⟩
theorem lf_dark {W : Nat → Int32} {fa fb : Nat → Nat} (a12 : ∀ c, c < 216 → fa c ≤ 12) (b12 : ∀ c, c < 216 → fb c ≤ 12) : ∀ (d j : Nat) (x1 x2 : Int32), j + d = 216 → (x1 = -1 ∧ x2 = nI 13 ∨ ∃ c, c < 216 ∧ x1 = nI c ∧ x2 = nI (max (fa c) (fb c))) → ∃ r : Int32, (∀ (post : Int32 → SX → Prop) (L G H V Q : Nat → Int32), lf_eq G (fun c => max (fa c) (fb c)) → post r (W, L, G, H, V, Q) → wX_darkest_16 post W L G H V Q (d + 1) x1 x2 (nI j)) ∧ ∀ (post : Int32 → SY → Prop) (L A B C D : Nat → Int32), lf_eq A fa → lf_eq B fb → post r (W, L, A, B, C, D) → wY_darkest_8 post W L A B C D (d + 1) x1 (nI j) := by
  intro d
  induction d with
  | zero =>
    intro j x1 x2 hj _
    have e : j = 216 := by omega
    subst e
    exact ⟨x1, fun post L G H V Q _ hp => br_t (nI_le (b := 216) (Nat.le_refl _) (by decide)) hp, fun post L A B C D _ _ hp => br_t (nI_le (b := 216) (Nat.le_refl _) (by decide)) hp⟩
  | succ d ih =>
    intro j x1 x2 hj hx
    have h : j < 216 := by omega
    have m12 : ∀ c, c < 216 → max (fa c) (fb c) ≤ 12 := fun c hc => by
      have := a12 c hc
      have := b12 c hc
      omega
    by_cases w : W j = 0
    · have stepX : ∀ (post : Int32 → SX → Prop) (L G H V Q : Nat → Int32) (v : Nat), v < 14 → x2 = nI v → lf_eq G (fun c => max (fa c) (fb c)) → (v ≤ max (fa j) (fb j) → wX_darkest_16 post W L G H V Q (d + 1) x1 x2 (nI (j + 1))) → (max (fa j) (fb j) < v → wX_darkest_16 post W L G H V Q (d + 1) (nI j) (nI (max (fa j) (fb j))) (nI (j + 1))) → wX_darkest_16 post W L G H V Q (d + 1 + 1) x1 x2 (nI j) := by
        intro post L G H V Q v hv ev hG h0 h1
        have q := m12 j h
        have gj : G (nI j).toNatClampNeg = nI (max (fa j) (fb j)) := by
          rw [lf_c h]
          exact hG j h
        exact br_f (nI_ge (b := 216) h (by decide)) (lf_xFree h (fun _ => br_f lf_10 ⟨lf_in h, pk_le v (max (fa j) (fb j)) (fun k => nm_r (nI_1 j) (h0 k)) (fun k => ⟨lf_in h, nm_r gj (nm_r (nI_1 j) (h1 k))⟩) ev gj⟩) fun n => absurd w n)
      rcases hx with ⟨e1, e2⟩ | ⟨c, hc, e1, e2⟩
      · have q := m12 j h
        obtain ⟨r, k2, k3⟩ := ih (j + 1) (nI j) (nI (max (fa j) (fb j))) (by omega) (Or.inr ⟨j, h, rfl, rfl⟩)
        refine ⟨r, fun post L G H V Q hG hp => stepX post L G H V Q 13 (by omega) e2 hG (fun k => by omega) fun _ => k2 post L G H V Q hG hp, fun post L A B C D hA hB hp => br_f (nI_ge (b := 216) h (by decide)) ⟨lf_in h, ?_⟩⟩
        rw [lf_c h]
        exact br_t w (br_t (by rw [e1]; decide) (nm_r (nI_1 j) (k3 post L A B C D hA hB hp)))
      · have qc := m12 c hc
        have qj := m12 j h
        have stepY : ∀ (post : Int32 → SY → Prop) (L A B C D : Nat → Int32), lf_eq A fa → lf_eq B fb → (max (fa c) (fb c) ≤ max (fa j) (fb j) → wY_darkest_8 post W L A B C D (d + 1) x1 (nI (j + 1))) → (max (fa j) (fb j) < max (fa c) (fb c) → wY_darkest_8 post W L A B C D (d + 1) (nI j) (nI (j + 1))) → wY_darkest_8 post W L A B C D (d + 1 + 1) x1 (nI j) := by
          intro post L A B C D hA hB h0 h1
          refine br_f (nI_ge (b := 216) h (by decide)) ⟨lf_in h, ?_⟩
          rw [lf_c h, e1] at *
          exact br_t w (br_f (nI_pos (by omega)) (lf_yLight h hA hB (a12 j h) (b12 j h) (lf_yLight hc hA hB (a12 c hc) (b12 c hc) (pk_le (max (fa c) (fb c)) (max (fa j) (fb j)) (fun k => nm_r (nI_1 j) (h0 k)) fun k => nm_r (nI_1 j) (h1 k)))))
        by_cases lt : max (fa j) (fb j) < max (fa c) (fb c)
        · obtain ⟨r, k2, k3⟩ := ih (j + 1) (nI j) (nI (max (fa j) (fb j))) (by omega) (Or.inr ⟨j, h, rfl, rfl⟩)
          exact ⟨r, fun post L G H V Q hG hp => stepX post L G H V Q _ (by omega) e2 hG (fun k => by omega) fun _ => k2 post L G H V Q hG hp, fun post L A B C D hA hB hp => stepY post L A B C D hA hB (fun k => by omega) fun _ => k3 post L A B C D hA hB hp⟩
        · obtain ⟨r, k2, k3⟩ := ih (j + 1) x1 x2 (by omega) (Or.inr ⟨c, hc, e1, e2⟩)
          exact ⟨r, fun post L G H V Q hG hp => stepX post L G H V Q _ (by omega) e2 hG (fun _ => k2 post L G H V Q hG hp) fun k => absurd k lt, fun post L A B C D hA hB hp => stepY post L A B C D hA hB (fun _ => k3 post L A B C D hA hB hp) fun k => absurd k lt⟩
    · obtain ⟨r, k2, k3⟩ := ih (j + 1) x1 x2 (by omega) hx
      refine ⟨r, fun post L G H V Q hG hp => br_f (nI_ge (b := 216) h (by decide)) (lf_xFree h (fun y => absurd y w) fun _ => br_t rfl (nm_r (nI_1 j) (k2 post L G H V Q hG hp))), fun post L A B C D hA hB hp => br_f (nI_ge (b := 216) h (by decide)) ⟨lf_in h, ?_⟩⟩
      rw [lf_c h]
      exact br_f w (nm_r (nI_1 j) (k3 post L A B C D hA hB hp))
end
section
/-! the walks of rooms -/
def lf_pRm (W : Nat → Int32) (c : Nat) : Prop := W c = 0 ∧ lf_ls W c
section
variable {W L G H : Nat → Int32}
theorem lf_x33 {post : SX → Prop} {J : Int32 → Int32 → (Nat → Int32) → (Nat → Int32) → (Nat → Int32) → (Nat → Int32) → (Nat → Int32) → (Nat → Int32) → Prop} {V0 : Nat → Int32} {st tk x : Nat} (hx : x < 216) (wx : W x = 0) (kx : lf_conn W st x) (htk : tk < 216) (hJ : ∀ (wt : Nat) (V' Q' : Nat → Int32), lf_Bf W V0 st (tk + 1) wt (fun _ => False) V' Q' → tk + 1 ≤ wt → wt ≤ 216 → J (nI wt) (nI (tk + 1)) W L G H V' Q') : ∀ (n s wt : Nat) (V Q : Nat → Int32), 6 - s < n → s ≤ 6 → lf_Bf W V0 st (tk + 1) wt (fun y => y = x) V Q → tk < wt → wt ≤ 216 → Q tk = nI x → (∀ t, t < s → ∀ b, lf_n x t = some b → W b = 0 → V b ≠ 0) → wX_visitRoom_33 post J (nI tk) n (nI wt) (nI s) W L G H V Q := by
  intro n
  induction n with
  | zero => intro s wt V Q h; omega
  | succ n ih =>
    intro s wt V Q hn hs bf hw h216 hq hd
    refine pk_le 6 s (fun h => nm_r (nI_1 tk) (hJ wt V Q (lf_bfD bf fun t ht => hd t (by omega)) hw h216)) fun h => ⟨lf_in htk, ?_⟩
    rw [lf_c htk, hq]
    have nxt : ∀ V' : Nat → Int32, (∀ y, V y ≠ 0 → V' y ≠ 0) → (∀ b, lf_n x s = some b → W b = 0 → V' b ≠ 0) → ∀ t, t < s + 1 → ∀ b, lf_n x t = some b → W b = 0 → V' b ≠ 0 := by
      intro V' up k t ht b e w
      by_cases et : t = s
      · subst et
        exact k b e w
      · exact up b (hd t (by omega) b e w)
    have stay : (∀ b, lf_n x s = some b → W b = 0 → V b ≠ 0) → wX_visitRoom_33 post J (nI tk) n (nI wt) (nI (s + 1)) W L G H V Q := fun k => ih (s + 1) wt V Q (by omega) h bf hw h216 hq (nxt V (fun _ y => y) k)
    refine lf_xNb hx h (fun e => lf_xFreeN (br_t rfl (nm_r (nI_1 s) (stay fun b e' => ?_)))) fun d e => ?_
    · rw [e] at e'
      exact nomatch e'
    have d216 := (lf_nm hx h e).1
    have one : ∀ b, lf_n x s = some b → b = d := by
      intro b e'
      rw [e] at e'
      injection e' with e'
      exact e'.symm
    refine lf_xFree d216 (fun w => br_f lf_10 ⟨lf_in d216, ?_⟩) fun w => br_t rfl (nm_r (nI_1 s) (stay fun b e' w' => absurd (one b e' ▸ w') w))
    rw [lf_c d216]
    refine br_c (fun v => ?_) fun v => nm_r (nI_1 s) (stay fun b e' _ => (one b e').symm ▸ v)
    obtain ⟨lt, bf'⟩ := lf_bfM bf hx kx wx ⟨s, h, e⟩ w v hw
    refine br_f (nI_ge (b := 216) lt (by decide)) ⟨lf_in d216, nm_r (e' := upd V d 1) (by rw [lf_b1]) ⟨lf_in lt, nm_r (e' := upd Q wt (nI d)) (by rw [lf_c lt]) (nm_r (nI_1 wt) (nm_r (nI_1 s) ?_))⟩⟩
    refine ih (s + 1) (wt + 1) _ _ (by omega) h bf' (by omega) lt (by rw [pk_un (by omega)]; exact hq) (nxt _ (fun y hy => ?_) fun b e' _ => ?_)
    · by_cases ey : y = d
      · rw [ey, pk_us]
        exact lf_10
      · rw [pk_un ey]
        exact hy
    · rw [one b e', pk_us]
      exact lf_10
theorem lf_x18 {post : SX → Prop} {V0 : Nat → Int32} {st : Nat} (hp : ∀ (tk wt : Nat) (V' Q' : Nat → Int32), lf_Bf W V0 st tk wt (fun _ => False) V' Q' → wt ≤ tk → post (W, L, G, H, V', Q')) : ∀ (n tk wt : Nat) (V Q : Nat → Int32), 216 - tk < n → tk ≤ wt → wt ≤ 216 → lf_Bf W V0 st tk wt (fun _ => False) V Q → wX_visitRoom_18 post n (nI wt) (nI tk) W L G H V Q := by
  intro n
  induction n with
  | zero => intro tk wt V Q h; omega
  | succ n ih =>
    intro tk wt V Q hn hw h216 bf
    refine pk_le wt tk (fun h => hp tk wt V Q bf h) fun h => br_f (nI_ge (b := 216) (by omega) (by decide)) ⟨7, ?_⟩
    obtain ⟨x, hx, qx, wx, _, kx⟩ := bf.1 tk h
    exact lf_x33 hx wx kx (by omega) (fun wt' V' Q' bf' h1 h2 => ih (tk + 1) wt' V' Q' (by omega) h1 h2 bf') 7 0 wt V Q (by omega) (by omega) (lf_bfT bf qx hx) h h216 qx fun t ht => absurd ht (Nat.not_lt_zero t)
theorem lf_xVisit {post : SX → Prop} {V Q : Nat → Int32} {i : Nat} (rm : lf_Rm W i V) (hi : i < 216) (wi : W i = 0) (hp : ∀ V' Q', lf_Rm W (i + 1) V' → post (W, L, G, H, V', Q')) : wpX_visitRoom post (W, L, G, H, V, Q) (nI i) := by
  unfold wpX_visitRoom
  dsimp only
  refine ⟨lf_in hi, nm_r (e' := upd V i 1) (by rw [lf_c hi, lf_b1]) (nm_e ⟨217, ?_⟩)⟩
  exact lf_x18 (V0 := V) (st := i) (fun tk wt V' Q' bf h => hp V' Q' (lf_rmS rm hi bf h)) 217 0 1 _ _ (by omega) (by omega) (by omega) (lf_bf0 rm hi wi)
theorem lf_xR26 {post : Int32 → SX → Prop} (hp : ∀ V' Q', post (nI (lf_cn (lf_pRm W) 216)) (W, L, G, H, V', Q')) : ∀ (n i : Nat) (V Q : Nat → Int32), 216 - i < n → i ≤ 216 → lf_Rm W i V → wX_rooms_26 post n (nI (lf_cn (lf_pRm W) i)) (nI i) W L G H V Q := by
  intro n
  induction n with
  | zero => intro i V Q h; omega
  | succ n ih =>
    intro i V Q hn hi rm
    refine pk_le 216 i (fun h => ?_) fun h => ?_
    · have e : i = 216 := by omega
      subst e
      exact hp V Q
    have iff := lf_rmI rm h
    have no : ¬ (V i = 0 ∧ W i = 0) → wX_rooms_26 post n (nI (lf_cn (lf_pRm W) i)) (nI (i + 1)) W L G H V Q := by
      intro k
      have z := ih (i + 1) V Q (by omega) h (lf_rmN rm fun w v => k ⟨v, w⟩)
      rw [lf_cn_f (p := lf_pRm W) fun q => k (iff.mpr q)] at z
      exact z
    refine lf_xFree h (fun w => br_f lf_10 ⟨lf_in h, ?_⟩) fun w => br_t rfl (nm_r (nI_1 i) (no fun q => w q.2))
    rw [lf_c h]
    refine br_c (fun v => lf_xVisit rm h w fun V' Q' rm' => nm_r (nI_1 _) (nm_r (nI_1 i) ?_)) fun v => nm_r (nI_1 i) (no fun q => v q.1)
    have z := ih (i + 1) V' Q' (by omega) h rm'
    rw [lf_cn_t (p := lf_pRm W) (iff.mp ⟨v, w⟩)] at z
    exact z
theorem lf_xR2 {post : Int32 → SX → Prop} {Q : Nat → Int32} (hp : ∀ V' Q', post (nI (lf_cn (lf_pRm W) 216)) (W, L, G, H, V', Q')) : ∀ (n i : Nat) (V : Nat → Int32), 216 - i < n → i ≤ 216 → (∀ c, c < i → V c = 0) → wX_rooms_2 post n (nI i) W L G H V Q := by
  intro n
  induction n with
  | zero => intro i V h; omega
  | succ n ih =>
    intro i V hn hi hV
    refine pk_le 216 i (fun h => ⟨217, ?_⟩) fun h => ⟨lf_in h, nm_r (e' := upd V i 0) (by rw [lf_c h, lf_b0]) (nm_r (nI_1 i) ?_)⟩
    · exact lf_xR26 hp 217 0 V Q (by omega) (by omega) (lf_rm0 fun c hc => hV c (by omega))
    · refine ih (i + 1) _ (by omega) h fun c hc => ?_
      by_cases e : c = i
      · rw [e, pk_us]
      · rw [pk_un e]
        exact hV c (by omega)
theorem lf_xRooms {post : Int32 → SX → Prop} {V Q : Nat → Int32} (hp : ∀ V' Q', post (nI (lf_cn (lf_pRm W) 216)) (W, L, G, H, V', Q')) : wpX_rooms post (W, L, G, H, V, Q) := ⟨217, lf_xR2 hp 217 0 V (by omega) (by omega) fun c hc => absurd hc (Nat.not_lt_zero c)⟩
end
/-! the reference -/
def lf_Lw (W : Nat → Int32) (l0 : Nat → Nat) (k : Nat) (l : Nat → Nat) : Prop := (∀ c, c < 216 → l c ≤ l0 c) ∧ lf_Lb W l ∧ ∀ j, j < k → ∀ d, lf_m (j / 6) (j % 6) = some d → W (j / 6) = 0 → W d = 0 → l (j / 6) ≤ l0 d
theorem lf_lwN {W : Nat → Int32} {l0 l : Nat → Nat} {k : Nat} (h : lf_Lw W l0 k l) (hk : k < 1296) (e : ∀ d, lf_m (k / 6) (k % 6) = some d → W (k / 6) = 0 → W d = 0 → l (k / 6) ≤ l d) : lf_Lw W l0 (k + 1) l := by
  refine ⟨h.1, h.2.1, fun j hj d em w w' => ?_⟩
  by_cases ej : j = k
  · subst ej
    exact Nat.le_trans (e d em w w') (h.1 d (lf_adj_in (by omega) (lf_adj_m em)))
  · exact h.2.2 j (by omega) d em w w'
theorem lf_lwS {W : Nat → Int32} {l0 l : Nat → Nat} {k d : Nat} (h : lf_Lw W l0 k l) (hk : k < 1296) (em : lf_m (k / 6) (k % 6) = some d) (w : W (k / 6) = 0) (w' : W d = 0) (lt : l d < l (k / 6)) : lf_Lw W l0 (k + 1) (lf_u l (k / 6) (l d)) := by
  have c216 : k / 6 < 216 := by omega
  have adj := lf_adj_m em
  have d216 := lf_adj_in c216 adj
  have dn : ∀ x, lf_u l (k / 6) (l d) x ≤ l x := by
    intro x
    by_cases ex : x = k / 6
    · rw [ex, lf_us]
      omega
    · rw [lf_uo ex]
      exact Nat.le_refl _
  refine ⟨fun x hx => Nat.le_trans (dn x) (h.1 x hx), fun x hx => ⟨Nat.le_trans (dn x) (h.2.1 x hx).1, ?_⟩, fun j hj d' em' v v' => ?_⟩
  · by_cases ex : x = k / 6
    · rw [ex, lf_us]
      exact lf_conn_t (lf_conn_s (lf_conn_r _) ⟨c216, adj, w, w'⟩) (h.2.1 d d216).2
    · rw [lf_uo ex]
      exact (h.2.1 x hx).2
  · by_cases ej : j = k
    · subst ej
      have e : d = d' := by
        rw [em] at em'
        injection em'
      subst e
      rw [lf_us]
      exact h.1 d d216
    · exact Nat.le_trans (dn _) (h.2.2 j (by omega) d' em' v v')
theorem lf_lwE {W : Nat → Int32} {l0 l : Nat → Nat} (h : lf_Lw W l0 1296 l) {c d : Nat} (s : lf_st W c d) : l c ≤ l0 d := by
  obtain ⟨t, ht, e⟩ := lf_adj_ex s.2.1
  have hc := s.1
  have e1 : (6 * c + t) / 6 = c := by omega
  have e2 : (6 * c + t) % 6 = t := by omega
  have k := h.2.2 (6 * c + t) (by omega) d
  rw [e1, e2] at k
  exact k e s.2.2.1 s.2.2.2
section
variable {W L A B D : Nat → Int32}
theorem lf_yLev4 {post : Int32 → SY → Prop} {l0 : Nat → Nat} (hp : ∀ m C' l, m = 0 ∨ m = 1 → lf_eq C' l → lf_Lw W l0 1296 l → (m = 0 → ∀ c, c < 216 → l c = l0 c) → post m (W, L, A, B, C', D)) : ∀ (n k : Nat) (m : Int32) (C : Nat → Int32) (l : Nat → Nat), 1296 - k < n → k ≤ 1296 → (m = 0 ∨ m = 1) → lf_eq C l → lf_Lw W l0 k l → (m = 0 → ∀ c, c < 216 → l c = l0 c) → wY_level_4 post n m (nI k) W L A B C D := by
  intro n
  induction n with
  | zero => intro k m C l h; omega
  | succ n ih =>
    intro k m C l hn hk hm hC lw hz
    refine pk_le 1296 k (fun h => ?_) fun h => ⟨by decide, nm_r (lf_d6 (by omega)) ⟨by decide, ?_⟩⟩
    · have e : k = 1296 := by omega
      subst e
      exact ⟨lf_nbool hm, hp m C l hm hC lw hz⟩
    have c216 : k / 6 < 216 := by omega
    have stay : (∀ d, lf_m (k / 6) (k % 6) = some d → W (k / 6) = 0 → W d = 0 → l (k / 6) ≤ l d) → wY_level_4 post n m (nI (k + 1)) W L A B C D := fun e => ih (k + 1) m C l (by omega) h hm hC (lf_lwN lw h e) hz
    rw [lf_r6 (c := k) (by omega)]
    refine lf_yNb c216 (by omega) (fun e => br_t (by decide) (nm_r (nI_1 k) (stay fun d e' => ?_))) fun d e => ?_
    · rw [e] at e'
      exact nomatch e'
    have d216 := lf_adj_in c216 (lf_adj_m e)
    have one : ∀ b, lf_m (k / 6) (k % 6) = some b → b = d := by
      intro b e'
      rw [e] at e'
      injection e' with e'
      exact e'.symm
    refine br_f (nI_pos (by omega)) ⟨lf_in c216, ?_⟩
    rw [lf_c c216]
    refine br_c (fun w => ⟨lf_in d216, ?_⟩) fun w => nm_r (nI_1 k) (stay fun _ _ w' => absurd w' w)
    rw [lf_c d216]
    refine br_c (fun w' => ⟨lf_in d216, lf_in c216, ?_⟩) fun w' => nm_r (nI_1 k) (stay fun b e' _ v => absurd (one b e' ▸ v) w')
    have x1 := (lw.2.1 d d216).1
    have x2 := (lw.2.1 _ c216).1
    rw [hC d d216, hC _ c216]
    refine pk_lt (l d) (l (k / 6)) (fun lt => ⟨lf_in d216, lf_in c216, nm_e (nm_r (nI_1 k) ?_)⟩) fun le => nm_r (nI_1 k) (stay fun b e' _ _ => ?_)
    · exact ih (k + 1) 1 _ _ (by omega) h (Or.inr rfl) (lf_eqU hC _ _) (lf_lwS lw h e w w' lt) fun z => absurd z lf_10
    · rw [one b e']
      exact le
theorem lf_yLevel {post : Int32 → SY → Prop} {C : Nat → Int32} {l0 : Nat → Nat} (hC : lf_eq C l0) (lb : lf_Lb W l0) (hp : ∀ m C' l, m = 0 ∨ m = 1 → lf_eq C' l → lf_Lw W l0 1296 l → (m = 0 → ∀ c, c < 216 → l c = l0 c) → post m (W, L, A, B, C', D)) : wpY_level post (W, L, A, B, C, D) := ⟨1297, lf_yLev4 hp 1297 0 0 C l0 (by omega) (by omega) (Or.inl rfl) hC ⟨fun _ _ => Nat.le_refl _, lb, fun j hj => absurd hj (Nat.not_lt_zero j)⟩ fun _ _ _ => rfl⟩
theorem lf_yR52 {post : Int32 → SY → Prop} {C : Nat → Int32} {l : Nat → Nat} (hC : lf_eq C l) (lb : lf_Lb W l) (hs : ∀ c, c < 216 → lf_set W l c) (hp : post (nI (lf_cn (lf_pRm W) 216)) (W, L, A, B, C, D)) : ∃ n, wY_rooms_52 post W L A B C D n 0 0 := by
  refine ⟨217, lf_cnt (lf_pRm W) 216 (fun n x i => wY_rooms_52 post W L A B C D n x (nI i)) (fun n => ?_) (fun n i h t z => ?_) 217 0 (by omega) (by omega)⟩
  · exact br_t (nI_le (b := 216) (Nat.le_refl _) (by decide)) hp
  · have iff := lf_set_ls h lb (hs i h)
    have li := (lb i h).1
    refine br_f (nI_ge (b := 216) h (by decide)) ⟨lf_in h, ?_⟩
    rw [lf_c h, hC i h]
    exact br_c (fun w => ⟨lf_in h, pk_eq (l i) i (fun q => nm_r (nI_1 _) (nm_r (nI_1 i) (t ⟨w, iff.mp q⟩))) fun q => nm_r (nI_1 i) (z fun q' => q (iff.mpr q'.2))⟩) fun w => nm_r (nI_1 i) (z fun q => w q.1)
theorem lf_yR26 {post : Int32 → SY → Prop} (hp : ∀ C', post (nI (lf_cn (lf_pRm W) 216)) (W, L, A, B, C', D)) : ∀ (n k : Nat) (m : Int32) (C : Nat → Int32) (l : Nat → Nat), 216 - k < n → k ≤ 216 → lf_eq C l → lf_Lb W l → k ≤ lf_cn (lf_set W l) 216 → (m = 0 → ∀ c, c < 216 → lf_set W l c) → wY_rooms_26 post n m (nI k) W L A B C D := by
  intro n
  induction n with
  | zero => intro k m C l h; omega
  | succ n ih =>
    intro k m C l hn hk hC lb hs hz
    refine pk_le 216 k (fun h => lf_yR52 hC lb (lf_cn_full (by omega)) (hp C)) fun h => ?_
    refine br_c (fun z => lf_yR52 hC lb (hz z) (hp C)) fun z => ?_
    refine lf_yLevel hC lb fun m' C' l' _ hC' lw hz' => nm_r (nI_1 k) ?_
    refine ih (k + 1) m' C' l' (by omega) h hC' lw.2.1 (lf_setS lb h hs lw.1 fun c d s => lf_lwE lw s) fun z' c hc => lf_set_all lw.2.1 (fun c d s => ?_) hc
    have := lf_lwE lw s
    rw [← hz' z' d (lf_adj_in s.1 s.2.1)] at this
    exact this
theorem lf_yR2 {post : Int32 → SY → Prop} (hp : ∀ C', post (nI (lf_cn (lf_pRm W) 216)) (W, L, A, B, C', D)) : ∀ (n i : Nat) (C : Nat → Int32), 216 - i < n → i ≤ 216 → (∀ c, c < i → C c = nI c) → wY_rooms_2 post n (nI i) W L A B C D := by
  intro n
  induction n with
  | zero => intro i C h; omega
  | succ n ih =>
    intro i C hn hi hC
    refine pk_le 216 i (fun h => ⟨217, ?_⟩) fun h => ⟨lf_in h, nm_r (e' := upd C i (nI i)) (by rw [lf_c h]) (nm_r (nI_1 i) ?_)⟩
    · exact lf_yR26 hp 217 0 1 C (fun c => c) (by omega) (by omega) (fun c hc => hC c (by omega)) (lf_lb0 W) (Nat.zero_le _) fun z => absurd z lf_10
    · refine ih (i + 1) _ (by omega) h fun c hc => ?_
      by_cases e : c = i
      · rw [e, pk_us]
      · rw [pk_un e]
        exact hC c (by omega)
theorem lf_yRooms {post : Int32 → SY → Prop} {C : Nat → Int32} (hp : ∀ C', post (nI (lf_cn (lf_pRm W) 216)) (W, L, A, B, C', D)) : wpY_rooms post (W, L, A, B, C, D) := ⟨217, lf_yR2 hp 217 0 C (by omega) (by omega) fun c hc => absurd hc (Nat.not_lt_zero c)⟩
end
end
section
/-! the relation and what is owed -/
def i_Rel (_ : Nat) (u : SX) (v : SY) : Prop := u.1 = v.1 ∧ u.2.1 = v.2.1 ∧ (∀ c, u.1 c = 0 ∨ u.1 c = 1) ∧ ∃ l : Nat → Nat, ∀ c, l c ≤ 12 ∧ u.2.1 c = nI (l c)
theorem i_up {k : Nat} {u : SX} {v : SY} (h : i_Rel k u v) : i_Rel (k + 4) u v := h
theorem i_vc0 : wpX_init (fun u => wpY_init (fun v => i_Rel 0 u v)) := ⟨rfl, rfl, fun _ => Or.inl rfl, fun _ => 0, fun _ => ⟨Nat.zero_le _, rfl⟩⟩
theorem lf_R {k : Nat} {W L G H V Q A B C D : Nat → Int32} {l : Nat → Nat} (hW : ∀ c, W c = 0 ∨ W c = 1) (hl : ∀ c, l c ≤ 12 ∧ L c = nI (l c)) : i_Rel k (W, L, G, H, V, Q) (W, L, A, B, C, D) := ⟨rfl, rfl, hW, l, hl⟩
theorem lf_RE {k : Nat} {u : SX} {v : SY} (I : i_Rel k u v) : ∃ (W L G H V Q A B C D : Nat → Int32) (l : Nat → Nat), u = (W, L, G, H, V, Q) ∧ v = (W, L, A, B, C, D) ∧ (∀ c, W c = 0 ∨ W c = 1) ∧ ∀ c, l c ≤ 12 ∧ L c = nI (l c) := by
  obtain ⟨W, L, G, H, V, Q⟩ := u
  obtain ⟨W', L', A, B, C, D⟩ := v
  obtain ⟨e1, e2, hW, l, hl⟩ := I
  have e1' : W = W' := e1
  have e2' : L = L' := e2
  subst e1' e2'
  exact ⟨W, L, G, H, V, Q, A, B, C, D, l, rfl, rfl, hW, hl⟩
def lf_bit (x : Int32) : Int32 := if x = 0 then 0 else 1
theorem lf_bit0 {x : Int32} (h : x = 0) : lf_bit x = 0 := if_pos h
theorem lf_bit1 {x : Int32} (h : ¬ x = 0) : lf_bit x = 1 := if_neg h
theorem lf_xSolid {W L G H V Q : Nat → Int32} {post : Int32 → SX → Prop} {c : Nat} {x z : Int32} (hc : c < 216) (hz : x = 0 ∧ z = 0 ∨ ¬ x = 0 ∧ z = 1) (h : post (lf_bit (W c)) (upd W c z, L, G, H, V, Q)) : wpX_solid post (W, L, G, H, V, Q) (nI c) x := by
  have key : ∀ r, r = lf_bit (W c) → wX_solid_23 post (nI c) x r W L G H V Q := by
    intro r er
    subst er
    rcases hz with ⟨e, rfl⟩ | ⟨e, rfl⟩
    · exact br_t e ⟨lf_in hc, nm_r (e' := upd W c 0) (by rw [lf_c hc, lf_b0]) h⟩
    · exact br_f e ⟨lf_in hc, nm_r (e' := upd W c 1) (by rw [lf_c hc, lf_b1]) h⟩
  unfold wpX_solid
  dsimp only
  refine lf_xGood1 hc (br_f lf_10 ⟨lf_in hc, ?_⟩)
  rw [lf_c hc]
  exact br_c (fun w => key 0 (lf_bit0 w).symm) fun w => key 1 (lf_bit1 w).symm
theorem lf_ySolid {W L A B C D : Nat → Int32} {post : Int32 → SY → Prop} {c : Nat} {x z : Int32} (hc : c < 216) (hz : x = 0 ∧ z = 0 ∨ ¬ x = 0 ∧ z = 1) (h : post (lf_bit (W c)) (upd W c z, L, A, B, C, D)) : wpY_solid post (W, L, A, B, C, D) (nI c) x := by
  have key : ∀ r, r = lf_bit (W c) → wY_solid_24 post (nI c) x r W L A B C D := by
    intro r er
    subst er
    rcases hz with ⟨e, rfl⟩ | ⟨e, rfl⟩
    · exact br_t e ⟨lf_in hc, nm_r (e' := upd W c 0) (by rw [lf_c hc, lf_b0]) h⟩
    · exact br_f e ⟨lf_in hc, nm_r (e' := upd W c 1) (by rw [lf_c hc, lf_b1]) h⟩
  unfold wpY_solid
  dsimp only
  refine lf_yBad0 hc (br_t rfl ⟨lf_in hc, ?_⟩)
  rw [lf_c hc]
  exact br_c (fun w => key 0 (lf_bit0 w).symm) fun w => key 1 (lf_bit1 w).symm
theorem lf_flag (x : Int32) : ∃ z : Int32, (x = 0 ∧ z = 0 ∨ ¬ x = 0 ∧ z = 1) ∧ (z = 0 ∨ z = 1) := by
  by_cases h : x = 0
  · exact ⟨0, Or.inl ⟨h, rfl⟩, Or.inl rfl⟩
  · exact ⟨1, Or.inr ⟨h, rfl⟩, Or.inr rfl⟩
theorem i_vc_solid {k : Nat} {u : SX} {v : SY} (I : i_Rel k u v) (hk : k + 4 ≤ 2048) (v1 : Int32) (v2 : Int32) : wpX_solid (fun r u' => wpY_solid (fun r' v' => r' = r ∧ i_Rel (k + 4) u' v') v v1 v2) u v1 v2 := by
  obtain ⟨W, L, G, H, V, Q, A, B, C, D, l, rfl, rfl, hW, hl⟩ := lf_RE I
  rcases lf_ix v1 with bd | ⟨c, hc, rfl⟩
  · unfold wpX_solid
    dsimp only
    refine lf_xGood0 bd (br_t rfl ?_)
    unfold wpY_solid
    dsimp only
    exact lf_yBad1 bd (br_f lf_10 ⟨rfl, lf_R hW hl⟩)
  · obtain ⟨z, hz, z01⟩ := lf_flag v2
    exact lf_xSolid hc hz (lf_ySolid hc hz ⟨rfl, lf_R (lf_01U hW z01) hl⟩)
theorem i_vc_fill {k : Nat} {u : SX} {v : SY} (I : i_Rel k u v) (hk : k + 4 ≤ 2048) (v1 : Int32) (v2 : Int32) (v3 : Int32) : wpX_fill (fun r u' => wpY_fill (fun r' v' => r' = r ∧ i_Rel (k + 4) u' v') v v1 v2 v3) u v1 v2 v3 := by
  obtain ⟨W, L, G, H, V, Q, A, B, C, D, l, rfl, rfl, hW, hl⟩ := lf_RE I
  unfold wpX_fill
  dsimp only
  refine lf_xGB (fun g => br_f lf_10 ?_) fun g => br_t rfl ?_
  · obtain ⟨a, b, ha, hb, rfl, rfl, _⟩ := id g
    obtain ⟨z, hz, z01⟩ := lf_flag v3
    obtain ⟨r, W', k1, k2, k3⟩ := lf_fill ha hb hz 216 0 0 W rfl hW
    refine ⟨217, k2 _ L G H V Q ?_⟩
    unfold wpY_fill
    dsimp only
    exact lf_yGB (fun _ => br_t rfl ⟨217, k3 _ L A B C D ⟨rfl, lf_R k1 hl⟩⟩) fun n => absurd g n
  · unfold wpY_fill
    dsimp only
    exact lf_yGB (fun y => absurd y g) fun _ => br_f lf_10 ⟨rfl, lf_R hW hl⟩
theorem i_vc_shell {k : Nat} {u : SX} {v : SY} (I : i_Rel k u v) (hk : k + 4 ≤ 2048) (v1 : Int32) (v2 : Int32) : wpX_shell (fun r u' => wpY_shell (fun r' v' => r' = r ∧ i_Rel (k + 4) u' v') v v1 v2) u v1 v2 := by
  obtain ⟨W, L, G, H, V, Q, A, B, C, D, l, rfl, rfl, hW, hl⟩ := lf_RE I
  unfold wpX_shell
  dsimp only
  refine lf_xGB (fun g => br_f lf_10 ?_) fun g => br_t rfl ?_
  · obtain ⟨a, b, ha, hb, rfl, rfl, _⟩ := id g
    obtain ⟨r, W', k1, k2, k3⟩ := lf_shell ha hb 216 0 0 W rfl hW
    refine ⟨217, k2 _ L G H V Q ?_⟩
    unfold wpY_shell
    dsimp only
    exact lf_yGB (fun _ => br_t rfl ⟨217, k3 _ L A B C D ⟨rfl, lf_R k1 hl⟩⟩) fun n => absurd g n
  · unfold wpY_shell
    dsimp only
    exact lf_yGB (fun y => absurd y g) fun _ => br_f lf_10 ⟨rfl, lf_R hW hl⟩
theorem i_vc_lamp {k : Nat} {u : SX} {v : SY} (I : i_Rel k u v) (hk : k + 4 ≤ 2048) (v1 : Int32) (v2 : Int32) : wpX_lamp (fun r u' => wpY_lamp (fun r' v' => r' = r ∧ i_Rel (k + 4) u' v') v v1 v2) u v1 v2 := by
  obtain ⟨W, L, G, H, V, Q, A, B, C, D, l, rfl, rfl, hW, hl⟩ := lf_RE I
  unfold wpX_lamp wpY_lamp
  dsimp only
  rcases lf_ix v1 with bd | ⟨c, hc, rfl⟩
  · exact lf_xGood0 bd (br_t rfl (lf_yBad1 bd (br_f lf_10 ⟨rfl, lf_R hW hl⟩)))
  refine lf_xGood1 hc (br_f lf_10 ?_)
  by_cases s0 : v2 < 0
  · exact br_t s0 (lf_yBad0 hc (br_t rfl (br_t s0 ⟨rfl, lf_R hW hl⟩)))
  by_cases s12 : v2 ≤ 12
  · refine br_f s0 (br_t s12 ⟨lf_in hc, nm_e ⟨lf_in hc, nm_e ?_⟩⟩)
    refine lf_yBad0 hc (br_t rfl (br_f s0 (br_t s12 ⟨lf_in hc, nm_e ⟨lf_in hc, nm_e ⟨rfl, ?_⟩⟩⟩)))
    obtain ⟨j, hj, rfl⟩ := nI_of2 (M := 12) (n := 12) (by decide) s0 s12
    rw [lf_c hc]
    refine lf_R (l := lf_u l c j) hW fun x => ?_
    by_cases e : x = c
    · rw [e, pk_us, lf_us]
      exact ⟨hj, rfl⟩
    · rw [pk_un e, lf_uo e]
      exact hl x
  · exact br_f s0 (br_f s12 (lf_yBad0 hc (br_t rfl (br_f s0 (br_f s12 ⟨rfl, lf_R hW hl⟩)))))
theorem i_vc_isSolid {k : Nat} {u : SX} {v : SY} (I : i_Rel k u v) (hk : k + 4 ≤ 2048) (v1 : Int32) : wpX_isSolid (fun r => wpY_isSolid (fun r' => r' = r ∧ i_Rel (k + 4) u v) v v1) u v1 := by
  obtain ⟨W, L, G, H, V, Q, A, B, C, D, l, rfl, rfl, hW, hl⟩ := lf_RE I
  unfold wpX_isSolid wpY_isSolid
  dsimp only
  rcases lf_ix v1 with bd | ⟨c, hc, rfl⟩
  · exact lf_xGood0 bd (br_t rfl (lf_yBad1 bd (br_f lf_10 ⟨rfl, lf_R hW hl⟩)))
  refine lf_xGood1 hc (br_f lf_10 ⟨lf_in hc, br_c (fun w => ?_) fun w => ?_⟩)
  · exact lf_yBad0 hc (br_t rfl ⟨lf_in hc, br_t w ⟨rfl, lf_R hW hl⟩⟩)
  · exact lf_yBad0 hc (br_t rfl ⟨lf_in hc, br_f w ⟨rfl, lf_R hW hl⟩⟩)
/-- the light that there is, by lamps and by the sky -/
theorem lf_both (W : Nat → Int32) {l : Nat → Nat} (h : ∀ c, l c ≤ 12) : ∃ Fa Fb, lf_L W l Fa ∧ lf_L W (lf_wo l (-1)) Fa ∧ lf_L W (lf_s8 W) Fb ∧ (∀ c, c < 216 → Fa c ≤ 12) ∧ ∀ c, c < 216 → Fb c ≤ 12 := by
  obtain ⟨Fa, ha⟩ := lf_ex W (s := l) fun c _ => h c
  obtain ⟨Fb, hb⟩ := lf_ex W (s := lf_s8 W) fun c _ => lf_s812 W c
  exact ⟨Fa, Fb, ha, lf_congr (fun c hc => (lf_woM hc).symm) ha, hb, fun c hc => lf_top (fun c _ => h c) ha hc, fun c hc => lf_top (fun c _ => lf_s812 W c) hb hc⟩
theorem i_vc_lamplight {k : Nat} {u : SX} {v : SY} (I : i_Rel k u v) (hk : k + 4 ≤ 2048) (v1 : Int32) : wpX_lamplight (fun r u' => wpY_lamplight (fun r' v' => r' = r ∧ i_Rel (k + 4) u' v') v v1) u v1 := by
  obtain ⟨W, L, G, H, V, Q, A, B, C, D, l, rfl, rfl, hW, hl⟩ := lf_RE I
  obtain ⟨Fa, Fb, ha, ha', hb, a12, b12⟩ := lf_both W fun c => (hl c).1
  unfold wpX_lamplight wpY_lamplight
  dsimp only
  rcases lf_ix v1 with bd | ⟨c, hc, rfl⟩
  · exact lf_xGood0 bd (br_t rfl (lf_yBad1 bd (br_f lf_10 ⟨rfl, lf_R hW hl⟩)))
  refine lf_xGood1 hc (br_f lf_10 ?_)
  refine lf_xDarkenA fun G1 k1 => ?_
  refine lf_xAddLampsA hl k1 fun G2 k2 => ?_
  refine lf_xSpreadA (fun c _ => lf_wo12 (fun c => (hl c).1) (-1) c) ha' k2 fun G3 k3 => ⟨lf_in hc, ?_⟩
  refine lf_yBad0 hc (br_t rfl ?_)
  refine lf_yShine hl ha hb fun A' B' kA kB => ⟨lf_in hc, ?_, lf_R hW hl⟩
  rw [lf_c hc]
  exact (kA c hc).trans (k3 c hc).symm
theorem i_vc_skylight {k : Nat} {u : SX} {v : SY} (I : i_Rel k u v) (hk : k + 4 ≤ 2048) (v1 : Int32) : wpX_skylight (fun r u' => wpY_skylight (fun r' v' => r' = r ∧ i_Rel (k + 4) u' v') v v1) u v1 := by
  obtain ⟨W, L, G, H, V, Q, A, B, C, D, l, rfl, rfl, hW, hl⟩ := lf_RE I
  obtain ⟨Fa, Fb, ha, ha', hb, a12, b12⟩ := lf_both W fun c => (hl c).1
  unfold wpX_skylight wpY_skylight
  dsimp only
  rcases lf_ix v1 with bd | ⟨c, hc, rfl⟩
  · exact lf_xGood0 bd (br_t rfl (lf_yBad1 bd (br_f lf_10 ⟨rfl, lf_R hW hl⟩)))
  refine lf_xGood1 hc (br_f lf_10 ?_)
  refine lf_xDarkenA fun G1 k1 => ?_
  refine lf_xAddSkyA (f := fun _ => 0) (fun _ _ => Nat.zero_le _) k1 fun G2 k2 => ?_
  refine lf_xSpreadA (s := lf_s8 W) (fun c _ => lf_s812 W c) hb (lf_eqC k2 fun c _ => ?_) fun G3 k3 => ⟨lf_in hc, ?_⟩
  · show max 0 (lf_s8 W c) = lf_s8 W c
    omega
  refine lf_yBad0 hc (br_t rfl ?_)
  refine lf_yShine hl ha hb fun A' B' kA kB => ⟨lf_in hc, ?_, lf_R hW hl⟩
  rw [lf_c hc]
  exact (kB c hc).trans (k3 c hc).symm
theorem i_vc_lit {k : Nat} {u : SX} {v : SY} (I : i_Rel k u v) (hk : k + 4 ≤ 2048) (v1 : Int32) (v2 : Int32) (v3 : Int32) : wpX_lit (fun r u' => wpY_lit (fun r' v' => r' = r ∧ i_Rel (k + 4) u' v') v v1 v2 v3) u v1 v2 v3 := by
  obtain ⟨W, L, G, H, V, Q, A, B, C, D, l, rfl, rfl, hW, hl⟩ := lf_RE I
  obtain ⟨Fa, Fb, ha, ha', hb, a12, b12⟩ := lf_both W fun c => (hl c).1
  unfold wpX_lit
  dsimp only
  refine lf_xGB (fun g => br_f lf_10 ?_) fun g => br_t rfl ?_
  · refine lf_xLightA hl ha' hb fun G1 k1 => ?_
    obtain ⟨a, b, ca, cb, rfl, rfl, _⟩ := id g
    refine lf_xLit ca cb k1 ?_
    unfold wpY_lit
    dsimp only
    refine lf_yGB (fun _ => br_t rfl ?_) fun n => absurd g n
    exact lf_yShine hl ha hb fun A' B' kA kB => lf_yLit ca cb kA kB a12 b12 ⟨rfl, lf_R hW hl⟩
  · unfold wpY_lit
    dsimp only
    exact lf_yGB (fun y => absurd y g) fun _ => br_f lf_10 ⟨rfl, lf_R hW hl⟩
theorem i_vc_dim {k : Nat} {u : SX} {v : SY} (I : i_Rel k u v) (hk : k + 4 ≤ 2048) (v1 : Int32) : wpX_dim (fun r u' => wpY_dim (fun r' v' => r' = r ∧ i_Rel (k + 4) u' v') v v1) u v1 := by
  obtain ⟨W, L, G, H, V, Q, A, B, C, D, l, rfl, rfl, hW, hl⟩ := lf_RE I
  obtain ⟨Fa, Fb, ha, ha', hb, a12, b12⟩ := lf_both W fun c => (hl c).1
  unfold wpX_dim wpY_dim
  dsimp only
  by_cases s0 : v1 < 0
  · exact br_t s0 (br_t s0 ⟨rfl, lf_R hW hl⟩)
  by_cases s12 : v1 ≤ 12
  · refine br_f s0 (br_t s12 (lf_xLightA hl ha' hb fun G1 k1 => lf_xDim k1 ?_))
    refine br_f s0 (br_t s12 ?_)
    exact lf_yShine hl ha hb fun A' B' kA kB => lf_yDim kA kB a12 b12 ⟨rfl, lf_R hW hl⟩
  · exact br_f s0 (br_f s12 (br_f s0 (br_f s12 ⟨rfl, lf_R hW hl⟩)))
theorem i_vc_darkest {k : Nat} {u : SX} {v : SY} (I : i_Rel k u v) (hk : k + 4 ≤ 2048) : wpX_darkest (fun r u' => wpY_darkest (fun r' v' => r' = r ∧ i_Rel (k + 4) u' v') v) u := by
  obtain ⟨W, L, G, H, V, Q, A, B, C, D, l, rfl, rfl, hW, hl⟩ := lf_RE I
  obtain ⟨Fa, Fb, ha, ha', hb, a12, b12⟩ := lf_both W fun c => (hl c).1
  obtain ⟨r, k2, k3⟩ := lf_dark (W := W) a12 b12 216 0 (-1) 13 rfl (Or.inl ⟨rfl, rfl⟩)
  unfold wpX_darkest wpY_darkest
  dsimp only
  refine lf_xLightA hl ha' hb fun G1 k1 => ⟨217, k2 _ L G1 H V Q k1 ?_⟩
  exact lf_yShine hl ha hb fun A' B' kA kB => ⟨217, k3 _ L A' B' C D kA kB ⟨rfl, lf_R hW hl⟩⟩
theorem i_vc_faces {k : Nat} {u : SX} {v : SY} (I : i_Rel k u v) (hk : k + 4 ≤ 2048) : wpX_faces (fun r => wpY_faces (fun r' => r' = r ∧ i_Rel (k + 4) u v) v) u := by
  obtain ⟨W, L, G, H, V, Q, A, B, C, D, l, rfl, rfl, hW, hl⟩ := lf_RE I
  exact lf_xFac (lf_yFac ⟨rfl, lf_R hW hl⟩)
theorem i_vc_shady {k : Nat} {u : SX} {v : SY} (I : i_Rel k u v) (hk : k + 4 ≤ 2048) (v1 : Int32) : wpX_shady (fun r u' => wpY_shady (fun r' v' => r' = r ∧ i_Rel (k + 4) u' v') v v1) u v1 := by
  obtain ⟨W, L, G, H, V, Q, A, B, C, D, l, rfl, rfl, hW, hl⟩ := lf_RE I
  obtain ⟨Fa, Fb, ha, ha', hb, a12, b12⟩ := lf_both W fun c => (hl c).1
  unfold wpX_shady wpY_shady
  dsimp only
  refine lf_xLightA hl ha' hb fun G1 k1 => lf_xSha k1 ?_
  exact lf_yShine hl ha hb fun A' B' kA kB => lf_ySha kA kB a12 b12 ⟨rfl, lf_R hW hl⟩
theorem i_vc_open {k : Nat} {u : SX} {v : SY} (I : i_Rel k u v) (hk : k + 4 ≤ 2048) : wpX_open (fun r => wpY_open (fun r' => r' = r ∧ i_Rel (k + 4) u v) v) u := by
  obtain ⟨W, L, G, H, V, Q, A, B, C, D, l, rfl, rfl, hW, hl⟩ := lf_RE I
  exact lf_xOpen (lf_yOpen ⟨rfl, lf_R hW hl⟩)
theorem lf_yS16 {W L A B C : Nat → Int32} {post : Int32 → SY → Prop} {c : Nat} {l fa fb Fa Fb : Nat → Nat} (hc : c < 216) (hl : ∀ c, l c ≤ 12 ∧ L c = nI (l c)) (hA : lf_eq A fa) (hB : lf_eq B fb) (a12 : ∀ c, c < 216 → fa c ≤ 12) (b12 : ∀ c, c < 216 → fb c ≤ 12) (La : lf_L W (lf_u l c 0) Fa) (Lb : lf_L W (lf_s8 W) Fb) (hp : ∀ A' B' D', post (nI (lf_cn (lf_pSrv (fun x => max (fa x) (fb x)) (fun x => max (Fa x) (Fb x))) 216)) (W, L, A', B', C, D')) : ∀ (n i : Nat) (D : Nat → Int32), 216 - i < n → i ≤ 216 → (∀ x, x < i → D x = nI (max (fa x) (fb x))) → wY_serves_16 post (nI c) n (nI i) W L A B C D := by
  have l0 : ∀ x, lf_u l c 0 x ≤ 12 ∧ upd L c 0 x = nI (lf_u l c 0 x) := by
    intro x
    by_cases e : x = c
    · rw [e, pk_us, lf_us]
      exact ⟨Nat.zero_le _, rfl⟩
    · rw [pk_un e, lf_uo e]
      exact hl x
  have back : upd (upd L c 0) c (L c) = L := by
    funext x
    by_cases e : x = c
    · rw [e, pk_us]
    · rw [pk_un e, pk_un e]
  intro n
  induction n with
  | zero => intro i D h; omega
  | succ n ih =>
    intro i D hn hi hD
    refine pk_le 216 i (fun h => ?_) fun h => ?_
    · rw [lf_c hc]
      refine ⟨lf_in hc, nm_e ⟨lf_in hc, nm_e ?_⟩⟩
      refine lf_yShine l0 La Lb fun A' B' kA kB => ⟨lf_in hc, nm_r back ?_⟩
      exact lf_ySrv (fun x hx => by have := a12 x hx; have := b12 x hx; show max (fa x) (fb x) ≤ 12; omega) (fun x hx => hD x (by omega)) kA kB (fun x hx => lf_top (fun x _ => (l0 x).1) La hx) (fun x hx => lf_top (fun x _ => lf_s812 W x) Lb hx) (hp A' B' D)
    · refine lf_yLight h hA hB (a12 i h) (b12 i h) ⟨lf_in h, nm_r (e' := upd D i (nI (max (fa i) (fb i)))) (by rw [lf_c h]) (nm_r (nI_1 i) ?_)⟩
      refine ih (i + 1) _ (by omega) h fun x hx => ?_
      by_cases e : x = i
      · rw [e, pk_us]
      · rw [pk_un e]
        exact hD x (by omega)
theorem i_vc_serves {k : Nat} {u : SX} {v : SY} (I : i_Rel k u v) (hk : k + 4 ≤ 2048) (v1 : Int32) : wpX_serves (fun r u' => wpY_serves (fun r' v' => r' = r ∧ i_Rel (k + 4) u' v') v v1) u v1 := by
  obtain ⟨W, L, G, H, V, Q, A, B, C, D, l, rfl, rfl, hW, hl⟩ := lf_RE I
  obtain ⟨Fa, Fb, ha, ha', hb, a12, b12⟩ := lf_both W fun c => (hl c).1
  unfold wpX_serves wpY_serves
  dsimp only
  rcases lf_ix v1 with bd | ⟨c, hc, rfl⟩
  · exact lf_xGood0 bd (br_t rfl (lf_yBad1 bd (br_f lf_10 ⟨rfl, lf_R hW hl⟩)))
  have w12 : ∀ x, lf_wo l (nI c) x ≤ 12 := lf_wo12 (fun c => (hl c).1) (nI c)
  obtain ⟨Fw, hw⟩ := lf_ex W (s := lf_wo l (nI c)) fun x _ => w12 x
  have hw' : lf_L W (lf_u l c 0) Fw := lf_congr (fun x hx => by
    by_cases e : x = c
    · rw [e, lf_us]
      exact lf_wo1 rfl
    · rw [lf_uo e]
      exact lf_wo0 fun k => e (lf_inj hx hc k)) hw
  refine lf_xGood1 hc (br_f lf_10 ?_)
  refine lf_xLightA hl ha' hb fun G1 k1 => ?_
  refine lf_xLightB hl hw hb fun H1 k2 => ?_
  refine lf_xSrv (fun x hx => ?_) (fun x hx => ?_) k1 k2 ?_
  · have := a12 x hx
    have := b12 x hx
    show max (Fa x) (Fb x) ≤ 12
    omega
  · have := lf_top (fun x _ => w12 x) hw hx
    have := b12 x hx
    show max (Fw x) (Fb x) ≤ 12
    omega
  refine lf_yBad0 hc (br_t rfl ?_)
  refine lf_yShine hl ha hb fun A' B' kA kB => ⟨217, ?_⟩
  exact lf_yS16 hc hl kA kB a12 b12 hw' hb (fun A'' B'' D'' => ⟨rfl, lf_R hW hl⟩) 217 0 D (by omega) (by omega) fun x hx => absurd hx (Nat.not_lt_zero x)
theorem i_vc_rooms {k : Nat} {u : SX} {v : SY} (I : i_Rel k u v) (hk : k + 4 ≤ 2048) : wpX_rooms (fun r u' => wpY_rooms (fun r' v' => r' = r ∧ i_Rel (k + 4) u' v') v) u := by
  obtain ⟨W, L, G, H, V, Q, A, B, C, D, l, rfl, rfl, hW, hl⟩ := lf_RE I
  exact lf_xRooms fun V' Q' => lf_yRooms fun C' => ⟨rfl, lf_R hW hl⟩
end
