/-! cells, sides, neighbours, counting, light, rooms; no printed predicate stands here -/
/-- the neighbour of a cell at a side, in the component's order of the sides -/
def lf_n (c s : Nat) : Option Nat :=
  match s with
  | 0 => if 0 < c % 6 then some (c - 1) else none
  | 1 => if c % 6 < 5 then some (c + 1) else none
  | 2 => if 0 < c / 6 % 6 then some (c - 6) else none
  | 3 => if c / 6 % 6 < 5 then some (c + 6) else none
  | 4 => if 0 < c / 36 then some (c - 36) else none
  | _ => if c / 36 < 5 then some (c + 36) else none
/-- the side against a side -/
def lf_o (s : Nat) : Nat :=
  match s with
  | 0 => 1
  | 1 => 0
  | 2 => 3
  | 3 => 2
  | 4 => 5
  | _ => 4
/-- the same in the reference's order of the sides -/
def lf_m (c s : Nat) : Option Nat := lf_n c (lf_o s)
theorem lf_o_lt (s : Nat) : lf_o s < 6 := by
  match s with
  | 0 => decide
  | 1 => decide
  | 2 => decide
  | 3 => decide
  | 4 => decide
  | n + 5 => show 4 < 6; decide
theorem lf_oo : ∀ s, s < 6 → lf_o (lf_o s) = s := by decide
theorem lf_tab : (List.range 216).all (fun c => (List.range 6).all (fun s => match lf_n c s with
  | none => true
  | some d => decide (d < 216) && (lf_n d (lf_o s) == some c))) = true := by decide +kernel
theorem lf_nm {c s d : Nat} (hc : c < 216) (hs : s < 6) (e : lf_n c s = some d) : d < 216 ∧ lf_n d (lf_o s) = some c := by
  have h := List.all_eq_true.mp (List.all_eq_true.mp lf_tab c (List.mem_range.mpr hc)) s (List.mem_range.mpr hs)
  simp only [e, Bool.and_eq_true, decide_eq_true_eq, beq_iff_eq] at h
  exact h
def lf_adj (c d : Nat) : Prop := ∃ s, s < 6 ∧ lf_n c s = some d
theorem lf_adj_in {c d : Nat} (hc : c < 216) (h : lf_adj c d) : d < 216 := by
  obtain ⟨s, hs, e⟩ := h
  exact (lf_nm hc hs e).1
theorem lf_adj_sym {c d : Nat} (hc : c < 216) (h : lf_adj c d) : lf_adj d c := by
  obtain ⟨s, hs, e⟩ := h
  exact ⟨lf_o s, lf_o_lt s, (lf_nm hc hs e).2⟩
theorem lf_adj_m {c d s : Nat} (h : lf_m c s = some d) : lf_adj c d := ⟨lf_o s, lf_o_lt s, h⟩
theorem lf_adj_ex {c d : Nat} (h : lf_adj c d) : ∃ s, s < 6 ∧ lf_m c s = some d := by
  obtain ⟨s, hs, e⟩ := h
  refine ⟨lf_o s, lf_o_lt s, ?_⟩
  show lf_n c (lf_o (lf_o s)) = some d
  rw [lf_oo s hs]
  exact e
/-! counting -/
noncomputable def lf_b (p : Prop) : Nat := @ite Nat p (Classical.propDecidable p) 1 0
noncomputable def lf_cn (p : Nat → Prop) : Nat → Nat
  | 0 => 0
  | n + 1 => lf_cn p n + lf_b (p n)
theorem lf_cn_t {p : Nat → Prop} {n : Nat} (h : p n) : lf_cn p (n + 1) = lf_cn p n + 1 := by
  show lf_cn p n + lf_b (p n) = _
  rw [lf_b, if_pos h]
theorem lf_cn_f {p : Nat → Prop} {n : Nat} (h : ¬ p n) : lf_cn p (n + 1) = lf_cn p n := by
  show lf_cn p n + lf_b (p n) = _
  rw [lf_b, if_neg h]
  rfl
theorem lf_cn_le (p : Nat → Prop) (n : Nat) : lf_cn p n ≤ n := by
  induction n with
  | zero => exact Nat.le_refl 0
  | succ n ih =>
    by_cases h : p n
    · rw [lf_cn_t h]; omega
    · rw [lf_cn_f h]; omega
theorem lf_cn_congr {p q : Nat → Prop} {n : Nat} (h : ∀ i, i < n → (p i ↔ q i)) : lf_cn p n = lf_cn q n := by
  induction n with
  | zero => rfl
  | succ n ih =>
    have e := ih fun i hi => h i (by omega)
    by_cases hp : p n
    · rw [lf_cn_t hp, lf_cn_t ((h n (by omega)).mp hp), e]
    · rw [lf_cn_f hp, lf_cn_f (fun hq => hp ((h n (by omega)).mpr hq)), e]
theorem lf_cn_mono {p q : Nat → Prop} {n : Nat} (h : ∀ i, i < n → p i → q i) : lf_cn p n ≤ lf_cn q n := by
  induction n with
  | zero => exact Nat.le_refl 0
  | succ n ih =>
    have e := ih fun i hi => h i (by omega)
    by_cases hp : p n
    · rw [lf_cn_t hp, lf_cn_t (h n (by omega) hp)]; omega
    · rw [lf_cn_f hp]
      by_cases hq : q n
      · rw [lf_cn_t hq]; omega
      · rw [lf_cn_f hq]; exact e
theorem lf_cn_lt {p q : Nat → Prop} {n : Nat} (h : ∀ i, i < n → p i → q i) {i : Nat} (hi : i < n) (hq : q i) (hp : ¬ p i) : lf_cn p n < lf_cn q n := by
  induction n with
  | zero => omega
  | succ n ih =>
    by_cases e : i = n
    · subst e
      have := lf_cn_mono (p := p) (q := q) (n := i) fun j hj => h j (by omega)
      rw [lf_cn_f hp, lf_cn_t hq]; omega
    · have e1 := ih (fun j hj => h j (by omega)) (by omega)
      by_cases hp' : p n
      · rw [lf_cn_t hp', lf_cn_t (h n (by omega) hp')]; omega
      · rw [lf_cn_f hp']
        by_cases hq' : q n
        · rw [lf_cn_t hq']; omega
        · rw [lf_cn_f hq']; exact e1
theorem lf_cn_all {p : Nat → Prop} {n : Nat} (h : ∀ i, i < n → p i) : lf_cn p n = n := by
  induction n with
  | zero => rfl
  | succ n ih => rw [lf_cn_t (h n (by omega)), ih fun i hi => h i (by omega)]
theorem lf_cn_full {p : Nat → Prop} {n : Nat} (h : n ≤ lf_cn p n) : ∀ i, i < n → p i := by
  intro i hi
  refine Classical.byContradiction fun hp => ?_
  have a := lf_cn_lt (p := p) (q := fun _ => True) (fun _ _ _ => trivial) hi trivial hp
  have b := lf_cn_le (fun _ => True) n
  omega
theorem lf_cn_add (p : Nat → Prop) (a b : Nat) : lf_cn p (a + b) = lf_cn p a + lf_cn (fun i => p (a + i)) b := by
  induction b with
  | zero => rfl
  | succ b ih =>
    by_cases h : p (a + b)
    · rw [← Nat.add_assoc, lf_cn_t h, lf_cn_t (p := fun i => p (a + i)) h, ih]; omega
    · rw [← Nat.add_assoc, lf_cn_f h, lf_cn_f (p := fun i => p (a + i)) h, ih]
/-- six sides in the one order and in the other -/
theorem lf_cn_6 (p : Nat → Prop) : lf_cn (fun s => p (lf_o s)) 6 = lf_cn p 6 := by
  show 0 + lf_b (p 1) + lf_b (p 0) + lf_b (p 3) + lf_b (p 2) + lf_b (p 5) + lf_b (p 4) = 0 + lf_b (p 0) + lf_b (p 1) + lf_b (p 2) + lf_b (p 3) + lf_b (p 4) + lf_b (p 5)
  omega
/-! light: the least function above the sources that is closed under flowing -/
def lf_Cl (W : Nat → Int32) (f : Nat → Nat) : Prop := ∀ d c, d < 216 → lf_adj d c → W c = 0 → f d ≤ f c + 1
def lf_Ok (W : Nat → Int32) (s f : Nat → Nat) : Prop := (∀ c, c < 216 → s c ≤ f c) ∧ lf_Cl W f
def lf_L (W : Nat → Int32) (s f : Nat → Nat) : Prop := lf_Ok W s f ∧ ∀ g, lf_Ok W s g → ∀ c, c < 216 → f c ≤ g c
theorem lf_ok12 {W : Nat → Int32} {s : Nat → Nat} (h : ∀ c, c < 216 → s c ≤ 12) : lf_Ok W s (fun _ => 12) := ⟨h, fun _ _ _ _ _ => Nat.le_succ 12⟩
theorem lf_ex (W : Nat → Int32) {s : Nat → Nat} (h : ∀ c, c < 216 → s c ≤ 12) : ∃ f, lf_L W s f := by
  have key : ∀ c : Nat, ∃ v : Nat, (∃ g, lf_Ok W s g ∧ g c = v) ∧ ∀ j, j < v → ¬ ∃ g, lf_Ok W s g ∧ g c = j := fun c => pk_least (fun v => ∃ g, lf_Ok W s g ∧ g c = v) ⟨12, fun _ => 12, lf_ok12 h, rfl⟩
  obtain ⟨f, hf⟩ : ∃ f : Nat → Nat, ∀ c, (∃ g, lf_Ok W s g ∧ g c = f c) ∧ ∀ j, j < f c → ¬ ∃ g, lf_Ok W s g ∧ g c = j := ⟨fun c => Classical.choose (key c), fun c => Classical.choose_spec (key c)⟩
  have h2 : ∀ c g, lf_Ok W s g → f c ≤ g c := fun c g hg => Nat.le_of_not_lt fun hl => (hf c).2 _ hl ⟨g, hg, rfl⟩
  refine ⟨f, ⟨fun c hc => ?_, fun d c hd ha hw => ?_⟩, fun g hg c _ => h2 c g hg⟩
  · obtain ⟨g, hg, e⟩ := (hf c).1
    rw [← e]
    exact hg.1 c hc
  · obtain ⟨g, hg, e⟩ := (hf c).1
    rw [← e]
    exact Nat.le_trans (h2 d g hg) (hg.2 d c hd ha hw)
theorem lf_un {W : Nat → Int32} {s f g : Nat → Nat} (h : lf_L W s f) (h' : lf_L W s g) {c : Nat} (hc : c < 216) : f c = g c := Nat.le_antisymm (h.2 g h'.1 c hc) (h'.2 f h.1 c hc)
theorem lf_top {W : Nat → Int32} {s f : Nat → Nat} (hs : ∀ c, c < 216 → s c ≤ 12) (h : lf_L W s f) {c : Nat} (hc : c < 216) : f c ≤ 12 := h.2 _ (lf_ok12 hs) c hc
theorem lf_max {W : Nat → Int32} {s t f g : Nat → Nat} (h : lf_L W s f) (h' : lf_L W t g) : lf_L W (fun c => max (s c) (t c)) (fun c => max (f c) (g c)) := by
  refine ⟨⟨fun c hc => ?_, fun d c hd ha hw => ?_⟩, fun k hk c hc => ?_⟩
  · have a := h.1.1 c hc
    have b := h'.1.1 c hc
    show max (s c) (t c) ≤ max (f c) (g c)
    omega
  · have a := h.1.2 d c hd ha hw
    have b := h'.1.2 d c hd ha hw
    show max (f d) (g d) ≤ max (f c) (g c) + 1
    omega
  · have a := h.2 k ⟨fun x hx => Nat.le_trans (Nat.le_max_left _ _) (hk.1 x hx), hk.2⟩ c hc
    have b := h'.2 k ⟨fun x hx => Nat.le_trans (Nat.le_max_right _ _) (hk.1 x hx), hk.2⟩ c hc
    show max (f c) (g c) ≤ k c
    omega
theorem lf_congr {W : Nat → Int32} {s t f : Nat → Nat} (e : ∀ c, c < 216 → s c = t c) (h : lf_L W s f) : lf_L W t f :=
  ⟨⟨fun c hc => by rw [← e c hc]; exact h.1.1 c hc, h.1.2⟩, fun g hg => h.2 g ⟨fun c hc => by rw [e c hc]; exact hg.1 c hc, hg.2⟩⟩
/-- a cell above its source has its light from a neighbour -/
theorem lf_tight {W : Nat → Int32} {s f : Nat → Nat} (h : lf_L W s f) {c : Nat} (hc : c < 216) (hl : s c < f c) : W c = 0 ∧ ∃ d, d < 216 ∧ lf_adj d c ∧ f d = f c + 1 := by
  refine Classical.byContradiction fun hn => ?_
  have hg : lf_Ok W s (fun x => if x = c then f c - 1 else f x) := by
    refine ⟨fun x hx => ?_, fun d x hd ha hw => ?_⟩
    · show s x ≤ if x = c then f c - 1 else f x
      by_cases e : x = c
      · subst e
        rw [if_pos rfl]; omega
      · rw [if_neg e]; exact h.1.1 x hx
    · show (if d = c then f c - 1 else f d) ≤ (if x = c then f c - 1 else f x) + 1
      have k := h.1.2 d x hd ha hw
      have k1 : (if d = c then f c - 1 else f d) ≤ f d := by
        by_cases e : d = c
        · subst e
          rw [if_pos rfl]; omega
        · rw [if_neg e]; exact Nat.le_refl _
      by_cases e : x = c
      · subst e
        rw [if_pos rfl]
        have k2 : f d ≠ f x + 1 := fun e => hn ⟨hw, d, hd, ha, e⟩
        omega
      · rw [if_neg e]; omega
  have k := h.2 _ hg c hc
  have k' : f c ≤ if c = c then f c - 1 else f c := k
  rw [if_pos rfl] at k'
  omega
/-! the reference's passes -/
def lf_Pre (F s : Nat → Nat) (k : Nat) (f : Nat → Nat) : Prop := (∀ c, c < 216 → s c ≤ f c ∧ f c ≤ F c) ∧ ∀ c, c < 216 → 12 ≤ F c + k → f c = F c
theorem lf_pre0 {W : Nat → Int32} {s F : Nat → Nat} (hs : ∀ c, c < 216 → s c ≤ 12) (h : lf_L W s F) : lf_Pre F s 0 s := by
  refine ⟨fun c hc => ⟨Nat.le_refl _, h.1.1 c hc⟩, fun c hc hk => ?_⟩
  have a := h.1.1 c hc
  refine Classical.byContradiction fun hn => ?_
  obtain ⟨_, d, hd, _, e⟩ := lf_tight h hc (by omega)
  have b := lf_top hs h hd
  omega
theorem lf_preS {W : Nat → Int32} {s F f0 f : Nat → Nat} {k : Nat} (h : lf_L W s F) (p : lf_Pre F s k f0) (hf : ∀ c, c < 216 → f0 c ≤ f c ∧ f c ≤ F c) (hr : ∀ c d, c < 216 → lf_adj c d → W c = 0 → f0 d ≤ f c + 1) : lf_Pre F s (k + 1) f := by
  refine ⟨fun c hc => ⟨Nat.le_trans (p.1 c hc).1 (hf c hc).1, (hf c hc).2⟩, fun c hc hk => ?_⟩
  have a := hf c hc
  have b := p.1 c hc
  by_cases e : s c < F c
  · obtain ⟨hw, d, hd, ha, ed⟩ := lf_tight h hc e
    have q := p.2 d hd (by omega)
    have r := hr c d hc (lf_adj_sym hd ha) hw
    omega
  · omega
theorem lf_preE {W : Nat → Int32} {s F f : Nat → Nat} {k : Nat} (h : lf_L W s F) (p : lf_Pre F s k f) (e : 12 ≤ k ∨ lf_Cl W f) {c : Nat} (hc : c < 216) : f c = F c := by
  rcases e with e | e
  · exact p.2 c hc (by omega)
  · exact Nat.le_antisymm (p.1 c hc).2 (h.2 f ⟨fun c hc => (p.1 c hc).1, e⟩ c hc)
/-! the component's levels -/
def lf_Lv (W : Nat → Int32) (F s : Nat → Nat) (l i : Nat) (f : Nat → Nat) : Prop := (∀ c, c < 216 → s c ≤ f c ∧ f c ≤ F c) ∧ (∀ d c, d < 216 → lf_adj d c → W c = 0 → l < f d → f d ≤ f c + 1) ∧ ∀ d, d < i → d < 216 → f d = l → ∀ c, lf_adj d c → W c = 0 → l ≤ f c + 1
theorem lf_lv0 {W : Nat → Int32} {s F : Nat → Nat} (hs : ∀ c, c < 216 → s c ≤ 12) (h : lf_L W s F) : lf_Lv W F s 12 0 s :=
  ⟨fun c hc => ⟨Nat.le_refl _, h.1.1 c hc⟩, fun d c hd _ _ hl => by have := hs d hd; omega, fun d hd => by omega⟩
theorem lf_lvS {W : Nat → Int32} {F s f f' : Nat → Nat} {l i : Nat} (h : lf_Lv W F s l i f) (hf : ∀ c, c < 216 → f c ≤ f' c ∧ f' c ≤ F c ∧ (f' c = f c ∨ f' c + 1 = l)) (hr : ∀ c, lf_adj i c → W c = 0 → l ≤ f' c + 1) : lf_Lv W F s l (i + 1) f' := by
  refine ⟨fun c hc => ⟨Nat.le_trans (h.1 c hc).1 (hf c hc).1, (hf c hc).2.1⟩, fun d c hd ha hw hl => ?_, fun d hi hd hl c ha hw => ?_⟩
  · have a := hf d hd
    have b := hf c (lf_adj_in hd ha)
    have k := h.2.1 d c hd ha hw
    omega
  · by_cases e : d = i
    · subst e
      exact hr c ha hw
    · have a := hf d hd
      have b := hf c (lf_adj_in hd ha)
      have k := h.2.2 d (by omega) hd (by omega) c ha hw
      omega
theorem lf_lvN {W : Nat → Int32} {F s f : Nat → Nat} {l i : Nat} (h : lf_Lv W F s l i f) (e : f i ≠ l) : lf_Lv W F s l (i + 1) f := by
  refine ⟨h.1, h.2.1, fun d hi hd hl c ha hw => ?_⟩
  by_cases e' : d = i
  · subst e'
    exact absurd hl e
  · exact h.2.2 d (by omega) hd hl c ha hw
theorem lf_lvD {W : Nat → Int32} {F s f : Nat → Nat} {l : Nat} (h : lf_Lv W F s (l + 1) 216 f) : lf_Lv W F s l 0 f := by
  refine ⟨h.1, fun d c hd ha hw hl => ?_, fun d hd => by omega⟩
  by_cases e : f d = l + 1
  · have := h.2.2 d hd hd e c ha hw
    omega
  · exact h.2.1 d c hd ha hw (by omega)
theorem lf_lvE {W : Nat → Int32} {F s f : Nat → Nat} (h : lf_L W s F) (p : lf_Lv W F s 1 0 f) {c : Nat} (hc : c < 216) : f c = F c := by
  refine Nat.le_antisymm (p.1 c hc).2 (h.2 f ⟨fun c hc => (p.1 c hc).1, fun d c hd ha hw => ?_⟩ c hc)
  by_cases e : 1 < f d
  · exact p.2.1 d c hd ha hw e
  · omega
/-! the sky -/
def lf_sky (W : Nat → Int32) (c : Nat) : Prop := ∀ j, c + 36 * j < 216 → W (c + 36 * j) = 0
theorem lf_sky0 {W : Nat → Int32} {c : Nat} (h : 216 ≤ c) : lf_sky W c := fun j hj => by omega
theorem lf_skyS {W : Nat → Int32} {c : Nat} (h : c < 216) : lf_sky W c ↔ W c = 0 ∧ lf_sky W (c + 36) := by
  constructor
  · intro k
    refine ⟨k 0 h, fun j hj => ?_⟩
    have := k (j + 1) (by omega)
    rw [show c + 36 + 36 * j = c + 36 * (j + 1) from by omega]
    exact this
  · intro k j hj
    match j with
    | 0 => exact k.1
    | j + 1 =>
      rw [show c + 36 * (j + 1) = c + 36 + 36 * j from by omega] at hj ⊢
      exact k.2 j hj
/-! boxes -/
def lf_le (a b : Nat) : Prop := a % 6 ≤ b % 6 ∧ a / 6 % 6 ≤ b / 6 % 6 ∧ a / 36 ≤ b / 36
