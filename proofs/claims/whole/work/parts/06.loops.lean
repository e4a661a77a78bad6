/-! the loops that count, fill, shell, darkest -/
theorem lf_cn_0 {p : Nat → Prop} {n : Nat} (h : ∀ i, i < n → ¬ p i) : lf_cn p n = 0 := by
  induction n with
  | zero => rfl
  | succ n ih => rw [lf_cn_f (h n (by omega)), ih fun i hi => h i (by omega)]
/-- a loop that counts -/
theorem lf_cnt (p : Nat → Prop) (e : Nat) (K : Nat → Int32 → Nat → Prop) (hx : ∀ n, K (n + 1) (nI (lf_cn p e)) e) (hs : ∀ n i, i < e → (p i → K n (nI (lf_cn p i + 1)) (i + 1)) → (¬ p i → K n (nI (lf_cn p i)) (i + 1)) → K (n + 1) (nI (lf_cn p i)) i) : ∀ n i, i ≤ e → e - i < n → K n (nI (lf_cn p i)) i := by
  intro n
  induction n with
  | zero => intro i _ h; omega
  | succ n ih =>
    intro i hi hn
    by_cases h : i = e
    · subst h
      exact hx n
    · refine hs n i (by omega) (fun k => ?_) fun k => ?_
      · have z := ih (i + 1) (by omega) (by omega)
        rw [lf_cn_t k] at z
        exact z
      · have z := ih (i + 1) (by omega) (by omega)
        rw [lf_cn_f k] at z
        exact z
def lf_pLit (f : Nat → Nat) (a b : Nat) (v : Int32) (c : Nat) : Prop := (lf_le a c ∧ lf_le c b) ∧ ¬ nI (f c) < v
def lf_pDim (W : Nat → Int32) (f : Nat → Nat) (v : Int32) (c : Nat) : Prop := W c = 0 ∧ nI (f c) = v
def lf_pSha (W : Nat → Int32) (f : Nat → Nat) (v : Int32) (c : Nat) : Prop := 36 ≤ c ∧ W c = 0 ∧ ¬ W (c - 36) = 0 ∧ ¬ v < nI (f c)
def lf_pSrv (f g : Nat → Nat) (c : Nat) : Prop := ¬ f c ≤ g c
/-- a side is bare: outside, or beside a free cell -/
def lf_br (W : Nat → Int32) (o : Option Nat) : Prop := ∀ d, o = some d → W d = 0
def lf_pFac (W : Nat → Int32) (k : Nat) : Prop := ¬ W (k / 6) = 0 ∧ lf_br W (lf_m (k / 6) (k % 6))
theorem lf_br_n {W : Nat → Int32} {o : Option Nat} (h : o = none) : lf_br W o := fun d e => by
  rw [h] at e
  exact nomatch e
theorem lf_br_s {W : Nat → Int32} {o : Option Nat} {d : Nat} (h : o = some d) : lf_br W o ↔ W d = 0 := by
  constructor
  · intro k
    exact k d h
  · intro k d' e
    rw [h] at e
    injection e with e
    subst e
    exact k
section
variable {W L G H V Q : Nat → Int32}
theorem lf_xLit {post : Int32 → SX → Prop} {f : Nat → Nat} {a b : Nat} {v : Int32} (ha : a < 216) (hb : b < 216) (hG : lf_eq G f) (hp : post (nI (lf_cn (lf_pLit f a b v) 216)) (W, L, G, H, V, Q)) : ∃ n, wX_lit_25 post (nI a) (nI b) v W L G H V Q n 0 0 := by
  refine ⟨217, lf_cnt (lf_pLit f a b v) 216 (fun n x i => wX_lit_25 post (nI a) (nI b) v W L G H V Q n x (nI i)) (fun n => ?_) (fun n i h t z => ?_) 217 0 (by omega) (by omega)⟩
  · exact br_t (nI_le (b := 216) (Nat.le_refl _) (by decide)) hp
  · refine br_f (nI_ge (b := 216) h (by decide)) (lf_xBox h ha hb (fun k => br_f lf_10 ⟨lf_in h, ?_⟩) fun k => br_t rfl (nm_r (nI_1 i) (z fun q => k q.1)))
    rw [lf_c h, hG i h]
    exact br_c (fun q => nm_r (nI_1 i) (z fun q' => q'.2 q)) fun q => nm_r (nI_1 _) (nm_r (nI_1 i) (t ⟨k, q⟩))
theorem lf_xDim {post : Int32 → SX → Prop} {f : Nat → Nat} {v : Int32} (hG : lf_eq G f) (hp : post (nI (lf_cn (lf_pDim W f v) 216)) (W, L, G, H, V, Q)) : ∃ n, wX_dim_25 post v W L G H V Q n 0 0 := by
  refine ⟨217, lf_cnt (lf_pDim W f v) 216 (fun n x i => wX_dim_25 post v W L G H V Q n x (nI i)) (fun n => ?_) (fun n i h t z => ?_) 217 0 (by omega) (by omega)⟩
  · exact br_t (nI_le (b := 216) (Nat.le_refl _) (by decide)) hp
  · refine br_f (nI_ge (b := 216) h (by decide)) (lf_xFree h (fun w => br_f lf_10 ⟨lf_in h, ?_⟩) fun w => br_t rfl (nm_r (nI_1 i) (z fun q => w q.1)))
    rw [lf_c h, hG i h]
    exact br_c (fun q => nm_r (nI_1 _) (nm_r (nI_1 i) (t ⟨w, q⟩))) fun q => nm_r (nI_1 i) (z fun q' => q q'.2)
theorem lf_xSha {post : Int32 → SX → Prop} {f : Nat → Nat} {v : Int32} (hG : lf_eq G f) (hp : post (nI (lf_cn (lf_pSha W f v) 216)) (W, L, G, H, V, Q)) : ∃ n, wX_shady_14 post v W L G H V Q n 0 36 := by
  have key := lf_cnt (lf_pSha W f v) 216 (fun n x i => 36 ≤ i → wX_shady_14 post v W L G H V Q n x (nI i)) (fun n _ => ?_) (fun n i h t z h36 => ?_) 217 36 (by omega) (by omega) (Nat.le_refl 36)
  · rw [lf_cn_0 (p := lf_pSha W f v) (n := 36) fun i hi q => absurd q.1 (by omega)] at key
    exact ⟨217, key⟩
  · exact br_t (nI_le (b := 216) (Nat.le_refl _) (by decide)) hp
  · have u216 : i - 36 < 216 := by omega
    refine br_f (nI_ge (b := 216) h (by decide)) (lf_xFree h (fun w => br_f lf_10 ?_) fun w => br_t rfl (nm_r (nI_1 i) (z (fun q => w q.2.1) (by omega))))
    rw [lf_s36 h36, lf_c u216, lf_c h, hG i h]
    refine ⟨lf_in u216, br_c (fun w' => nm_r (nI_1 i) (z (fun q => q.2.2.1 w') (by omega))) fun w' => ⟨lf_in h, ?_⟩⟩
    exact br_c (fun q => nm_r (nI_1 i) (z (fun q' => q'.2.2.2 q) (by omega))) fun q => nm_r (nI_1 _) (nm_r (nI_1 i) (t ⟨h36, w, w', q⟩ (by omega)))
theorem lf_xOpen {post : Int32 → Prop} (hp : post (nI (lf_cn (lf_sky W) 216))) : wpX_open post (W, L, G, H, V, Q) := by
  refine ⟨217, lf_cnt (lf_sky W) 216 (fun n x i => wX_open_4 post W L G H V Q n x (nI i)) (fun n => ?_) (fun n i h t z => ?_) 217 0 (by omega) (by omega)⟩
  · exact br_t (nI_le (b := 216) (Nat.le_refl _) (by decide)) hp
  · exact br_f (nI_ge (b := 216) h (by decide)) (lf_xSky h (fun k => br_f lf_10 (nm_r (nI_1 _) (nm_r (nI_1 i) (t k)))) fun k => br_t rfl (nm_r (nI_1 i) (z k)))
theorem lf_xSrv {post : Int32 → SX → Prop} {f g : Nat → Nat} (f12 : ∀ c, c < 216 → f c ≤ 12) (g12 : ∀ c, c < 216 → g c ≤ 12) (hG : lf_eq G f) (hH : lf_eq H g) (hp : post (nI (lf_cn (lf_pSrv f g) 216)) (W, L, G, H, V, Q)) : ∃ n, wX_serves_31 post W L G H V Q n 0 0 := by
  refine ⟨217, lf_cnt (lf_pSrv f g) 216 (fun n x i => wX_serves_31 post W L G H V Q n x (nI i)) (fun n => ?_) (fun n i h t z => ?_) 217 0 (by omega) (by omega)⟩
  · exact br_t (nI_le (b := 216) (Nat.le_refl _) (by decide)) hp
  · refine br_f (nI_ge (b := 216) h (by decide)) ⟨lf_in h, lf_in h, ?_⟩
    have a := f12 i h
    have b := g12 i h
    rw [lf_c h, hG i h, hH i h]
    exact pk_le (f i) (g i) (fun q => nm_r (nI_1 i) (z fun q' => q' q)) fun q => nm_r (nI_1 _) (nm_r (nI_1 i) (t (by unfold lf_pSrv; omega)))
theorem lf_xBare {post : Int32 → Prop} {c : Nat} (hc : c < 216) (hp : post (nI (lf_cn (fun s => lf_br W (lf_n c s)) 6))) : wpX_bareSides post (W, L, G, H, V, Q) (nI c) := by
  refine ⟨7, lf_cnt (fun s => lf_br W (lf_n c s)) 6 (fun n x s => wX_bareSides_4 post (nI c) W L G H V Q n x (nI s)) (fun n => ?_) (fun n s h t z => ?_) 7 0 (by omega) (by omega)⟩
  · exact br_t (nI_le (b := 6) (Nat.le_refl _) (by decide)) hp
  · refine br_f (nI_ge (b := 6) h (by decide)) (lf_xNb hc h (fun e => br_t rfl (nm_r (nI_1 _) (nm_r (nI_1 s) (t (lf_br_n e))))) fun d e => ?_)
    have d216 := (lf_nm hc h e).1
    have ne : ¬ nI d = -1 := fun k => by
      have := congrArg Int32.toInt k
      rw [nI_toInt (by omega), show (-1 : Int32).toInt = -1 from by decide] at this
      omega
    exact br_f ne (lf_xFree d216 (fun w => br_f lf_10 (nm_r (nI_1 _) (nm_r (nI_1 s) (t ((lf_br_s e).mpr w))))) fun w => br_t rfl (nm_r (nI_1 s) (z fun q => w ((lf_br_s e).mp q))))
theorem lf_facS {i : Nat} : (¬ W i = 0 → lf_cn (lf_pFac W) (6 * (i + 1)) = lf_cn (lf_pFac W) (6 * i) + lf_cn (fun s => lf_br W (lf_n i s)) 6) ∧ (W i = 0 → lf_cn (lf_pFac W) (6 * (i + 1)) = lf_cn (lf_pFac W) (6 * i)) := by
  have e := lf_cn_add (lf_pFac W) (6 * i) 6
  rw [show 6 * (i + 1) = 6 * i + 6 from by omega, e]
  have d : ∀ s, s < 6 → (6 * i + s) / 6 = i ∧ (6 * i + s) % 6 = s := fun s hs => ⟨by omega, by omega⟩
  constructor
  · intro w
    rw [← lf_cn_6 (fun s => lf_br W (lf_n i s))]
    refine congrArg (fun y => _ + y) (lf_cn_congr fun s hs => ?_)
    show (¬ W ((6 * i + s) / 6) = 0 ∧ lf_br W (lf_m ((6 * i + s) / 6) ((6 * i + s) % 6))) ↔ lf_br W (lf_n i (lf_o s))
    rw [(d s hs).1, (d s hs).2]
    exact ⟨fun k => k.2, fun k => ⟨w, k⟩⟩
  · intro w
    rw [lf_cn_0 (p := fun s => lf_pFac W (6 * i + s)) fun s hs q => q.1 (by rw [(d s hs).1]; exact w)]
    rfl
theorem lf_xFac4 {post : Int32 → Prop} (hp : post (nI (lf_cn (lf_pFac W) 1296))) : ∀ n i : Nat, i ≤ 216 → 216 - i < n → wX_faces_4 post W L G H V Q n (nI (lf_cn (lf_pFac W) (6 * i))) (nI i) := by
  intro n
  induction n with
  | zero => intro i _ h; omega
  | succ n ih =>
    intro i hi hn
    refine pk_le 216 i (fun h => ?_) fun h => ⟨lf_in h, ?_⟩
    · have e : i = 216 := by omega
      subst e
      exact hp
    rw [lf_c h]
    have z := ih (i + 1) h (by omega)
    refine br_c (fun w => nm_r (nI_1 i) ?_) fun w => lf_xBare h (nm_r (nI_add _ _) (nm_r (nI_1 i) ?_))
    · rw [lf_facS.2 w] at z
      exact z
    · rw [lf_facS.1 w] at z
      exact z
theorem lf_xFac {post : Int32 → Prop} (hp : post (nI (lf_cn (lf_pFac W) 1296))) : wpX_faces post (W, L, G, H, V, Q) := ⟨217, lf_xFac4 hp 217 0 (by omega) (by omega)⟩
theorem lf_xMk {post : Int32 → SX → Prop} {c : Nat} {z : Int32} (hc : c < 216) (hz : vp_nar .boolean z = z) (h0 : W c = z → post 0 (W, L, G, H, V, Q)) (h1 : ¬ W c = z → post 1 (upd W c z, L, G, H, V, Q)) : wpX_makeSolid post (W, L, G, H, V, Q) (nI c) z := by
  unfold wpX_makeSolid
  dsimp only
  refine ⟨lf_in hc, ?_⟩
  rw [lf_c hc, hz]
  exact br_c h0 fun k => ⟨lf_in hc, nm_e (h1 k)⟩
theorem lf_xF48 {post : Int32 → SX → Prop} {J : Int32 → Int32 → (Nat → Int32) → (Nat → Int32) → (Nat → Int32) → (Nat → Int32) → (Nat → Int32) → (Nat → Int32) → Prop} {x1 x2 x3 x z : Int32} {c : Nat} (hc : c < 216) (hz : vp_nar .boolean z = z) (h0 : W c = z → J x (nI (c + 1)) W L G H V Q) (h1 : ¬ W c = z → J (x + 1) (nI (c + 1)) (upd W c z) L G H V Q) : wX_fill_48 post J x1 x2 x3 (nI c) z (nI c) x W L G H V Q := by
  unfold wX_fill_48
  exact lf_xMk hc hz (fun e => nm_r (Int32.add_zero x) (nm_r (nI_1 c) (h0 e))) fun e => nm_e (nm_r (nI_1 c) (h1 e))
end
section
variable {W L A B C D : Nat → Int32}
theorem lf_yLit {post : Int32 → SY → Prop} {fa fb : Nat → Nat} {a b : Nat} {v : Int32} (ha : a < 216) (hb : b < 216) (hA : lf_eq A fa) (hB : lf_eq B fb) (a12 : ∀ c, c < 216 → fa c ≤ 12) (b12 : ∀ c, c < 216 → fb c ≤ 12) (hp : post (nI (lf_cn (lf_pLit (fun c => max (fa c) (fb c)) a b v) 216)) (W, L, A, B, C, D)) : ∃ n, wY_lit_21 post (nI a) (nI b) v W L A B C D n 0 0 := by
  refine ⟨217, lf_cnt (lf_pLit (fun c => max (fa c) (fb c)) a b v) 216 (fun n x i => wY_lit_21 post (nI a) (nI b) v W L A B C D n x (nI i)) (fun n => ?_) (fun n i h t z => ?_) 217 0 (by omega) (by omega)⟩
  · exact br_t (nI_le (b := 216) (Nat.le_refl _) (by decide)) hp
  · refine br_f (nI_ge (b := 216) h (by decide)) (lf_yBox h ha hb (fun k => br_f lf_10 (lf_yLight h hA hB (a12 i h) (b12 i h) ?_)) fun k => br_t rfl (nm_r (nI_1 i) (z fun q => k q.1)))
    exact br_c (fun q => nm_r (nI_1 i) (z fun q' => q'.2 q)) fun q => nm_r (nI_1 _) (nm_r (nI_1 i) (t ⟨k, q⟩))
theorem lf_yDim {post : Int32 → SY → Prop} {fa fb : Nat → Nat} {v : Int32} (hA : lf_eq A fa) (hB : lf_eq B fb) (a12 : ∀ c, c < 216 → fa c ≤ 12) (b12 : ∀ c, c < 216 → fb c ≤ 12) (hp : post (nI (lf_cn (lf_pDim W (fun c => max (fa c) (fb c)) v) 216)) (W, L, A, B, C, D)) : ∃ n, wY_dim_20 post v W L A B C D n 0 0 := by
  refine ⟨217, lf_cnt (lf_pDim W (fun c => max (fa c) (fb c)) v) 216 (fun n x i => wY_dim_20 post v W L A B C D n x (nI i)) (fun n => ?_) (fun n i h t z => ?_) 217 0 (by omega) (by omega)⟩
  · exact br_t (nI_le (b := 216) (Nat.le_refl _) (by decide)) hp
  · refine br_f (nI_ge (b := 216) h (by decide)) ⟨lf_in h, ?_⟩
    rw [lf_c h]
    refine br_c (fun w => lf_yLight h hA hB (a12 i h) (b12 i h) ?_) fun w => nm_r (nI_1 i) (z fun q => w q.1)
    exact br_c (fun q => nm_r (nI_1 _) (nm_r (nI_1 i) (t ⟨w, q⟩))) fun q => nm_r (nI_1 i) (z fun q' => q q'.2)
theorem lf_ySha {post : Int32 → SY → Prop} {fa fb : Nat → Nat} {v : Int32} (hA : lf_eq A fa) (hB : lf_eq B fb) (a12 : ∀ c, c < 216 → fa c ≤ 12) (b12 : ∀ c, c < 216 → fb c ≤ 12) (hp : post (nI (lf_cn (lf_pSha W (fun c => max (fa c) (fb c)) v) 216)) (W, L, A, B, C, D)) : ∃ n, wY_shady_9 post v W L A B C D n 0 36 := by
  have key := lf_cnt (lf_pSha W (fun c => max (fa c) (fb c)) v) 216 (fun n x i => 36 ≤ i → wY_shady_9 post v W L A B C D n x (nI i)) (fun n _ => ?_) (fun n i h t z h36 => ?_) 217 36 (by omega) (by omega) (Nat.le_refl 36)
  · rw [lf_cn_0 (p := lf_pSha W (fun c => max (fa c) (fb c)) v) (n := 36) fun i hi q => absurd q.1 (by omega)] at key
    exact ⟨217, key⟩
  · exact br_t (nI_le (b := 216) (Nat.le_refl _) (by decide)) hp
  · have u216 : i - 36 < 216 := by omega
    refine br_f (nI_ge (b := 216) h (by decide)) ⟨lf_in h, ?_⟩
    rw [lf_c h]
    refine br_c (fun w => ?_) fun w => nm_r (nI_1 i) (z (fun q => w q.2.1) (by omega))
    rw [lf_s36 h36, lf_c u216]
    refine ⟨lf_in u216, br_c (fun w' => nm_r (nI_1 i) (z (fun q => q.2.2.1 w') (by omega))) fun w' => lf_yLight h hA hB (a12 i h) (b12 i h) ?_⟩
    exact br_c (fun q => nm_r (nI_1 i) (z (fun q' => q'.2.2.2 q) (by omega))) fun q => nm_r (nI_1 _) (nm_r (nI_1 i) (t ⟨h36, w, w', q⟩ (by omega)))
theorem lf_yOpen {post : Int32 → Prop} (hp : post (nI (lf_cn (lf_sky W) 216))) : wpY_open post (W, L, A, B, C, D) := by
  refine ⟨217, lf_cnt (lf_sky W) 216 (fun n x i => wY_open_4 post W L A B C D n x (nI i)) (fun n => ?_) (fun n i h t z => ?_) 217 0 (by omega) (by omega)⟩
  · exact br_t (nI_le (b := 216) (Nat.le_refl _) (by decide)) hp
  · exact br_f (nI_ge (b := 216) h (by decide)) (lf_ySky h (fun k => br_f lf_10 (nm_r (nI_1 _) (nm_r (nI_1 i) (t k)))) fun k => br_t rfl (nm_r (nI_1 i) (z k)))
theorem lf_ySrv {post : Int32 → SY → Prop} {f fa fb : Nat → Nat} (f12 : ∀ c, c < 216 → f c ≤ 12) (hD : lf_eq D f) (hA : lf_eq A fa) (hB : lf_eq B fb) (a12 : ∀ c, c < 216 → fa c ≤ 12) (b12 : ∀ c, c < 216 → fb c ≤ 12) (hp : post (nI (lf_cn (lf_pSrv f (fun c => max (fa c) (fb c))) 216)) (W, L, A, B, C, D)) : ∃ n, wY_serves_70 post W L A B C D n 0 0 := by
  refine ⟨217, lf_cnt (lf_pSrv f (fun c => max (fa c) (fb c))) 216 (fun n x i => wY_serves_70 post W L A B C D n x (nI i)) (fun n => ?_) (fun n i h t z => ?_) 217 0 (by omega) (by omega)⟩
  · exact br_t (nI_le (b := 216) (Nat.le_refl _) (by decide)) hp
  · refine br_f (nI_ge (b := 216) h (by decide)) (lf_yLight h hA hB (a12 i h) (b12 i h) ⟨lf_in h, ?_⟩)
    have a := f12 i h
    have b := a12 i h
    have c := b12 i h
    rw [lf_c h, hD i h]
    exact pk_le (f i) (max (fa i) (fb i)) (fun q => nm_r (nI_1 i) (z fun q' => q' q)) fun q => nm_r (nI_1 _) (nm_r (nI_1 i) (t (Nat.not_le_of_lt q)))
theorem lf_yFac {post : Int32 → Prop} (hp : post (nI (lf_cn (lf_pFac W) 1296))) : wpY_faces post (W, L, A, B, C, D) := by
  refine ⟨1297, lf_cnt (lf_pFac W) 1296 (fun n x k => wY_faces_4 post W L A B C D n x (nI k)) (fun n => ?_) (fun n k h t z => ?_) 1297 0 (by omega) (by omega)⟩
  · exact br_t (nI_le (b := 1296) (Nat.le_refl _) (by decide)) hp
  · have c216 : k / 6 < 216 := by omega
    refine br_f (nI_ge (b := 1296) h (by decide)) ⟨by decide, by decide, ?_⟩
    rw [lf_r6 (c := k) (by omega), lf_d6 (c := k) (by omega), lf_c c216]
    refine lf_yNb c216 (by omega) (fun e => ⟨by decide, lf_in c216, ?_⟩) fun d e => ⟨by decide, lf_in c216, ?_⟩
    · exact br_c (fun w => nm_r (nI_1 k) (z fun q => q.1 w)) fun w => br_t (by decide) (nm_r (nI_1 _) (nm_r (nI_1 k) (t ⟨w, lf_br_n e⟩)))
    · have d216 := lf_adj_in c216 (lf_adj_m e)
      refine br_c (fun w => nm_r (nI_1 k) (z fun q => q.1 w)) fun w => br_f (nI_pos (by omega)) ⟨lf_in d216, ?_⟩
      rw [lf_c d216]
      exact br_c (fun w' => nm_r (nI_1 _) (nm_r (nI_1 k) (t ⟨w, (lf_br_s e).mpr w'⟩))) fun w' => nm_r (nI_1 k) (z fun q => w' ((lf_br_s e).mp q.2))
theorem lf_yF52 {post : Int32 → SY → Prop} {J : Int32 → Int32 → (Nat → Int32) → (Nat → Int32) → (Nat → Int32) → (Nat → Int32) → (Nat → Int32) → (Nat → Int32) → Prop} {x1 x2 x3 x z : Int32} {c : Nat} (hc : c < 216) (hz : x3 = 0 ∧ z = 0 ∨ ¬ x3 = 0 ∧ z = 1) (h0 : W c = z → J x (nI (c + 1)) W L A B C D) (h1 : ¬ W c = z → J (x + 1) (nI (c + 1)) (upd W c z) L A B C D) : wY_fill_52 post J x1 x2 x3 x (nI c) z (W c) W L A B C D := by
  unfold wY_fill_52
  refine br_c (fun e => nm_r (nI_1 c) (h0 e)) fun e => ?_
  rcases hz with ⟨e3, rfl⟩ | ⟨e3, rfl⟩
  · exact br_t e3 ⟨lf_in hc, nm_r (e' := upd W c 0) (by rw [lf_c hc, lf_b0]) (nm_e (nm_r (nI_1 c) (h1 e)))⟩
  · exact br_f e3 ⟨lf_in hc, nm_r (e' := upd W c 1) (by rw [lf_c hc, lf_b1]) (nm_e (nm_r (nI_1 c) (h1 e)))⟩
def lf_fl (f : Int32) (P : Prop) : Prop := f = 1 ∧ P ∨ f = 0 ∧ ¬ P
theorem lf_ySh127 {post : Int32 → SY → Prop} {J : Int32 → Int32 → (Nat → Int32) → (Nat → Int32) → (Nat → Int32) → (Nat → Int32) → (Nat → Int32) → (Nat → Int32) → Prop} {x f1 f2 f3 : Int32} {a b c : Nat} {P R S : Prop} (hc : c < 216) (ha : a < 216) (hb : b < 216) (h1 : lf_fl f1 P) (h2 : lf_fl f2 R) (h3 : lf_fl f3 S) (y : (lf_le a c ∧ lf_le c b) ∧ W c = 0 ∧ (P ∨ R ∨ S) → J (x + 1) (nI (c + 1)) (upd W c 1) L A B C D) (no : ¬ ((lf_le a c ∧ lf_le c b) ∧ W c = 0 ∧ (P ∨ R ∨ S)) → J x (nI (c + 1)) W L A B C D) : wY_shell_127 post J (nI a) (nI b) x (nI c) f1 f2 f3 W L A B C D := by
  unfold wY_shell_127
  refine lf_yBox hc ha hb (fun k => br_f lf_10 ⟨lf_in hc, ?_⟩) fun k => br_t rfl (nm_r (nI_1 c) (no fun z => k z.1))
  rw [lf_c hc]
  refine br_c (fun w => ?_) fun w => nm_r (nI_1 c) (no fun z => w z.2.1)
  have g : (P ∨ R ∨ S) → wY_shell_168 post J (nI a) (nI b) x (nI c) W L A B C D := fun p => ⟨lf_in hc, nm_r (e' := upd W c 1) (by rw [lf_c hc, lf_b1]) (nm_e (nm_r (nI_1 c) (y ⟨k, w, p⟩)))⟩
  rcases h1 with ⟨rfl, p⟩ | ⟨rfl, p⟩
  · exact br_f lf_10 (g (Or.inl p))
  refine br_t rfl ?_
  rcases h2 with ⟨rfl, q⟩ | ⟨rfl, q⟩
  · exact br_f lf_10 (g (Or.inr (Or.inl q)))
  refine br_t rfl ?_
  rcases h3 with ⟨rfl, s⟩ | ⟨rfl, s⟩
  · exact br_f lf_10 (g (Or.inr (Or.inr s)))
  exact br_t rfl (nm_r (nI_1 c) (no fun z => z.2.2.elim p fun z => z.elim q s))
theorem lf_ySh96 {post : Int32 → SY → Prop} {J : Int32 → Int32 → (Nat → Int32) → (Nat → Int32) → (Nat → Int32) → (Nat → Int32) → (Nat → Int32) → (Nat → Int32) → Prop} {x f1 f2 : Int32} {a b c : Nat} {P R : Prop} (hc : c < 216) (ha : a < 216) (hb : b < 216) (h1 : lf_fl f1 P) (h2 : lf_fl f2 R) (y : (lf_le a c ∧ lf_le c b) ∧ W c = 0 ∧ (P ∨ R ∨ (c / 36 = a / 36 ∨ c / 36 = b / 36)) → J (x + 1) (nI (c + 1)) (upd W c 1) L A B C D) (no : ¬ ((lf_le a c ∧ lf_le c b) ∧ W c = 0 ∧ (P ∨ R ∨ (c / 36 = a / 36 ∨ c / 36 = b / 36))) → J x (nI (c + 1)) W L A B C D) : wY_shell_96 post J (nI a) (nI b) x (nI c) f1 f2 W L A B C D := by
  unfold wY_shell_96
  refine ⟨by decide, by decide, pk_eq (c / 36) (a / 36) (fun e => ?_) (fun e => ⟨by decide, by decide, pk_eq (c / 36) (b / 36) (fun e' => ?_) (fun e' => ?_) (lf_z36 (by omega)) (lf_z36 (by omega))⟩) (lf_z36 (by omega)) (lf_z36 (by omega))⟩
  · unfold wY_shell_122
    exact lf_ySh127 hc ha hb h1 h2 (Or.inl ⟨rfl, Or.inl e⟩) y no
  · unfold wY_shell_122
    exact lf_ySh127 hc ha hb h1 h2 (Or.inl ⟨rfl, Or.inr e'⟩) y no
  · exact lf_ySh127 hc ha hb h1 h2 (Or.inr ⟨rfl, fun z => z.elim e e'⟩) y no
theorem lf_ySh53 {post : Int32 → SY → Prop} {J : Int32 → Int32 → (Nat → Int32) → (Nat → Int32) → (Nat → Int32) → (Nat → Int32) → (Nat → Int32) → (Nat → Int32) → Prop} {x f1 : Int32} {a b c : Nat} {P : Prop} (hc : c < 216) (ha : a < 216) (hb : b < 216) (h1 : lf_fl f1 P) (y : (lf_le a c ∧ lf_le c b) ∧ W c = 0 ∧ (P ∨ (c / 6 % 6 = a / 6 % 6 ∨ c / 6 % 6 = b / 6 % 6) ∨ (c / 36 = a / 36 ∨ c / 36 = b / 36)) → J (x + 1) (nI (c + 1)) (upd W c 1) L A B C D) (no : ¬ ((lf_le a c ∧ lf_le c b) ∧ W c = 0 ∧ (P ∨ (c / 6 % 6 = a / 6 % 6 ∨ c / 6 % 6 = b / 6 % 6) ∨ (c / 36 = a / 36 ∨ c / 36 = b / 36))) → J x (nI (c + 1)) W L A B C D) : wY_shell_53 post J (nI a) (nI b) x (nI c) f1 W L A B C D := by
  unfold wY_shell_53
  refine ⟨by decide, by decide, by decide, by decide, pk_eq (c / 6 % 6) (a / 6 % 6) (fun e => ?_) (fun e => ⟨by decide, by decide, by decide, by decide, pk_eq (c / 6 % 6) (b / 6 % 6) (fun e' => ?_) (fun e' => ?_) (lf_y6 (by omega)) (lf_y6 (by omega))⟩) (lf_y6 (by omega)) (lf_y6 (by omega))⟩
  · unfold wY_shell_91
    exact lf_ySh96 hc ha hb h1 (Or.inl ⟨rfl, Or.inl e⟩) y no
  · unfold wY_shell_91
    exact lf_ySh96 hc ha hb h1 (Or.inl ⟨rfl, Or.inr e'⟩) y no
  · exact lf_ySh96 hc ha hb h1 (Or.inr ⟨rfl, fun z => z.elim e e'⟩) y no
theorem lf_ySh16 {post : Int32 → SY → Prop} {x : Int32} {a b c n : Nat} (hc : c < 216) (ha : a < 216) (hb : b < 216) (y : (lf_le a c ∧ lf_le c b) ∧ W c = 0 ∧ lf_end c a b → wY_shell_16 post (nI a) (nI b) n (x + 1) (nI (c + 1)) (upd W c 1) L A B C D) (no : ¬ ((lf_le a c ∧ lf_le c b) ∧ W c = 0 ∧ lf_end c a b) → wY_shell_16 post (nI a) (nI b) n x (nI (c + 1)) W L A B C D) : wY_shell_16 post (nI a) (nI b) (n + 1) x (nI c) W L A B C D := by
  have en : lf_end c a b ↔ (c % 6 = a % 6 ∨ c % 6 = b % 6) ∨ (c / 6 % 6 = a / 6 % 6 ∨ c / 6 % 6 = b / 6 % 6) ∨ (c / 36 = a / 36 ∨ c / 36 = b / 36) := by
    unfold lf_end
    omega
  rw [en] at y no
  refine br_f (nI_ge (b := 216) hc (by decide)) ⟨by decide, by decide, pk_eq (c % 6) (a % 6) (fun e => ?_) (fun e => ⟨by decide, by decide, pk_eq (c % 6) (b % 6) (fun e' => ?_) (fun e' => ?_) (lf_r6 (by omega)) (lf_r6 (by omega))⟩) (lf_r6 (by omega)) (lf_r6 (by omega))⟩
  · unfold wY_shell_48
    exact lf_ySh53 hc ha hb (Or.inl ⟨rfl, Or.inl e⟩) y no
  · unfold wY_shell_48
    exact lf_ySh53 hc ha hb (Or.inl ⟨rfl, Or.inr e'⟩) y no
  · exact lf_ySh53 hc ha hb (Or.inr ⟨rfl, fun z => z.elim e e'⟩) y no
end
/-! both sides at once: fill, shell, darkest -/
theorem lf_01U {W : Nat → Int32} {c : Nat} {z : Int32} (h : ∀ c, W c = 0 ∨ W c = 1) (hz : z = 0 ∨ z = 1) : ∀ x, upd W c z x = 0 ∨ upd W c z x = 1 := by
  intro x
  by_cases e : x = c
  · rw [e, pk_us]
    exact hz
  · rw [pk_un e]
    exact h x
theorem lf_fill {a b : Nat} {x3 z : Int32} (ha : a < 216) (hb : b < 216) (hz : x3 = 0 ∧ z = 0 ∨ ¬ x3 = 0 ∧ z = 1) : ∀ (d j : Nat) (x : Int32) (W : Nat → Int32), j + d = 216 → (∀ c, W c = 0 ∨ W c = 1) → ∃ (r : Int32) (W' : Nat → Int32), (∀ c, W' c = 0 ∨ W' c = 1) ∧ (∀ (post : Int32 → SX → Prop) (L G H V Q : Nat → Int32), post r (W', L, G, H, V, Q) → wX_fill_16 post (nI a) (nI b) x3 (d + 1) x (nI j) W L G H V Q) ∧ ∀ (post : Int32 → SY → Prop) (L A B C D : Nat → Int32), post r (W', L, A, B, C, D) → wY_fill_17 post (nI a) (nI b) x3 (d + 1) x (nI j) W L A B C D := by
  have z01 : z = 0 ∨ z = 1 := hz.elim (fun k => Or.inl k.2) fun k => Or.inr k.2
  have zn : vp_nar .boolean z = z := by
    rcases z01 with rfl | rfl
    · exact lf_b0
    · exact lf_b1
  intro d
  induction d with
  | zero =>
    intro j x W hj hW
    have e : j = 216 := by omega
    subst e
    exact ⟨x, W, hW, fun post L G H V Q hp => br_t (nI_le (b := 216) (Nat.le_refl _) (by decide)) hp, fun post L A B C D hp => br_t (nI_le (b := 216) (Nat.le_refl _) (by decide)) hp⟩
  | succ d ih =>
    intro j x W hj hW
    have h : j < 216 := by omega
    by_cases bx : lf_le a j ∧ lf_le j b
    · have stepX : ∀ (post : Int32 → SX → Prop) (L G H V Q : Nat → Int32), (W j = z → wX_fill_16 post (nI a) (nI b) x3 (d + 1) x (nI (j + 1)) W L G H V Q) → (¬ W j = z → wX_fill_16 post (nI a) (nI b) x3 (d + 1) (x + 1) (nI (j + 1)) (upd W j z) L G H V Q) → wX_fill_16 post (nI a) (nI b) x3 (d + 1 + 1) x (nI j) W L G H V Q := by
        intro post L G H V Q h0 h1
        refine br_f (nI_ge (b := 216) h (by decide)) (lf_xBox h ha hb (fun _ => br_f lf_10 ?_) fun k => absurd bx k)
        rcases hz with ⟨e3, rfl⟩ | ⟨e3, rfl⟩
        · exact br_t e3 (lf_xF48 h zn h0 h1)
        · exact br_f e3 (lf_xF48 h zn h0 h1)
      have stepY : ∀ (post : Int32 → SY → Prop) (L A B C D : Nat → Int32), (W j = z → wY_fill_17 post (nI a) (nI b) x3 (d + 1) x (nI (j + 1)) W L A B C D) → (¬ W j = z → wY_fill_17 post (nI a) (nI b) x3 (d + 1) (x + 1) (nI (j + 1)) (upd W j z) L A B C D) → wY_fill_17 post (nI a) (nI b) x3 (d + 1 + 1) x (nI j) W L A B C D := by
        intro post L A B C D h0 h1
        refine br_f (nI_ge (b := 216) h (by decide)) (lf_yBox h ha hb (fun _ => br_f lf_10 ⟨lf_in h, ?_⟩) fun k => absurd bx k)
        rw [lf_c h]
        have hz' := hz
        rcases hz with ⟨e3, rfl⟩ | ⟨e3, rfl⟩
        · exact br_t e3 (lf_yF52 h hz' h0 h1)
        · exact br_f e3 (lf_yF52 h hz' h0 h1)
      by_cases e : W j = z
      · obtain ⟨r, W', k1, k2, k3⟩ := ih (j + 1) x W (by omega) hW
        exact ⟨r, W', k1, fun post L G H V Q hp => stepX post L G H V Q (fun _ => k2 post L G H V Q hp) fun n => absurd e n, fun post L A B C D hp => stepY post L A B C D (fun _ => k3 post L A B C D hp) fun n => absurd e n⟩
      · obtain ⟨r, W', k1, k2, k3⟩ := ih (j + 1) (x + 1) (upd W j z) (by omega) (lf_01U hW z01)
        exact ⟨r, W', k1, fun post L G H V Q hp => stepX post L G H V Q (fun y => absurd y e) fun _ => k2 post L G H V Q hp, fun post L A B C D hp => stepY post L A B C D (fun y => absurd y e) fun _ => k3 post L A B C D hp⟩
    · obtain ⟨r, W', k1, k2, k3⟩ := ih (j + 1) x W (by omega) hW
      exact ⟨r, W', k1, fun post L G H V Q hp => br_f (nI_ge (b := 216) h (by decide)) (lf_xBox h ha hb (fun k => absurd k bx) fun _ => br_t rfl (nm_r (nI_1 j) (k2 post L G H V Q hp))), fun post L A B C D hp => br_f (nI_ge (b := 216) h (by decide)) (lf_yBox h ha hb (fun k => absurd k bx) fun _ => br_t rfl (nm_r (nI_1 j) (k3 post L A B C D hp)))⟩
theorem lf_shell {a b : Nat} (ha : a < 216) (hb : b < 216) : ∀ (d j : Nat) (x : Int32) (W : Nat → Int32), j + d = 216 → (∀ c, W c = 0 ∨ W c = 1) → ∃ (r : Int32) (W' : Nat → Int32), (∀ c, W' c = 0 ∨ W' c = 1) ∧ (∀ (post : Int32 → SX → Prop) (L G H V Q : Nat → Int32), post r (W', L, G, H, V, Q) → wX_shell_15 post (nI a) (nI b) (d + 1) x (nI j) W L G H V Q) ∧ ∀ (post : Int32 → SY → Prop) (L A B C D : Nat → Int32), post r (W', L, A, B, C, D) → wY_shell_16 post (nI a) (nI b) (d + 1) x (nI j) W L A B C D := by
  intro d
  induction d with
  | zero =>
    intro j x W hj hW
    have e : j = 216 := by omega
    subst e
    exact ⟨x, W, hW, fun post L G H V Q hp => br_t (nI_le (b := 216) (Nat.le_refl _) (by decide)) hp, fun post L A B C D hp => br_t (nI_le (b := 216) (Nat.le_refl _) (by decide)) hp⟩
  | succ d ih =>
    intro j x W hj hW
    have h : j < 216 := by omega
    have stepX : ∀ (post : Int32 → SX → Prop) (L G H V Q : Nat → Int32), (¬ ((lf_le a j ∧ lf_le j b) ∧ W j = 0 ∧ lf_end j a b) → wX_shell_15 post (nI a) (nI b) (d + 1) x (nI (j + 1)) W L G H V Q) → ((lf_le a j ∧ lf_le j b) ∧ W j = 0 ∧ lf_end j a b → wX_shell_15 post (nI a) (nI b) (d + 1) (x + 1) (nI (j + 1)) (upd W j 1) L G H V Q) → wX_shell_15 post (nI a) (nI b) (d + 1 + 1) x (nI j) W L G H V Q := by
      intro post L G H V Q h0 h1
      refine br_f (nI_ge (b := 216) h (by decide)) (lf_xBox h ha hb (fun k => br_f lf_10 (lf_xEnd h ha hb (fun k' => br_f lf_10 (lf_xMk h lf_b1 (fun e => nm_r (Int32.add_zero x) (nm_r (nI_1 j) (h0 fun q => ?_))) fun e => nm_e (nm_r (nI_1 j) (h1 ⟨k, (hW j).resolve_right e, k'⟩)))) fun k' => br_t rfl (nm_r (nI_1 j) (h0 fun q => k' q.2.2)))) fun k => br_t rfl (nm_r (nI_1 j) (h0 fun q => k q.1)))
      exact lf_10 (e.symm.trans q.2.1)
    by_cases e : (lf_le a j ∧ lf_le j b) ∧ W j = 0 ∧ lf_end j a b
    · obtain ⟨r, W', k1, k2, k3⟩ := ih (j + 1) (x + 1) (upd W j 1) (by omega) (lf_01U hW (Or.inr rfl))
      exact ⟨r, W', k1, fun post L G H V Q hp => stepX post L G H V Q (fun n => absurd e n) fun _ => k2 post L G H V Q hp, fun post L A B C D hp => lf_ySh16 h ha hb (fun _ => k3 post L A B C D hp) fun n => absurd e n⟩
    · obtain ⟨r, W', k1, k2, k3⟩ := ih (j + 1) x W (by omega) hW
      exact ⟨r, W', k1, fun post L G H V Q hp => stepX post L G H V Q (fun _ => k2 post L G H V Q hp) fun y => absurd y e, fun post L A B C D hp => lf_ySh16 h ha hb (fun y => absurd y e) fun _ => k3 post L A B C D hp⟩
theorem lf_dark {W : Nat → Int32} {fa fb : Nat → Nat} (a12 : ∀ c, c < 216 → fa c ≤ 12) (b12 : ∀ c, c < 216 → fb c ≤ 12) : ∀ (d j : Nat) (x1 x2 : Int32), j + d = 216 → (x1 = -1 ∧ x2 = nI 13 ∨ ∃ c, c < 216 ∧ x1 = nI c ∧ x2 = nI (max (fa c) (fb c))) → ∃ r : Int32, (∀ (post : Int32 → SX → Prop) (L G H V Q : Nat → Int32), lf_eq G (fun c => max (fa c) (fb c)) → post r (W, L, G, H, V, Q) → wX_darkest_16 post W L G H V Q (d + 1) x1 x2 (nI j)) ∧ ∀ (post : Int32 → SY → Prop) (L A B C D : Nat → Int32), lf_eq A fa → lf_eq B fb → post r (W, L, A, B, C, D) → wY_darkest_8 post W L A B C D (d + 1) x1 (nI j) := by
  intro d
  induction d with
  | zero =>
    intro j x1 x2 hj _
    have e : j = 216 := by omega
    subst e
    exact ⟨x1, fun post L G H V Q _ hp => br_t (nI_le (b := 216) (Nat.le_refl _) (by decide)) hp, fun post L A B C D _ _ hp => br_t (nI_le (b := 216) (Nat.le_refl _) (by decide)) hp⟩
  | succ d ih =>
    intro j x1 x2 hj hx
    have h : j < 216 := by omega
    have m12 : ∀ c, c < 216 → max (fa c) (fb c) ≤ 12 := fun c hc => by
      have := a12 c hc
      have := b12 c hc
      omega
    by_cases w : W j = 0
    · have stepX : ∀ (post : Int32 → SX → Prop) (L G H V Q : Nat → Int32) (v : Nat), v < 14 → x2 = nI v → lf_eq G (fun c => max (fa c) (fb c)) → (v ≤ max (fa j) (fb j) → wX_darkest_16 post W L G H V Q (d + 1) x1 x2 (nI (j + 1))) → (max (fa j) (fb j) < v → wX_darkest_16 post W L G H V Q (d + 1) (nI j) (nI (max (fa j) (fb j))) (nI (j + 1))) → wX_darkest_16 post W L G H V Q (d + 1 + 1) x1 x2 (nI j) := by
        intro post L G H V Q v hv ev hG h0 h1
        have q := m12 j h
        have gj : G (nI j).toNatClampNeg = nI (max (fa j) (fb j)) := by
          rw [lf_c h]
          exact hG j h
        exact br_f (nI_ge (b := 216) h (by decide)) (lf_xFree h (fun _ => br_f lf_10 ⟨lf_in h, pk_le v (max (fa j) (fb j)) (fun k => nm_r (nI_1 j) (h0 k)) (fun k => ⟨lf_in h, nm_r gj (nm_r (nI_1 j) (h1 k))⟩) ev gj⟩) fun n => absurd w n)
      rcases hx with ⟨e1, e2⟩ | ⟨c, hc, e1, e2⟩
      · have q := m12 j h
        obtain ⟨r, k2, k3⟩ := ih (j + 1) (nI j) (nI (max (fa j) (fb j))) (by omega) (Or.inr ⟨j, h, rfl, rfl⟩)
        refine ⟨r, fun post L G H V Q hG hp => stepX post L G H V Q 13 (by omega) e2 hG (fun k => by omega) fun _ => k2 post L G H V Q hG hp, fun post L A B C D hA hB hp => br_f (nI_ge (b := 216) h (by decide)) ⟨lf_in h, ?_⟩⟩
        rw [lf_c h]
        exact br_t w (br_t (by rw [e1]; decide) (nm_r (nI_1 j) (k3 post L A B C D hA hB hp)))
      · have qc := m12 c hc
        have qj := m12 j h
        have stepY : ∀ (post : Int32 → SY → Prop) (L A B C D : Nat → Int32), lf_eq A fa → lf_eq B fb → (max (fa c) (fb c) ≤ max (fa j) (fb j) → wY_darkest_8 post W L A B C D (d + 1) x1 (nI (j + 1))) → (max (fa j) (fb j) < max (fa c) (fb c) → wY_darkest_8 post W L A B C D (d + 1) (nI j) (nI (j + 1))) → wY_darkest_8 post W L A B C D (d + 1 + 1) x1 (nI j) := by
          intro post L A B C D hA hB h0 h1
          refine br_f (nI_ge (b := 216) h (by decide)) ⟨lf_in h, ?_⟩
          rw [lf_c h, e1] at *
          exact br_t w (br_f (nI_pos (by omega)) (lf_yLight h hA hB (a12 j h) (b12 j h) (lf_yLight hc hA hB (a12 c hc) (b12 c hc) (pk_le (max (fa c) (fb c)) (max (fa j) (fb j)) (fun k => nm_r (nI_1 j) (h0 k)) fun k => nm_r (nI_1 j) (h1 k)))))
        by_cases lt : max (fa j) (fb j) < max (fa c) (fb c)
        · obtain ⟨r, k2, k3⟩ := ih (j + 1) (nI j) (nI (max (fa j) (fb j))) (by omega) (Or.inr ⟨j, h, rfl, rfl⟩)
          exact ⟨r, fun post L G H V Q hG hp => stepX post L G H V Q _ (by omega) e2 hG (fun k => by omega) fun _ => k2 post L G H V Q hG hp, fun post L A B C D hA hB hp => stepY post L A B C D hA hB (fun k => by omega) fun _ => k3 post L A B C D hA hB hp⟩
        · obtain ⟨r, k2, k3⟩ := ih (j + 1) x1 x2 (by omega) (Or.inr ⟨c, hc, e1, e2⟩)
          exact ⟨r, fun post L G H V Q hG hp => stepX post L G H V Q _ (by omega) e2 hG (fun _ => k2 post L G H V Q hG hp) fun k => absurd k lt, fun post L A B C D hA hB hp => stepY post L A B C D hA hB (fun _ => k3 post L A B C D hA hB hp) fun k => absurd k lt⟩
    · obtain ⟨r, k2, k3⟩ := ih (j + 1) x1 x2 (by omega) hx
      refine ⟨r, fun post L G H V Q hG hp => br_f (nI_ge (b := 216) h (by decide)) (lf_xFree h (fun y => absurd y w) fun _ => br_t rfl (nm_r (nI_1 j) (k2 post L G H V Q hG hp))), fun post L A B C D hA hB hp => br_f (nI_ge (b := 216) h (by decide)) ⟨lf_in h, ?_⟩⟩
      rw [lf_c h]
      exact br_f w (nm_r (nI_1 j) (k3 post L A B C D hA hB hp))
