/-! ===== memory, functional terms ===== -/
abbrev MM : Type := (Nat → Nat → Int32) × (Nat → Nat → Int64) × Option (Fin 23)
abbrev PP (α : Type) : Type := MM → Option (α × MM)
def up2 {α : Type} (f : Nat → Nat → α) (a k : Nat) (x : α) : Nat → Nat → α := fun b j => if b = a ∧ j = k then x else f b j
def pu {α : Type} (a : α) : PP α := fun σ => some (a, σ)
def fl {α : Type} : PP α := fun _ => none
def bd {α β : Type} (c : PP α) (k : α → PP β) : PP β := fun σ => match c σ with
  | none => none
  | some r => k r.1 r.2
def lt {α β : Type} (e : α) (k : α → PP β) : PP β := k e
def jn {α β γ : Type} (f : α → PP γ) (k : (α → PP γ) → PP β) : PP β := k f
def gI (a j : Nat) : PP Int32 := fun σ => some (σ.1 a j, σ)
def gL (a j : Nat) : PP Int64 := fun σ => some (σ.2.1 a j, σ)
def gW : PP (Option (Fin 23)) := fun σ => some (σ.2.2, σ)
def sI (a j : Nat) (x : Int32) : PP Unit := fun σ => some ((), (up2 σ.1 a j x, σ.2))
def sL (a j : Nat) (x : Int64) : PP Unit := fun σ => some ((), (σ.1, up2 σ.2.1 a j x, σ.2.2))
def sW (w : Option (Fin 23)) : PP Unit := fun σ => some ((), (σ.1, σ.2.1, w))
def ib (i : Int32) (n : Nat) : Bool := decide (¬ i < 0) && decide (i.toNatClampNeg < n)
def aI (a n : Nat) (i : Int32) : PP Int32 := fun σ => if ib i n = true then some (σ.1 a i.toNatClampNeg, σ) else none
def aL (a n : Nat) (i : Int32) : PP Int64 := fun σ => if ib i n = true then some (σ.2.1 a i.toNatClampNeg, σ) else none
def uI (a n : Nat) (i x : Int32) : PP Unit := fun σ => if ib i n = true then some ((), (up2 σ.1 a i.toNatClampNeg x, σ.2)) else none
def uL (a n : Nat) (i : Int32) (x : Int64) : PP Unit := fun σ => if ib i n = true then some ((), (σ.1, up2 σ.2.1 a i.toNatClampNeg x, σ.2.2)) else none
/-- a test that must be so -/
def gd (c : Prop) [Decidable c] : PP Unit := fun σ => if c then some ((), σ) else none
def zb (x : Int32) : PP Bool := fun σ => if x = 0 then some (false, σ) else if x = 1 then some (true, σ) else none
def b2i (b : Bool) : Int32 := if b then 1 else 0
def it {α β : Type} (body : α → PP (α ⊕ β)) : Nat → α → PP β
  | 0, _ => fl
  | n + 1, a => bd (body a) (Sum.elim (it body n) pu)
def enI (x : Int32) : Option Value := some (.int x)
def enZ (x : Bool) : Option Value := some (.int (b2i x))
def enL (x : Int64) : Option Value := some (.long x)
def enU (_ : Unit) : Option Value := none
theorem ib_in {i : Int32} {n : Nat} (h : ib i n = true) : vp_in i n := by
  unfold ib at h
  simp only [Bool.and_eq_true, decide_eq_true_eq] at h
  intro q
  rcases q with q | q
  · exact h.1 q
  · omega
theorem bd_as {α β γ : Type} (c : PP α) (f : α → PP β) (k : β → PP γ) : bd (bd c f) k = bd c (fun x => bd (f x) k) := by
  funext σ
  unfold bd
  cases c σ <;> rfl
theorem bd_pu {α : Type} (c : PP α) : bd c pu = c := by
  funext σ
  unfold bd pu
  cases c σ <;> rfl
/-! ===== the machine's picture of a memory ===== -/
/-- tables of classes, the first cell's address, classes of arrays, addresses of constants -/
abbrev KK : Type := va_G × Nat × (Nat → ClassId) × (Nat → Nat)
def AA (K : KK) : Nat → Prop := fun q => K.2.1 ≤ q
def wr (K : KK) (w : Option (Fin 23)) : Value := va_re K.2.2.2 (w.map Fin.val)
def fv (K : KK) (σ : MM) (c a j : Nat) : Value := match fty c j with
  | 0 => .int (σ.1 a j)
  | 1 => .long (σ.2.1 a j)
  | 2 => .ref (K.2.1 + rf a j)
  | _ => wr K σ.2.2
def aty (t : Nat) : FieldType := match t with
  | 0 => .int
  | 1 => .long
  | 2 => .char
  | 3 => .boolean
  | 4 => .object RX4
  | 5 => .object RX1
  | _ => .array .int
def tys (K : KK) : List (ClassId × FieldType) := [(K.2.2.1 0, .int), (K.2.2.1 1, .long), (K.2.2.1 2, .char), (K.2.2.1 3, .boolean), (K.2.2.1 4, .object RX4), (K.2.2.1 5, .object RX1), (K.2.2.1 6, .array .int)]
def ca (K : KK) (σ : MM) (a t n : Nat) : va_E := match t with
  | 0 => .inl (K.2.2.1 0, n, .inl (fun j => σ.1 a j))
  | 1 => .inl (K.2.2.1 1, n, .inr (.inl (fun j => σ.2.1 a j)))
  | 2 => .inl (K.2.2.1 2, n, .inl (fun j => σ.1 a j))
  | 3 => .inl (K.2.2.1 3, n, .inl (fun j => σ.1 a j))
  | t => .inl (K.2.2.1 t, n, .inr (.inr (.inr (.inr (fun j => some (K.2.1 + rf a j))))))
def ce (K : KK) (σ : MM) (a : Nat) : va_E := if (sh a).1 < 100 then .inr ((sh a).1, (List.range (nfd (sh a).1)).map (fv K σ (sh a).1 a)) else ca K σ a ((sh a).1 - 100) (sh a).2
def wl (K : KK) (n : Nat) (σ : MM) : va_W := (List.range n).map (fun a => (K.2.1 + a, ce K σ a))
theorem wl_at {K : KK} {n a : Nat} {σ : MM} (h : a < n) : (wl K n σ)[a]? = some (K.2.1 + a, ce K σ a) := by
  simp [wl, h]
theorem wl_len {K : KK} {n : Nat} {σ : MM} : (wl K n σ).length = n := by simp [wl]
theorem ce_ob {K : KK} {σ : MM} {a c : Nat} (h : ob a c) (hc : c < 100) : ce K σ a = .inr (c, (List.range (nfd c)).map (fv K σ c a)) := by
  unfold ce
  rw [h.2, if_pos hc]
theorem ce_ar {K : KK} {σ : MM} {a t n : Nat} (h : ar a t n) : ce K σ a = ca K σ a t n := by
  unfold ce
  rw [h.2, if_neg (by show ¬ 100 + t < 100; omega)]
  show ca K σ a (100 + t - 100) n = _
  rw [Nat.add_sub_cancel_left]
theorem wl_D (K : KK) (n : Nat) (σ : MM) : va_D (AA K) (wl K n σ) := by
  refine ⟨fun i j p q hi hj e => ?_, fun k q hk => ?_⟩
  · have h1 : i < n := by have := (List.getElem?_eq_some_iff.mp hi).1; rwa [wl_len] at this
    have h2 : j < n := by have := (List.getElem?_eq_some_iff.mp hj).1; rwa [wl_len] at this
    rw [wl_at h1] at hi
    rw [wl_at h2] at hj
    cases hi
    cases hj
    simp only at e
    omega
  · have h1 : k < n := by have := (List.getElem?_eq_some_iff.mp hk).1; rwa [wl_len] at this
    rw [wl_at h1] at hk
    cases hk
    exact Nat.le_add_right _ _
/-- a change of one cell alone -/
theorem wl_set {K : KK} {n a : Nat} {σ σ' : MM} {E : va_E} (h : a < n) (he : ce K σ' a = E) (ho : ∀ b, b < n → b ≠ a → ce K σ' b = ce K σ b) : (wl K n σ).set a (K.2.1 + a, E) = wl K n σ' := by
  apply List.ext_getElem?
  intro j
  rw [List.getElem?_set]
  by_cases hj : j < n
  · by_cases e : a = j
    · subst e
      rw [if_pos rfl, if_pos (by rw [wl_len]; exact h), wl_at h, he]
    · rw [if_neg e, wl_at hj, wl_at hj, ho j hj (fun q => e q.symm)]
  · rw [List.getElem?_eq_none (by rw [wl_len]; omega : (wl K n σ').length ≤ j)]
    have : (wl K n σ)[j]? = none := List.getElem?_eq_none (by rw [wl_len]; omega)
    by_cases e : a = j
    · omega
    · rw [if_neg e, this]
theorem ce_oI {K : KK} {σ : MM} {a b k : Nat} {x : Int32} (hb : b ≠ a) : ce K (up2 σ.1 a k x, σ.2) b = ce K σ b := by
  have e : ∀ j, up2 σ.1 a k x b j = σ.1 b j := fun j => by simp [up2, hb]
  have e2 : ∀ c : Nat, fv K (up2 σ.1 a k x, σ.2) c b = fv K σ c b := fun c => by
    funext j
    unfold fv
    simp only [e]
  unfold ce ca
  simp only [e, e2]
theorem ce_oL {K : KK} {σ : MM} {a b k : Nat} {x : Int64} (hb : b ≠ a) : ce K (σ.1, up2 σ.2.1 a k x, σ.2.2) b = ce K σ b := by
  have e : ∀ j, up2 σ.2.1 a k x b j = σ.2.1 b j := fun j => by simp [up2, hb]
  have e2 : ∀ c : Nat, fv K (σ.1, up2 σ.2.1 a k x, σ.2.2) c b = fv K σ c b := fun c => by
    funext j
    unfold fv
    simp only [e]
  unfold ce ca
  simp only [e, e2]
theorem sh5 : ∀ a, a < 271 → sh a = (5, 0) → a = 1 := by decide +kernel
theorem fty3 : ∀ c, c < 100 → ∀ j, j < nfd c → fty c j ≠ 0 → fty c j ≠ 1 → fty c j ≠ 2 → c = 5 := by decide +kernel
theorem fst_set {α : Type} {f g : Nat → α} {N k : Nat} {v : α} (hk : k < N) (hv : g k = v) (ho : ∀ j, j < N → j ≠ k → g j = f j) : ((List.range N).map f).set k v = (List.range N).map g := by
  apply List.ext_getElem?
  intro j
  rw [List.getElem?_set]
  by_cases hj : j < N
  · by_cases e : k = j
    · subst e
      simp [hk, hv]
    · simp [e, hj, ho j hj (fun q => e q.symm)]
  · by_cases e : k = j
    · omega
    · simp [e, hj]
