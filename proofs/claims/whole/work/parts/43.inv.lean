/-! ===== all that is kept ===== -/
abbrev TO : Type := Nat × (Nat → Nat → Int32)
/-- a sky, what is wanted, what is told -/
abbrev MK : Type := SK × (Nat → Int32) × TO
/-- street; now; past; plan; marks; tape; names -/
abbrev AB : Type := TW × MK × (Nat × (Nat → SK)) × TO × ((Nat → Bool) × (Nat → MK)) × (Nat × (Nat → Int32)) × (Nat → Nat → List Nat)
def CWa (a : Nat) (W : Nat → Int32) (σ : MM) : Prop := ∀ p, p < 4 → σ.1 a p = W p
def MWa (b : Nat) (W : Nat → Int32) (σ : MM) : Prop := ∀ p, p < 4 → σ.1 265 (b + 19 + p) = W p
def VWa (T : TW) (W : Nat → Int32) : Prop := ∀ p, p < 4 → (W p = -2 ∨ W p = -1 ∨ ∃ k, k < 4 ∧ W p = nI k) ∧ (T.1 1 ≤ p → W p = -2)
def CTo (a : Nat) (D : TO) (σ : MM) : Prop := σ.1 a 3 = nI D.1 ∧ ∀ i, i < D.1 → σ.1 (a + 1) i = D.2 0 i ∧ σ.1 (a + 2) i = D.2 1 i ∧ σ.1 (a + 3) i = D.2 2 i
def MTo (b : Nat) (D : TO) (σ : MM) : Prop := σ.1 265 (b + 23) = nI D.1 ∧ ∀ i, i < D.1 → σ.1 265 (b + 24 + 3 * i) = D.2 0 i ∧ σ.1 265 (b + 25 + 3 * i) = D.2 1 i ∧ σ.1 265 (b + 26 + 3 * i) = D.2 2 i
def VTo (T : TW) (D : TO) : Prop := D.1 ≤ 6 ∧ ∀ i, i < D.1 → (∃ p, p < T.1 1 ∧ D.2 0 i = nI p) ∧ (∃ h, h ≤ 12 ∧ D.2 1 i = nI h) ∧ (D.2 2 i = -1 ∨ ∃ k, k < 4 ∧ D.2 2 i = nI k)
def CMk (T : TW) (a w t : Nat) (K : MK) (σ : MM) : Prop := CSk T a K.1 σ ∧ CWa w K.2.1 σ ∧ CTo t K.2.2 σ
def MMk (T : TW) (b : Nat) (K : MK) (σ : MM) : Prop := MSk T b K.1 σ ∧ MWa b K.2.1 σ ∧ MTo b K.2.2 σ
def VMk (T : TW) (K : MK) : Prop := VSk T K.1 ∧ VWa T K.2.1 ∧ VTo T K.2.2
def CPl (P : TO) (σ : MM) : Prop := σ.1 28 4 = nI P.1 ∧ ∀ i, i < P.1 → σ.1 29 i = P.2 0 i ∧ (¬ P.2 0 i = 3 → σ.1 30 i = P.2 1 i) ∧ (P.2 0 i = 0 → σ.1 31 i = P.2 2 i ∧ σ.1 32 i = P.2 3 i)
def MPl (P : TO) (σ : MM) : Prop := σ.1 262 0 = nI P.1 ∧ ∀ i, i < P.1 → σ.1 262 (1 + 4 * i) = P.2 0 i ∧ σ.1 262 (2 + 4 * i) = P.2 1 i ∧ σ.1 262 (3 + 4 * i) = P.2 2 i ∧ σ.1 262 (4 + 4 * i) = P.2 3 i
def VPl (T : TW) (P : TO) : Prop := P.1 ≤ 40 ∧ ∀ i, i < P.1 → (∃ d, d < 4 ∧ P.2 0 i = nI d) ∧ (¬ P.2 0 i = 3 → ∃ c, c < T.1 2 ∧ P.2 1 i = nI c) ∧ (P.2 0 i = 0 → (∃ l, l < T.1 0 ∧ P.2 2 i = nI l) ∧ ∃ k, 1 ≤ k ∧ k ≤ 3 ∧ P.2 3 i = nI k)
def CMa (T : TW) (G : (Nat → Bool) × (Nat → MK)) (σ : MM) : Prop := ∀ m, m < 4 → σ.1 (145 + 17 * m) 3 = b2i (G.1 m) ∧ (G.1 m = true → CMk T (147 + 17 * m) (146 + 17 * m) (152 + 17 * m) (G.2 m) σ)
def MMa (T : TW) (G : (Nat → Bool) × (Nat → MK)) (σ : MM) : Prop := ∀ m, m < 4 → σ.1 266 m = b2i (G.1 m) ∧ (G.1 m = true → MMk T (42 * (1 + m)) (G.2 m) σ)
def CTa (Q : Nat × (Nat → Int32)) (σ : MM) : Prop := σ.1 1 1 = nI Q.1 ∧ ∀ i, i < Q.1 → σ.1 2 i = Q.2 i
def MTa (Q : Nat × (Nat → Int32)) (σ : MM) : Prop := σ.1 249 2 = nI Q.1 ∧ ∀ i, i < Q.1 → σ.1 250 i = Q.2 i
/-- a sign of the tape -/
def sgn (x : Int32) : Prop := ∃ q, x = nI q ∧ (q = 10 ∨ (32 ≤ q ∧ q ≤ 126))
def VTa (Q : Nat × (Nat → Int32)) : Prop := Q.1 ≤ 1000 ∧ ∀ i, i < Q.1 → sgn (Q.2 i)
/-- words packed -/
def p32 (w : List Nat) : Int64 := w.foldl (fun v x => v * 32 + Int64.ofNat x) 0
def p37 (w : List Nat) : Int64 := w.foldl (fun v x => 37 * v + Int64.ofNat x) 0
def isW (w : List Nat) : Prop := w ≠ [] ∧ w.length ≤ 8 ∧ ∀ x, x ∈ w → 1 ≤ x ∧ x ≤ 26
def CNa (T : TW) (N : Nat → Nat → List Nat) (σ : MM) : Prop := ∀ r, r < 3 → ∀ i, i < T.1 r → σ.2.1 (4 + r) i = p32 (N r i)
def wtb : List Int64 := [620680, 817571, 30595897, 40072202, 6251602, 31692, 8974471490, 8420923, 407118, 1014841, 1167099, 426554, 36021333, 36027290, 36179249, 983064, 19741, 1891, 573, 204478, 23270970, 26802, 6250976]
def MNa (T : TW) (N : Nat → Nat → List Nat) (σ : MM) : Prop := (∀ i, i < 23 → σ.2.1 254 i = wtb.getD i 0) ∧ σ.1 249 18 = nI (T.1 0 + T.1 1 + T.1 2) ∧ ∃ K : Nat → Nat × Nat, (∀ k, k < T.1 0 + T.1 1 + T.1 2 → (K k).1 < 3 ∧ (K k).2 < T.1 (K k).1 ∧ σ.2.1 258 k = p37 (N (K k).1 (K k).2) ∧ σ.1 260 k = nI (20 * (K k).1 + (K k).2)) ∧ ∀ r, r < 3 → ∀ i, i < T.1 r → ∃ k, k < T.1 0 + T.1 1 + T.1 2 ∧ K k = (r, i)
def VNa (T : TW) (N : Nat → Nat → List Nat) : Prop := (∀ r, r < 3 → ∀ i, i < T.1 r → isW (N r i)) ∧ ∀ r s, r < 3 → s < 3 → ∀ i j, i < T.1 r → j < T.1 s → N r i = N s j → r = s ∧ i = j
def CA (A : AB) (σ : MM) : Prop := CTn A.1 σ ∧ CMk A.1 38 131 134 A.2.1 σ ∧ CPa A.1 A.2.2.1.1 A.2.2.1.2 σ ∧ CPl A.2.2.2.1 σ ∧ CMa A.1 A.2.2.2.2.1 σ ∧ CTa A.2.2.2.2.2.1 σ ∧ CNa A.1 A.2.2.2.2.2.2 σ
def MA (A : AB) (σ : MM) : Prop := MTn A.1 σ ∧ MMk A.1 0 A.2.1 σ ∧ MPa A.1 A.2.2.1.1 A.2.2.1.2 σ ∧ MPl A.2.2.2.1 σ ∧ MMa A.1 A.2.2.2.2.1 σ ∧ MTa A.2.2.2.2.2.1 σ ∧ MNa A.1 A.2.2.2.2.2.2 σ
def VA (A : AB) : Prop := VTn A.1 ∧ VMk A.1 A.2.1 ∧ (∀ i, i < A.2.2.1.1 → VSk A.1 (A.2.2.1.2 i)) ∧ VPl A.1 A.2.2.2.1 ∧ (∀ m, m < 4 → A.2.2.2.2.1.1 m = true → VMk A.1 (A.2.2.2.2.1.2 m)) ∧ VTa A.2.2.2.2.2.1 ∧ VNa A.1 A.2.2.2.2.2.2
def Inv (σ : MM) : Prop := ∃ A, VA A ∧ CA A σ ∧ MA A σ
/-- rows of the class that nothing rests on, from one call to the next -/
def scC (b j : Nat) : Prop := b = 14 ∨ (15 ≤ b ∧ b ≤ 27) ∨ (33 ≤ b ∧ b ≤ 37) ∨ (42 ≤ b ∧ b ≤ 47) ∨ b = 132 ∨ b = 133 ∨ (138 ≤ b ∧ b ≤ 143) ∨ (b = 134 ∧ 4 ≤ j) ∨ (b = 28 ∧ 5 ≤ j) ∨ (213 ≤ b ∧ b ≤ 248) ∨ (b = 1 ∧ j ≠ 1)
def scM (b j : Nat) : Prop := (b = 249 ∧ j ≠ 2 ∧ j ≠ 18 ∧ j ≠ 24) ∨ b = 251 ∨ b = 252 ∨ (b = 255 ∧ 40 ≤ j) ∨ ((b = 256 ∨ b = 257) ∧ 1100 ≤ j) ∨ b = 261 ∨ (b = 262 ∧ 165 ≤ j) ∨ b = 263 ∨ b = 264 ∨ (b = 265 ∧ 882 ≤ j) ∨ 267 ≤ b
theorem CSk_e {T : TW} {a : Nat} {S : SK} {σ τ : MM} (h0 : τ.1 a 5 = σ.1 a 5) (h : ∀ j, τ.1 (a + 1) j = σ.1 (a + 1) j ∧ τ.1 (a + 2) j = σ.1 (a + 2) j ∧ τ.1 (a + 3) j = σ.1 (a + 3) j) (hS : CSk T a S σ) : CSk T a S τ := by
  refine ⟨h0.trans hS.1, fun c hc => ?_⟩
  rw [(h c).1, (h c).2.1, (h c).2.2]
  exact hS.2 c hc
theorem MSk_e {T : TW} {b : Nat} {S : SK} {σ τ : MM} (h6 : T.1 2 ≤ 6) (h : ∀ j, b ≤ j → j < b + 19 → τ.1 265 j = σ.1 265 j) (hS : MSk T b S σ) : MSk T b S τ := by
  refine ⟨(h b (by omega) (by omega)).trans hS.1, fun c hc => ?_⟩
  rw [h _ (by omega) (by omega), h _ (by omega) (by omega), h _ (by omega) (by omega)]
  exact hS.2 c hc
theorem CMk_e {T : TW} {a w t : Nat} {K : MK} {σ τ : MM} (h0 : τ.1 a 5 = σ.1 a 5) (h : ∀ j, τ.1 (a + 1) j = σ.1 (a + 1) j ∧ τ.1 (a + 2) j = σ.1 (a + 2) j ∧ τ.1 (a + 3) j = σ.1 (a + 3) j) (hw : ∀ j, τ.1 w j = σ.1 w j) (ht : τ.1 t 3 = σ.1 t 3 ∧ ∀ j, τ.1 (t + 1) j = σ.1 (t + 1) j ∧ τ.1 (t + 2) j = σ.1 (t + 2) j ∧ τ.1 (t + 3) j = σ.1 (t + 3) j) (hK : CMk T a w t K σ) : CMk T a w t K τ := by
  refine ⟨CSk_e h0 h hK.1, fun p hp => (hw p).trans (hK.2.1 p hp), ht.1.trans hK.2.2.1, fun i hi => ?_⟩
  rw [(ht.2 i).1, (ht.2 i).2.1, (ht.2 i).2.2]
  exact hK.2.2.2 i hi
theorem MMk_e {T : TW} {b : Nat} {K : MK} {σ τ : MM} (h6 : T.1 2 ≤ 6) (hn : K.2.2.1 ≤ 6) (h : ∀ j, b ≤ j → j < b + 42 → τ.1 265 j = σ.1 265 j) (hK : MMk T b K σ) : MMk T b K τ := by
  refine ⟨MSk_e h6 (fun j h1 h2 => h j h1 (by omega)) hK.1, fun p hp => (h _ (by omega) (by omega)).trans (hK.2.1 p hp), (h _ (by omega) (by omega)).trans hK.2.2.1, fun i hi => ?_⟩
  rw [h _ (by omega) (by omega), h _ (by omega) (by omega), h _ (by omega) (by omega)]
  exact hK.2.2.2 i hi
theorem CA_g {A : AB} {σ τ : MM} (e : ∀ b j, b < 249 → ¬ scC b j → τ.1 b j = σ.1 b j) (el : ∀ b j, 4 ≤ b → b ≤ 6 → τ.2.1 b j = σ.2.1 b j) (h : CA A σ) : CA A τ := by
  obtain ⟨h1, h2, h3, h4, h5, h6, h7⟩ := h
  unfold scC at e
  refine ⟨?_, ?_, ?_, ?_, ?_, ?_, ?_⟩
  · obtain ⟨k1, k2, k3, k4, k5, k6⟩ := h1
    refine ⟨?_, fun l hl => ?_, fun p hp => ?_, fun c hc => ?_, ?_, fun k hk => ?_⟩
    · unfold TC at k1 ⊢
      rw [e 3 9 (by omega) (by omega), e 3 10 (by omega) (by omega), e 3 11 (by omega) (by omega)]
      exact k1
    · rw [e 7 l (by omega) (by omega), e 8 l (by omega) (by omega)]; exact k2 l hl
    · rw [e 9 p (by omega) (by omega)]; exact k3 p hp
    · rw [e 10 c (by omega) (by omega), e 11 c (by omega) (by omega)]; exact k4 c hc
    · rw [e 12 2 (by omega) (by omega)]; exact k5
    · rw [e 13 k (by omega) (by omega)]; exact k6 k hk
  · exact CMk_e (e _ _ (by omega) (by omega)) (fun j => ⟨e _ _ (by omega) (by omega), e _ _ (by omega) (by omega), e _ _ (by omega) (by omega)⟩) (fun j => e _ _ (by omega) (by omega)) ⟨e _ _ (by omega) (by omega), fun j => ⟨e _ _ (by omega) (by omega), e _ _ (by omega) (by omega), e _ _ (by omega) (by omega)⟩⟩ h2
  · obtain ⟨nx, k1, k2, k3, k4, k5⟩ := h3
    refine ⟨nx, k1, k2, (e _ _ (by omega) (by omega)).trans k3, (e _ _ (by omega) (by omega)).trans k4, fun i hi => ?_⟩
    have : (nx + 16 - A.2.2.1.1 + i) % 16 < 16 := Nat.mod_lt _ (by decide)
    exact CSk_e (e _ _ (by omega) (by omega)) (fun j => ⟨e _ _ (by omega) (by omega), e _ _ (by omega) (by omega), e _ _ (by omega) (by omega)⟩) (k5 i hi)
  · refine ⟨(e _ _ (by omega) (by omega)).trans h4.1, fun i hi => ?_⟩
    rw [e 29 i (by omega) (by omega), e 30 i (by omega) (by omega), e 31 i (by omega) (by omega), e 32 i (by omega) (by omega)]
    exact h4.2 i hi
  · intro m hm
    refine ⟨(e _ _ (by omega) (by omega)).trans (h5 m hm).1, fun g => ?_⟩
    exact CMk_e (e _ _ (by omega) (by omega)) (fun j => ⟨e _ _ (by omega) (by omega), e _ _ (by omega) (by omega), e _ _ (by omega) (by omega)⟩) (fun j => e _ _ (by omega) (by omega)) ⟨e _ _ (by omega) (by omega), fun j => ⟨e _ _ (by omega) (by omega), e _ _ (by omega) (by omega), e _ _ (by omega) (by omega)⟩⟩ ((h5 m hm).2 g)
  · exact ⟨(e _ _ (by omega) (by omega)).trans h6.1, fun i hi => (e _ _ (by omega) (by omega)).trans (h6.2 i hi)⟩
  · intro r hr i hi
    exact (el _ _ (by omega) (by omega)).trans (h7 r hr i hi)
theorem MA_g {A : AB} {σ τ : MM} (hV : VA A) (e : ∀ b j, 249 ≤ b → ¬ scM b j → τ.1 b j = σ.1 b j) (el : ∀ b j, b = 254 ∨ b = 258 → τ.2.1 b j = σ.2.1 b j) (h : MA A σ) : MA A τ := by
  obtain ⟨h1, h2, h3, h4, h5, h6, h7⟩ := h
  have v6 : A.1.1 2 ≤ 6 := hV.1.1.2.2.1
  have v5 : A.1.1 0 ≤ 5 := hV.1.1.1
  have v4 : A.1.1 1 ≤ 4 := hV.1.1.2.1
  have vm : A.1.1 3 ≤ 1000 := hV.1.1.2.2.2
  have vp : A.2.2.2.1.1 ≤ 40 := hV.2.2.2.1.1
  have vt : A.2.2.2.2.2.1.1 ≤ 1000 := hV.2.2.2.2.2.1.1
  unfold scM at e
  refine ⟨?_, ?_, ?_, ?_, ?_, ?_, ?_⟩
  · obtain ⟨k1, k2, k3, k4, k5⟩ := h1
    refine ⟨?_, fun l hl => ?_, fun p hp => ?_, fun c hc => ?_, ?_⟩
    · unfold TM at k1 ⊢
      rw [e 255 0 (by omega) (by omega), e 255 1 (by omega) (by omega), e 255 2 (by omega) (by omega)]
      exact k1
    · rw [e 255 _ (by omega) (by omega), e 255 _ (by omega) (by omega)]; exact k2 l hl
    · rw [e 255 _ (by omega) (by omega)]; exact k3 p hp
    · rw [e 255 _ (by omega) (by omega), e 255 _ (by omega) (by omega)]; exact k4 c hc
    · rw [e 255 3 (by omega) (by omega)]
      rcases k5 with q | ⟨q1, q2⟩
      · exact Or.inl q
      · exact Or.inr ⟨q1, LM_e (fun k _ => e 256 k (by omega) (by omega)) (fun k _ => e 257 k (by omega) (by omega)) q2⟩
  · exact MMk_e v6 hV.2.1.2.2.1 (fun j h1 h2 => e _ _ (by omega) (by omega)) h2
  · exact ⟨h3.1, (e _ _ (by omega) (by omega)).trans h3.2.1, fun i hi => MSk_e v6 (fun j q1 q2 => e _ _ (by omega) (by have := h3.1; omega)) (h3.2.2 i hi)⟩
  · refine ⟨(e _ _ (by omega) (by omega)).trans h4.1, fun i hi => ?_⟩
    rw [e 262 _ (by omega) (by omega), e 262 _ (by omega) (by omega), e 262 _ (by omega) (by omega), e 262 _ (by omega) (by omega)]
    exact h4.2 i hi
  · intro m hm
    refine ⟨(e _ _ (by omega) (by omega)).trans (h5 m hm).1, fun g => ?_⟩
    exact MMk_e v6 (hV.2.2.2.2.1 m hm g).2.2.1 (fun j q1 q2 => e _ _ (by omega) (by omega)) ((h5 m hm).2 g)
  · exact ⟨(e _ _ (by omega) (by omega)).trans h6.1, fun i hi => (e _ _ (by omega) (by omega)).trans (h6.2 i hi)⟩
  · obtain ⟨k1, k2, K, k3, k4⟩ := h7
    refine ⟨fun i hi => (el _ _ (Or.inl rfl)).trans (k1 i hi), (e _ _ (by omega) (by omega)).trans k2, K, fun k hk => ?_, k4⟩
    rw [el _ _ (Or.inr rfl), e 260 k (by omega) (by omega)]
    exact k3 k hk
/-- the class's part of a call leaves the model's rows alone, and the other way round -/
def ofC (σ τ : MM) : Prop := (∀ b j, 249 ≤ b → τ.1 b j = σ.1 b j) ∧ ∀ b j, 249 ≤ b → τ.2.1 b j = σ.2.1 b j
def ofM (σ τ : MM) : Prop := (∀ b j, b < 249 → τ.1 b j = σ.1 b j) ∧ ∀ b j, b < 249 → τ.2.1 b j = σ.2.1 b j
theorem ofC_r {R : Nat → Nat → Prop} {σ τ : MM} (h : eqr R σ τ) (hR : ∀ b j, 249 ≤ b → ¬ R b j) : ofC σ τ := ⟨fun b j q => h.1 b j (hR b j q), fun b j _ => by rw [h.2]⟩
theorem ofM_r {R : Nat → Nat → Prop} {σ τ : MM} (h : eqr R σ τ) (hR : ∀ b j, b < 249 → ¬ R b j) : ofM σ τ := ⟨fun b j q => h.1 b j (hR b j q), fun b j _ => by rw [h.2]⟩
theorem CA_r {R : Nat → Nat → Prop} {A : AB} {σ τ : MM} (h : eqr R σ τ) (hR : ∀ b j, R b j → b < 249 → scC b j) (hA : CA A σ) : CA A τ := CA_g (fun b j h1 h2 => h.1 b j (fun q => h2 (hR b j q h1))) (fun b j _ _ => by rw [h.2]) hA
theorem MA_r {R : Nat → Nat → Prop} {A : AB} {σ τ : MM} (hV : VA A) (h : eqr R σ τ) (hR : ∀ b j, R b j → 249 ≤ b → scM b j) (hA : MA A σ) : MA A τ := MA_g hV (fun b j h1 h2 => h.1 b j (fun q => h2 (hR b j q h1))) (fun b j _ => by rw [h.2]) hA
theorem MA_c {A : AB} {σ τ : MM} (hV : VA A) (h : ofC σ τ) (hA : MA A σ) : MA A τ := MA_g hV (fun b j h1 _ => h.1 b j h1) (fun b j q => h.2 b j (by omega)) hA
theorem CA_m {A : AB} {σ τ : MM} (h : ofM σ τ) (hA : CA A σ) : CA A τ := CA_g (fun b j h1 _ => h.1 b j h1) (fun b j q1 q2 => h.2 b j (by omega)) hA
/-- a law's case -/
def okC (t : PP Unit → PP Unit) (σ : MM) : Prop := ∀ chk : PP Unit, (∀ τ, Inv τ → chk τ = some ((), τ)) → ∃ τ, t chk σ = some ((), τ) ∧ Inv τ
theorem okC_of {α : Type} {C M : PP α} {A A2 : AB} {σ : MM} {r : α} {eq : α → α → Prop} [DecidableRel eq] (heq : eq r r) (hV : VA A) (hV2 : VA A2) (hM : MA A σ) (c : wp C σ (fun x τ => x = r ∧ CA A2 τ ∧ ofC σ τ)) (m : ∀ τ, MA A τ → wp M τ (fun y υ => y = r ∧ MA A2 υ ∧ ofM τ υ)) : okC (fun chk => bd C (fun x => bd M (fun y => if eq x y then chk else fl))) σ := by
  intro chk hc
  obtain ⟨x, τ, e1, rfl, c1, c2⟩ := c
  obtain ⟨y, υ, e2, rfl, m1, m2⟩ := m τ (MA_c hV c2 hM)
  have hi : Inv υ := ⟨A2, hV2, CA_m m2 c1, m1⟩
  refine ⟨υ, ?_, hi⟩
  show bd C _ σ = _
  rw [ev_bd e1, ev_bd e2, if_pos heq]
  exact hc υ hi
