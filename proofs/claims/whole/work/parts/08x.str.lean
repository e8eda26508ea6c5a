def aB (i : Nat) (j : Int32) : PP Int32 := fun σ => if ib j (sln.getD i 0) = true then some ((sby.getD i []).getD j.toNatClampNeg 0, σ) else none
section RPT
variable {ρ : Type} {l : Launch} {K : KK} {n d : Nat} {M : MI} {Z : ZZ} {pc : Nat} {lv : List (Nat × Value)} {st : List Value} {en : ρ → Option Value}
theorem rp_fl {α : Type} {k : α → PP ρ} : RP l K n d M Z pc lv st en (bd fl k) := fun σ r σ' q => by cases q
theorem rp_i2b {t : PP ρ} {x : Int32} (hd : decode M.2.2.1 pc = .ok (.i2b, 1)) (k : RP l K n d M Z (pc + 1) lv (.int (x.toInt8.toInt32) :: st) en t) : RP l K n d M Z pc lv (.int x :: st) en t := RP.go (fun p e R s m args below meth c H locs ls Q C hl w => lv_i2b C.1 C.2.1 hd rfl w) k
theorem rp_getVal {t : PP ρ} {idx i : Nat} (hi : i < 24) (hw : Cond.fieldLink M.1 idx "java/lang/String" "value" "[B" ∈ lg) (hd : decode M.2.2.1 pc = .ok (.getfield idx, 3)) (k : RP l K n d M Z (pc + 3) lv (.ref (K.2.2.2 (200 + i)) :: st) en t) : RP l K n d M Z pc lv (.ref (K.2.2.2 (100 + i)) :: st) en t := by
  intro σ r σ' q p e R s m args below meth c C H locs ls hP hS hl
  exact vk_getf C.1 C.2.1 (C.ks.2.2.1.1 i hi).2.2.1 hS C.own (C.w hw) (fun _ h => h) hd (k σ r σ' q p e R s m args below meth c C H locs ls hP hS hl)
theorem rp_getCoder {t : PP ρ} {idx i : Nat} (hi : i < 24) (hw : Cond.fieldLink M.1 idx "java/lang/String" "coder" "B" ∈ lg) (hd : decode M.2.2.1 pc = .ok (.getfield idx, 3)) (k : RP l K n d M Z (pc + 3) lv (.int 0 :: st) en t) : RP l K n d M Z pc lv (.ref (K.2.2.2 (100 + i)) :: st) en t := by
  intro σ r σ' q p e R s m args below meth c C H locs ls hP hS hl
  exact vk_getf C.1 C.2.1 (C.ks.2.2.1.1 i hi).2.1 hS C.own (C.w hw) (fun _ h => h) hd (k σ r σ' q p e R s m args below meth c C H locs ls hP hS hl)
theorem rp_getCompact {t : PP ρ} {idx : Nat} (hw : Cond.fieldLink M.1 idx "java/lang/String" "COMPACT_STRINGS" "Z" ∈ lg) (hd : decode M.2.2.1 pc = .ok (.getstatic idx, 3)) (k : RP l K n d M Z (pc + 3) lv (.int 1 :: st) en t) : RP l K n d M Z pc lv st en t := by
  intro σ r σ' q p e R s m args below meth c C H locs ls hP hS hl
  exact va_gets C.1 C.2.1 C.ks.2.2.2.2.2.2.2.2.1 hS C.own (C.w hw) (fun _ h => h) hd (k σ r σ' q p e R s m args below meth c C H locs ls hP hS hl)
theorem rp_getFmt {t : PP ρ} {idx : Nat} (hw : Cond.fieldLink M.1 idx "jdk/internal/util/Preconditions" "SIOOBE_FORMATTER" "Ljava/util/function/BiFunction;" ∈ lg) (hd : decode M.2.2.1 pc = .ok (.getstatic idx, 3)) (k : ∀ u : Value, (u = .null ∨ ∃ a, u = .ref a) → RP l K n d M Z (pc + 3) lv (u :: st) en t) : RP l K n d M Z pc lv st en t := by
  intro σ r σ' q p e R s m args below meth c C H locs ls hP hS hl
  rcases C.ks.2.2.2.2.2.2.2.2.2.1.1 with h | ⟨t, h⟩
  · exact va_gets C.1 C.2.1 h hS C.own (C.w hw) (fun _ h => h) hd (k _ (Or.inl rfl) σ r σ' q p e R s m args below meth c C H locs ls hP hS hl)
  · exact va_gets C.1 C.2.1 h hS C.own (C.w hw) (fun _ h => h) hd (k _ (Or.inr ⟨t, rfl⟩) σ r σ' q p e R s m args below meth c C H locs ls hP hS hl)
theorem rp_lenB {t : PP ρ} {i : Nat} (hi : i < 24) (hd : decode M.2.2.1 pc = .ok (.arraylength, 1)) (k : RP l K n d M Z (pc + 1) lv (.int (Int32.ofNat (sln.getD i 0)) :: st) en t) : RP l K n d M Z pc lv (.ref (K.2.2.2 (200 + i)) :: st) en t := by
  intro σ r σ' q p e R s m args below meth c C H locs ls hP hS hl
  exact va_tlen C.1 C.2.1 (C.ks.2.2.1.1 i hi).2.2.2 hS rfl hd (k σ r σ' q p e R s m args below meth c C H locs ls hP hS hl)
theorem rp_aldB {α : Type} {f : Int32 → PP α} {k : α → PP ρ} {i : Nat} {j : Int32} (hi : i < 24) (hd : decode M.2.2.1 pc = .ok (.baload, 1)) (kk : ∀ x, RP l K n d M Z (pc + 1) lv (.int x :: st) en (bd (f x) k)) : RP l K n d M Z pc lv (.int j :: .ref (K.2.2.2 (200 + i)) :: st) en (bd (bd (aB i j) f) k) := by
  intro σ r σ' q p e R s m args below meth c C H locs ls hP hS hl
  by_cases hb : ib j (sln.getD i 0) = true
  · have q2 : bd (f ((sby.getD i []).getD j.toNatClampNeg 0)) k σ = some (r, σ') := by simpa only [bd, aB, hb, if_true] using q
    exact va_tb C.1 C.2.1 (C.ks.2.2.1.1 i hi).2.2.2 hS (ib_in hb) rfl hd (kk _ σ r σ' q2 p e R s m args below meth c C H locs ls hP hS hl)
  · simp only [bd, aB, hb] at q
    cases q
theorem rp_getText {t : PP ρ} {idx : Nat} {w : Fin 23} (hw : Cond.fieldLink M.1 idx eW "text" "Ljava/lang/String;" ∈ lg) (hd : decode M.2.2.1 pc = .ok (.getfield idx, 3)) (k : RP l K n d M Z (pc + 3) lv (.ref (K.2.2.2 (100 + w.val)) :: st) en t) : RP l K n d M Z pc lv (wr K (some w) :: st) en t := by
  intro σ r σ' q p e R s m args below meth c C H locs ls hP hS hl
  exact va_getX (i := w.val) C.1 C.2.1 C.ks.2.1 w.isLt hS C.own (C.w hw) (fun _ h => h) hd (k σ r σ' q p e R s m args below meth c C H locs ls hP hS hl)
theorem rp_ldcS {t : PP ρ} (ho : M.1 = "LaundrySky$Tape") (hd : decode M.2.2.1 pc = .ok (.ldc 61, 2)) (k : RP l K n d M Z (pc + 2) lv (.ref (K.2.2.2 (100 + 23)) :: st) en t) : RP l K n d M Z pc lv st en t := by
  intro σ r σ' q p e R s m args below meth c C H locs ls hP hS hl
  have hown := C.own
  rw [ho] at hown
  exact va_ldcS C.1 C.2.1 hown C.ks.2.2.2.2.2.2.2.1 hd (k σ r σ' q p e R s m args below meth c C H locs ls hP hS hl)
theorem rp_cret {x : Int32} (hr : M.2.2.2.2 = some .char) (hd : decode M.2.2.1 pc = .ok (.ireturn, 1)) : RP l K n d M (Z0 K n) pc lv [.int x] enI (bd (bd (gd ((x.toUInt32 % 65536).toInt32 = x)) (fun (_ : Unit) => pu x)) pu) := by
  intro σ r σ' q p e R s m args below meth c C H locs ls hP hS hl
  by_cases hb : (x.toUInt32 % 65536).toInt32 = x
  · have q2 : some (x, σ) = some (r, σ') := by simpa only [bd, gd, hb, if_true, pu] using q
    cases q2
    exact W.zret (hlocks := C.2.2.2.2.2.2.1) C.1 C.2.1 (C.2.2.1.trans hr) (by have := pk_nc x; rwa [hb] at this) (fun t ht hW => ⟨⟨_, _, rfl, ⟨rfl, rfl⟩, by rw [ht]; exact hP⟩, hS.F ht⟩) hS.2.2 hd
  · simp only [bd, gd, hb] at q
    cases q
theorem rp_bret {x : Int32} (hr : M.2.2.2.2 = some .byte) (hd : decode M.2.2.1 pc = .ok (.ireturn, 1)) : RP l K n d M (Z0 K n) pc lv [.int x] enI (bd (bd (gd (x.toInt8.toInt32 = x)) (fun (_ : Unit) => pu x)) pu) := by
  intro σ r σ' q p e R s m args below meth c C H locs ls hP hS hl
  by_cases hb : x.toInt8.toInt32 = x
  · have q2 : some (x, σ) = some (r, σ') := by simpa only [bd, gd, hb, if_true, pu] using q
    cases q2
    exact W.zret (hlocks := C.2.2.2.2.2.2.1) C.1 C.2.1 (C.2.2.1.trans hr) (by have := pk_nb x; rwa [hb] at this) (fun t ht hW => ⟨⟨_, _, rfl, ⟨rfl, rfl⟩, by rw [ht]; exact hP⟩, hS.F ht⟩) hS.2.2 hd
  · simp only [bd, gd, hb] at q
    cases q
/-- a call on a constant object of class C, that stands at b -/
theorem rw_callK {α : Type} {M' : MI} {ps idx d' b : Nat} {As stk : List Value} {en' : α → Option Value} {f : PP α} {σ σ1 : MM} {r : α} (hM : CT l K n d' M' (.ref b :: As) en' f) (hv : CV M' ps) (hl : Cond.methodLink M.1 idx M'.2.1 ∈ lg) (hdd : d' + 1 ≤ d) (hO : ∀ s : State, KS K s → va_O M'.2.1.cls b (AA K) s s.heap) (hn : As.length = ps) (hst : stk = As.reverse ++ .ref b :: st) (hW : (st.map fun v => v.category).sum ≤ 8) (hd : decode M.2.2.1 pc = .ok (.invokevirtual idx, 3)) (q : f σ = some (r, σ1)) {Q : Option Value → MM → Prop} (k : RW l K n d M Z (pc + 3) lv ((en' r).toList ++ st) σ1 Q) : RW l K n d M Z pc lv stk σ Q := by
  subst hst
  intro p e R s m args below meth c C H locs ls hP hS hl2
  have hrecv := va_Orecv (hO s C.ks) hS
  refine rw_back (av := .ref b :: As) (M' := M') (ps := ps) (idx := idx) (d' := d') (va_runV (As := As) (rest := st) (nL := M.2.2.2.1) (Ts := mws M) (own := M.1) (C := M'.2.1.cls) ⟨C.1, C.2.1, C.2.2.2.1, C.own, C.2.2.2.2.2.1⟩ (hM σ r σ1 q) ⟨hv.1.b C hl hdd, C.w hv.2.1, C.w hv.2.2⟩ ⟨ct_blind, hrecv, fun U hU hW2 => ⟨rfl, C.2.2.2.2.2.2.2.1.mv hS hU hW2, by rw [hU]; exact hP⟩⟩ rfl hn hl2.1 rfl (lv_room hW) hd ⟨C.2.2.2.2.2.2.2.2.1.2.2.1, C.2.2.2.2.2.2.2.2.1.2.2.2⟩) C hS hl2 ?_
  rintro v σ' ⟨rfl, rfl⟩
  exact k
theorem hO_S {i : Nat} (hi : i < 24) : ∀ s : State, KS K s → va_O "java/lang/String" (K.2.2.2 (100 + i)) (AA K) s s.heap := fun s h => (h.2.2.1.1 i hi).1
theorem hO_W (w : Fin 23) : ∀ s : State, KS K s → va_O eW (K.2.2.2 w.val) (AA K) s s.heap := fun s h => (h.1.1 w.val w.isLt).2.1
theorem rp_callKi {α : Type} {g : Int32 → PP α} {k : α → PP ρ} {M' : MI} {ps idx d' b : Nat} {stk : List Value} {f : PP Int32} (As : List Value) (hM : CT l K n d' M' (.ref b :: As) enI f) (hv : CV M' ps) (hl : Cond.methodLink M.1 idx M'.2.1 ∈ lg) (hdd : d' + 1 ≤ d) (hO : ∀ s : State, KS K s → va_O M'.2.1.cls b (AA K) s s.heap) (hn : As.length = ps) (hst : stk = As.reverse ++ .ref b :: st) (hW : (st.map fun v => v.category).sum ≤ 8) (hd : decode M.2.2.1 pc = .ok (.invokevirtual idx, 3)) (kk : ∀ x, RP l K n d M Z (pc + 3) lv (.int x :: st) en (bd (g x) k)) : RP l K n d M Z pc lv stk en (bd (bd f g) k) := by
  intro σ r σ' q
  obtain ⟨x, σ1, q1, q2⟩ := bd2_some q
  exact rw_callK hM hv hl hdd hO hn hst hW hd q1 (kk x σ1 r σ' q2)
theorem rp_callKz {α : Type} {g : Bool → PP α} {k : α → PP ρ} {M' : MI} {ps idx d' b : Nat} {stk : List Value} {f : PP Bool} (As : List Value) (hM : CT l K n d' M' (.ref b :: As) enZ f) (hv : CV M' ps) (hl : Cond.methodLink M.1 idx M'.2.1 ∈ lg) (hdd : d' + 1 ≤ d) (hO : ∀ s : State, KS K s → va_O M'.2.1.cls b (AA K) s s.heap) (hn : As.length = ps) (hst : stk = As.reverse ++ .ref b :: st) (hW : (st.map fun v => v.category).sum ≤ 8) (hd : decode M.2.2.1 pc = .ok (.invokevirtual idx, 3)) (kk : ∀ x, RP l K n d M Z (pc + 3) lv (.int (b2i x) :: st) en (bd (g x) k)) : RP l K n d M Z pc lv stk en (bd (bd f g) k) := by
  intro σ r σ' q
  obtain ⟨x, σ1, q1, q2⟩ := bd2_some q
  exact rw_callK hM hv hl hdd hO hn hst hW hd q1 (kk x σ1 r σ' q2)
end RPT
