theorem lp_1 {σ α : Type} {f : (σ → Option α) → σ → Option α} {F : Nat} {s : σ} : aw_loop f (F + 1) s = f (aw_loop f F) s := rfl
/-- the byte of a number at a shift -/
def byt (v : Int32) (s : Nat) : Nat := (v.toBitVec >>> s).toNat % 256
theorem byt_bv (v : Int32) (s : Nat) : (nI (byt v s)).toBitVec = (v.toBitVec >>> s) &&& 255#32 := by
  apply BitVec.eq_of_toNat_eq
  rw [BitVec.toNat_and]
  show (BitVec.ofNat 32 (byt v s)).toNat = _
  rw [BitVec.toNat_ofNat]
  have : (255#32).toNat = 2 ^ 8 - 1 := rfl
  rw [this, Nat.and_two_pow_sub_one_eq_mod]
  unfold byt
  omega
theorem byt_lt (v : Int32) (s : Nat) : byt v s < 256 := Nat.mod_lt _ (by decide)
theorem byt_x (v : Int32) {s : Nat} (hs : s < 32) : ((v.toUInt32 >>> ((nI s).toUInt32 &&& Int32.toUInt32 31)).toInt32 &&& 255) = nI (byt v s) := by
  have h1 : ((nI s).toUInt32 &&& Int32.toUInt32 31) = UInt32.ofNat s := by
    have : ∀ s, s < 32 → (nI s).toUInt32 &&& Int32.toUInt32 31 = UInt32.ofNat s := by decide
    exact this s hs
  have h2 : ((UInt32.ofNat s).mod 32).toBitVec.toNat = s := by
    have : ∀ s, s < 32 → ((UInt32.ofNat s).mod 32).toBitVec.toNat = s := by decide
    exact this s hs
  rw [h1]
  apply Int32.toBitVec_inj.1
  rw [byt_bv]
  show (v.toBitVec >>> ((UInt32.ofNat s).mod 32).toBitVec.toNat) &&& 255#32 = _
  rw [h2]
theorem byt_m (v : Int32) {s : Nat} (hs : s ≤ 24) : vp_nar .byte (((v >>> (nI s &&& 31)) : Int32).toInt8.toInt32) = (nI (byt v s)).toInt8.toInt32 := by
  have h1 : (v >>> (nI s &&& 31)).toInt8 = (nI (byt v s)).toInt8 := by
    have h2 : ((nI s &&& 31).toBitVec.smod 32).toNat = s := by
      have : ∀ s, s < 25 → ((nI s &&& 31).toBitVec.smod 32).toNat = s := by decide
      exact this s (by omega)
    apply Int8.toBitVec_inj.1
    show (v.toBitVec.sshiftRight ((nI s &&& 31).toBitVec.smod 32).toNat).signExtend 8 = (nI (byt v s)).toBitVec.signExtend 8
    rw [h2, byt_bv]
    apply BitVec.eq_of_getLsbD_eq
    intro i hi
    have h3 : (255#32).getLsbD i = true := by
      have : ∀ i, i < 8 → (255#32).getLsbD i = true := by decide
      exact this i hi
    rw [BitVec.getLsbD_signExtend, BitVec.getLsbD_signExtend, BitVec.getLsbD_sshiftRight, BitVec.getLsbD_and, BitVec.getLsbD_ushiftRight, h3]
    have : i < 32 := by omega
    have : ¬ 32 ≤ i := by omega
    have : s + i < 32 := by omega
    simp [*]
  rw [h1]
  show ((nI (byt v s)).toInt8.toInt32).toInt8.toInt32 = _
  simp
/-- a memory with one array replaced -/
def aset (μ : aw_M) (a : Nat) (g : Nat → Int32) : aw_M := (va_up μ.1 a g, μ.2)
theorem rA_s {μ : aw_M} {a : Nat} {g : Nat → Int32} : (aset μ a g).1 a = g := va_up_self _ _ _
theorem rA_a {μ : aw_M} {a b : Nat} {g : Nat → Int32} (h : b ≠ a) : (aset μ a g).1 b = μ.1 b := va_up_ne _ _ h
theorem rA_2 {μ : aw_M} {a : Nat} {g : Nat → Int32} : (aset μ a g).2 = μ.2 := rfl
theorem AgK.wA {K : Nat → Nat → Bool} {μ μ1 : aw_M} {a : Nat} {g : Nat → Int32} (h : AgK K μ μ1) (hk : ∀ k, K a k = true → g k = μ1.1 a k) : AgK K μ (aset μ1 a g) := fun b j q => by
  refine ⟨?_, (h b j q).2⟩
  rw [← (h b j q).1]
  by_cases e : b = a
  · subst e
    rw [rA_s]
    exact hk j q
  · rw [rA_a e]
theorem wI_aset {μ : aw_M} {a k : Nat} {v : Int32} : aw_wI μ a k v = aset μ a (upd (μ.1 a) k v) := rfl
theorem aset_aset {μ : aw_M} {a : Nat} {g g2 : Nat → Int32} : aset (aset μ a g) a g2 = aset μ a g2 := by
  unfold aset
  congr 1
  funext b
  by_cases e : b = a
  · subst e
    show va_up (va_up μ.1 b g) b g2 b = va_up μ.1 b g2 b
    rw [va_up_self, va_up_self]
  · show va_up (va_up μ.1 a g) a g2 b = va_up μ.1 a g2 b
    rw [va_up_ne _ _ e, va_up_ne _ _ e, va_up_ne _ _ e]
theorem wI_wA {μ : aw_M} {a k : Nat} {v : Int32} {g : Nat → Int32} : aw_wI (aset μ a g) a k v = aset μ a (upd g k v) := by
  rw [wI_aset, aset_aset, rA_s]
