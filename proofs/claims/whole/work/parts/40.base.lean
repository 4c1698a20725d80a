/-! pure side: base rows -/
theorem rf0 : aw_rf 0 0 = 1 ∧ aw_rf 0 1 = 4 ∧ aw_rf 0 2 = 51 ∧ aw_rf 0 3 = 52 ∧ aw_rf 0 4 = 53 ∧ aw_rf 0 5 = 67 ∧ aw_rf 0 6 = 71 ∧ aw_rf 0 7 = 76 ∧ aw_rf 0 8 = 88 ∧ aw_rf 0 9 = 97 ∧ aw_rf 0 10 = 101 := by decide +kernel
theorem rf1 : aw_rf 1 0 = 2 ∧ aw_rf 1 2 = 3 := by decide +kernel
theorem rf4 : aw_rf 4 0 = 5 ∧ aw_rf 4 1 = 19 ∧ aw_rf 4 2 = 23 ∧ aw_rf 4 3 = 28 ∧ aw_rf 4 4 = 39 := by decide +kernel
theorem rf5 : aw_rf 5 5 = 6 ∧ aw_rf 5 6 = 7 ∧ aw_rf 5 7 = 8 ∧ aw_rf 5 8 = 9 ∧ aw_rf 5 9 = 10 ∧ aw_rf 5 10 = 11 ∧ aw_rf 5 11 = 12 ∧ aw_rf 5 12 = 13 ∧ aw_rf 5 13 = 14 ∧ aw_rf 5 14 = 15 ∧ aw_rf 5 15 = 16 ∧ aw_rf 5 16 = 17 ∧ aw_rf 5 17 = 18 := by decide +kernel
theorem rf19 : aw_rf 19 1 = 20 ∧ aw_rf 19 2 = 21 ∧ aw_rf 19 3 = 22 := by decide +kernel
theorem rf23 : aw_rf 23 2 = 24 ∧ aw_rf 23 3 = 25 ∧ aw_rf 23 4 = 26 ∧ aw_rf 23 5 = 27 := by decide +kernel
theorem rf28 : aw_rf 28 0 = 29 ∧ aw_rf 28 1 = 30 ∧ aw_rf 28 2 = 31 ∧ aw_rf 28 3 = 32 ∧ aw_rf 28 5 = 33 ∧ aw_rf 28 6 = 34 ∧ aw_rf 28 8 = 35 ∧ aw_rf 28 9 = 36 ∧ aw_rf 28 10 = 37 ∧ aw_rf 28 11 = 38 := by decide +kernel
theorem rf39 : aw_rf 39 0 = 5 ∧ aw_rf 39 1 = 19 ∧ aw_rf 39 2 = 28 ∧ aw_rf 39 8 = 40 ∧ aw_rf 39 9 = 41 ∧ aw_rf 39 10 = 42 ∧ aw_rf 39 11 = 43 ∧ aw_rf 39 12 = 44 ∧ aw_rf 39 13 = 45 ∧ aw_rf 39 14 = 46 ∧ aw_rf 39 15 = 47 ∧ aw_rf 39 16 = 48 ∧ aw_rf 39 17 = 49 ∧ aw_rf 39 19 = 50 := by decide +kernel
theorem rf53 : aw_rf 53 5 = 54 ∧ aw_rf 53 6 = 55 ∧ aw_rf 53 7 = 56 ∧ aw_rf 53 8 = 57 ∧ aw_rf 53 9 = 58 ∧ aw_rf 53 10 = 59 ∧ aw_rf 53 11 = 60 ∧ aw_rf 53 12 = 61 ∧ aw_rf 53 13 = 62 ∧ aw_rf 53 14 = 63 ∧ aw_rf 53 15 = 64 ∧ aw_rf 53 16 = 65 ∧ aw_rf 53 17 = 66 := by decide +kernel
theorem rf67 : aw_rf 67 1 = 68 ∧ aw_rf 67 2 = 69 ∧ aw_rf 67 3 = 70 := by decide +kernel
theorem rf71 : aw_rf 71 2 = 72 ∧ aw_rf 71 3 = 73 ∧ aw_rf 71 4 = 74 ∧ aw_rf 71 5 = 75 := by decide +kernel
theorem rf76 : aw_rf 76 0 = 5 ∧ aw_rf 76 1 = 19 ∧ aw_rf 76 2 = 28 ∧ aw_rf 76 8 = 77 ∧ aw_rf 76 9 = 78 ∧ aw_rf 76 10 = 79 ∧ aw_rf 76 11 = 80 ∧ aw_rf 76 12 = 81 ∧ aw_rf 76 13 = 82 ∧ aw_rf 76 14 = 83 ∧ aw_rf 76 15 = 84 ∧ aw_rf 76 16 = 85 ∧ aw_rf 76 17 = 86 ∧ aw_rf 76 19 = 87 := by decide +kernel
theorem rf88 : aw_rf 88 0 = 5 ∧ aw_rf 88 1 = 19 ∧ aw_rf 88 2 = 28 ∧ aw_rf 88 3 = 89 ∧ aw_rf 88 4 = 90 ∧ aw_rf 88 5 = 91 ∧ aw_rf 88 6 = 92 ∧ aw_rf 88 7 = 93 ∧ aw_rf 88 8 = 94 ∧ aw_rf 88 9 = 95 ∧ aw_rf 88 11 = 96 := by decide +kernel
theorem rf97 : aw_rf 97 0 = 98 ∧ aw_rf 97 1 = 99 ∧ aw_rf 97 3 = 100 := by decide +kernel
theorem rf101 : aw_rf 101 1 = 102 ∧ aw_rf 101 5 = 103 ∧ aw_rf 101 6 = 104 ∧ aw_rf 101 7 = 105 ∧ aw_rf 101 10 = 106 ∧ aw_rf 101 11 = 107 ∧ aw_rf 101 12 = 108 := by decide +kernel
theorem rf109 : aw_rf 109 0 = 110 ∧ aw_rf 109 1 = 124 ∧ aw_rf 109 2 = 128 ∧ aw_rf 109 3 = 133 ∧ aw_rf 109 4 = 144 := by decide +kernel
theorem rf110 : aw_rf 110 5 = 111 ∧ aw_rf 110 6 = 112 ∧ aw_rf 110 7 = 113 ∧ aw_rf 110 8 = 114 ∧ aw_rf 110 9 = 115 ∧ aw_rf 110 10 = 116 ∧ aw_rf 110 11 = 117 ∧ aw_rf 110 12 = 118 ∧ aw_rf 110 13 = 119 ∧ aw_rf 110 14 = 120 ∧ aw_rf 110 15 = 121 ∧ aw_rf 110 16 = 122 ∧ aw_rf 110 17 = 123 := by decide +kernel
theorem rf124 : aw_rf 124 1 = 125 ∧ aw_rf 124 2 = 126 ∧ aw_rf 124 3 = 127 := by decide +kernel
theorem rf128 : aw_rf 128 2 = 129 ∧ aw_rf 128 3 = 130 ∧ aw_rf 128 4 = 131 ∧ aw_rf 128 5 = 132 := by decide +kernel
theorem rf133 : aw_rf 133 0 = 134 ∧ aw_rf 133 1 = 135 ∧ aw_rf 133 2 = 136 ∧ aw_rf 133 3 = 137 ∧ aw_rf 133 5 = 138 ∧ aw_rf 133 6 = 139 ∧ aw_rf 133 8 = 140 ∧ aw_rf 133 9 = 141 ∧ aw_rf 133 10 = 142 ∧ aw_rf 133 11 = 143 := by decide +kernel
theorem rf144 : aw_rf 144 0 = 110 ∧ aw_rf 144 1 = 124 ∧ aw_rf 144 2 = 133 ∧ aw_rf 144 8 = 145 ∧ aw_rf 144 9 = 146 ∧ aw_rf 144 10 = 147 ∧ aw_rf 144 11 = 148 ∧ aw_rf 144 12 = 149 ∧ aw_rf 144 13 = 150 ∧ aw_rf 144 14 = 151 ∧ aw_rf 144 15 = 152 ∧ aw_rf 144 16 = 153 ∧ aw_rf 144 17 = 154 ∧ aw_rf 144 19 = 155 := by decide +kernel
theorem rf156 : aw_rf 156 0 = 157 ∧ aw_rf 156 1 = 171 ∧ aw_rf 156 2 = 175 ∧ aw_rf 156 3 = 180 ∧ aw_rf 156 4 = 191 := by decide +kernel
theorem rf157 : aw_rf 157 5 = 158 ∧ aw_rf 157 6 = 159 ∧ aw_rf 157 7 = 160 ∧ aw_rf 157 8 = 161 ∧ aw_rf 157 9 = 162 ∧ aw_rf 157 10 = 163 ∧ aw_rf 157 11 = 164 ∧ aw_rf 157 12 = 165 ∧ aw_rf 157 13 = 166 ∧ aw_rf 157 14 = 167 ∧ aw_rf 157 15 = 168 ∧ aw_rf 157 16 = 169 ∧ aw_rf 157 17 = 170 := by decide +kernel
theorem rf171 : aw_rf 171 1 = 172 ∧ aw_rf 171 2 = 173 ∧ aw_rf 171 3 = 174 := by decide +kernel
theorem rf175 : aw_rf 175 2 = 176 ∧ aw_rf 175 3 = 177 ∧ aw_rf 175 4 = 178 ∧ aw_rf 175 5 = 179 := by decide +kernel
theorem rf180 : aw_rf 180 0 = 181 ∧ aw_rf 180 1 = 182 ∧ aw_rf 180 2 = 183 ∧ aw_rf 180 3 = 184 ∧ aw_rf 180 5 = 185 ∧ aw_rf 180 6 = 186 ∧ aw_rf 180 8 = 187 ∧ aw_rf 180 9 = 188 ∧ aw_rf 180 10 = 189 ∧ aw_rf 180 11 = 190 := by decide +kernel
theorem rf191 : aw_rf 191 0 = 157 ∧ aw_rf 191 1 = 171 ∧ aw_rf 191 2 = 180 ∧ aw_rf 191 8 = 192 ∧ aw_rf 191 9 = 193 ∧ aw_rf 191 10 = 194 ∧ aw_rf 191 11 = 195 ∧ aw_rf 191 12 = 196 ∧ aw_rf 191 13 = 197 ∧ aw_rf 191 14 = 198 ∧ aw_rf 191 15 = 199 ∧ aw_rf 191 16 = 200 ∧ aw_rf 191 17 = 201 ∧ aw_rf 191 19 = 202 := by decide +kernel
theorem rf203 : aw_rf 203 1 = 204 ∧ aw_rf 203 6 = 205 ∧ aw_rf 203 7 = 206 ∧ aw_rf 203 8 = 207 ∧ aw_rf 203 9 = 208 ∧ aw_rf 203 10 = 209 ∧ aw_rf 203 22 = 210 ∧ aw_rf 203 23 = 211 ∧ aw_rf 203 24 = 212 ∧ aw_rf 203 25 = 213 ∧ aw_rf 203 27 = 214 ∧ aw_rf 203 28 = 215 ∧ aw_rf 203 29 = 216 ∧ aw_rf 203 30 = 217 ∧ aw_rf 203 32 = 218 := by decide +kernel
theorem rf203b : aw_rf 203 33 = 219 ∧ aw_rf 203 34 = 220 ∧ aw_rf 203 36 = 221 ∧ aw_rf 203 37 = 222 ∧ aw_rf 203 39 = 223 ∧ aw_rf 203 40 = 224 ∧ aw_rf 203 42 = 225 ∧ aw_rf 203 48 = 226 ∧ aw_rf 203 49 = 227 ∧ aw_rf 203 50 = 228 ∧ aw_rf 203 51 = 229 := by decide +kernel
theorem rf51 : aw_rf 51 0 = 109 ∧ aw_rf 51 1 = 156 := by decide +kernel
theorem pg_t {α : Type} {o : Option α} : aw_g true o = o := rfl
theorem pg_f {α : Type} {o : Option α} : aw_g false o = none := rfl
theorem plet {α β : Type} (x : α) (f : α → β) : aw_let x f = f x := rfl
theorem pI_lit (n : Nat) : (OfNat.ofNat n : Int32) = nI n := rfl
theorem pI_in {a n : Nat} (h : a < 2 ^ 31) : aw_in (nI a) n = decide (a < n) := by
  unfold aw_in
  rw [nI_toInt h]
  simp
theorem pI_in_t {a n : Nat} (h : a < n) (hn : n < 2 ^ 31) : aw_in (nI a) n = true := by
  rw [pI_in (by omega)]
  exact decide_eq_true h
theorem lp_dn {σ α : Type} {f : (σ → Option α) → σ → Option α} (st : Nat → σ) (spec : Nat → Option α) (n : Nat) (he : ∀ k, f k (st n) = spec n) (hs : ∀ i, i < n → ∀ k, k (st (i + 1)) = spec (i + 1) → f k (st i) = spec i) : ∀ (i F : Nat), i ≤ n → n < F + i → aw_loop f F (st i) = spec i := by
  have key : ∀ (j i F : Nat), i + j = n → j < F → aw_loop f F (st i) = spec i := by
    intro j
    induction j with
    | zero =>
      intro i F hi hF
      obtain ⟨F, rfl⟩ : ∃ G, F = G + 1 := ⟨F - 1, by omega⟩
      have e : i = n := by omega
      subst e
      exact he _
    | succ j ih =>
      intro i F hi hF
      obtain ⟨F, rfl⟩ : ∃ G, F = G + 1 := ⟨F - 1, by omega⟩
      exact hs i (by omega) _ (ih (i + 1) F (by omega) (by omega))
  intro i F hi hF
  exact key (n - i) i F (by omega) (by omega)
theorem lp_up {σ α : Type} {f : (σ → Option α) → σ → Option α} (st : Nat → σ) (n : Nat) (res : Option α) (hs : ∀ i, i < n → ∀ k, f k (st i) = k (st (i + 1))) (he : ∀ k, f k (st n) = res) {F : Nat} (hF : n < F) : aw_loop f F (st 0) = res :=
  lp_dn st (fun _ => res) n he (fun i hi k hk => by rw [hs i hi k]; exact hk) 0 F (Nat.zero_le _) (by omega)
