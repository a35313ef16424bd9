/-! plan: the best line from a place, the call -/
section LINE
variable {S : Nat × (Nat → Int32)} {I : zI} {J : zJ}
theorem s29 {D f n : Nat} {U e : Nat → Nat} {lf : Nat → Option Nat} (hD : D ≤ 60) (hn : n < 208) (hf : f < n) (h1 : I 55 1 = nI D) (h6 : I 55 6 = nI n) (hU : ∀ t, f ≤ t → t ≤ n → U f ≤ U t ∧ U t < 2 ^ 30 ∧ I 61 t = nI (U t)) (he : ∀ t, f < t → t ≤ n → I 62 t = nI (e t) ∧ e t ≤ 3) (hl : ∀ t, f < t → t ≤ n → e t = 1 ∨ e t = 2 → nxB e t < 208 ∧ I 63 (nxB e t) = oI (lf (nxB e t))) (hv : ∀ q v, lf q = some v → v < 2 ^ 29) :
    zq S 29 [.ref 55, .int (nI f)] I J none (uc (uc I 63 (upd (I 63) f (oI (chz D U e lf f (f + 1) (n - f) none (I 64 f)).1))) 64 (upd (I 64) f (chz D U e lf f (f + 1) (n - f) none (I 64 f)).2)) J := by
  refine zq_of rfl ?_
  show zd S 29 0 [some (.ref 55), some (.int (nI f)), none, none] [] I J (0, 0) = _
  have hl2 := g29_l (S := S) (J := J) (k := (0, 0)) hD hn hf h1 h6 hU he hl hv ⟨rfl, rfl⟩ (n - f) (f + 1) none (I 64 f) (by omega) (by omega) (fun v hh => by cases hh)
  have hid : upd (I 64) f (I 64 f) = I 64 := by
    funext q
    unfold upd
    by_cases hq : q = f
    · rw [if_pos hq, hq]
    · rw [if_neg hq]
  have h64 : (uc I 63 (upd (I 63) f (oI none))) 64 = I 64 := ucn rfl
  have hM : uc (uc I 63 (upd (I 63) f (oI none))) 64 (upd (I 64) f (I 64 f)) = u2 I 63 f (-1) := by
    rw [hid, ← h64, uc_id]
    rfl
  rw [hM] at hl2
  rw [B29_0 (zin_n (by omega) (by decide)), B29_7, nI_1, nI_clamp (by omega)]
  exact hl2
end LINE
