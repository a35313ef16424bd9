/-! plan: the best line from a place -/
def chz (D : Nat) (U e : Nat → Nat) (lf : Nat → Option Nat) (f : Nat) : Nat → Nat → Option Nat → Int32 → Option Nat × Int32
  | _, 0, b, y => (b, y)
  | t, m + 1, b, y => if D < U t - U f then (b, y) else match cstF D (U t - U f) (e t) (lf (nxB e t)), b with
    | none, b => chz D U e lf f (t + 1) m b y
    | some v, none => chz D U e lf f (t + 1) m (some v) (nI t)
    | some v, some w => if w < v then chz D U e lf f (t + 1) m (some w) y else chz D U e lf f (t + 1) m (some v) (nI t)
section CHOOSE
variable {S : Nat × (Nat → Int32)} {I : zI} {J : zJ} {k : zK}
theorem g29_l {D f n : Nat} {U e : Nat → Nat} {lf : Nat → Option Nat} (hD : D ≤ 60) (hn : n < 208) (hf : f < n) (h1 : I 55 1 = nI D) (h6 : I 55 6 = nI n) (hU : ∀ t, f ≤ t → t ≤ n → U f ≤ U t ∧ U t < 2 ^ 30 ∧ I 61 t = nI (U t)) (he : ∀ t, f < t → t ≤ n → I 62 t = nI (e t) ∧ e t ≤ 3) (hl : ∀ t, f < t → t ≤ n → e t = 1 ∨ e t = 2 → nxB e t < 208 ∧ I 63 (nxB e t) = oI (lf (nxB e t))) (hv : ∀ q v, lf q = some v → v < 2 ^ 29) (hb : Nat.ble k.1 (mBu 29).1 = true ∧ Nat.ble k.2 (mBu 29).2 = true) : ∀ (m t : Nat) (b : Option Nat) (y : Int32), f < t → n + 1 = t + m → (∀ v, b = some v → v < 2 ^ 30) →
    zd S 29 11 [some (.ref 55), some (.int (nI f)), some (.int (nI t)), none] [] (uc (uc I 63 (upd (I 63) f (oI b))) 64 (upd (I 64) f y)) J k = some (none, mk (uc (uc I 63 (upd (I 63) f (oI (chz D U e lf f t m b y).1))) 64 (upd (I 64) f (chz D U e lf f t m b y).2)) J, k) := by
  intro m
  have zf : zin (nI f) 208 = true := zin_n (by omega) (by decide)
  have cf : (nI f).toNatClampNeg = f := nI_clamp (by omega)
  induction m with
  | zero =>
    intro t b y ht hm hbd
    have e55 : (uc (uc I 63 (upd (I 63) f (oI b))) 64 (upd (I 64) f y)) 55 6 = nI n := by rw [ucn rfl, ucn rfl]; exact h6
    rw [B29_11, e55, if_pos (nI_lt (by omega) (by omega)), B29_94]
    rfl
  | succ m ih =>
    intro t b y ht hm hbd
    generalize hM : uc (uc I 63 (upd (I 63) f (oI b))) 64 (upd (I 64) f y) = M
    have mo : ∀ c, Nat.beq c 63 = false → Nat.beq c 64 = false → M c = I c := fun c a1 a2 => by rw [← hM, ucn a2, ucn a1]
    have m63 : M 63 = upd (I 63) f (oI b) := by rw [← hM, ucn rfl, uc_s]
    obtain ⟨x1, x2, x3⟩ := hU t (by omega) (by omega)
    obtain ⟨f1, f2, f3⟩ := hU f (Nat.le_refl _) (by omega)
    obtain ⟨et1, et2⟩ := he t ht (by omega)
    have ct : (nI t).toNatClampNeg = t := nI_clamp (by omega)
    have zt : zin (nI t) 208 = true := zin_n (by omega) (by decide)
    have eu : nI (U t) - nI (U f) ≤ nI D ↔ U t - U f ≤ D := by rw [pk_sub x1]; exact nI_leI (by omega) (by omega)
    rw [B29_11, mo 55 rfl rfl, h6, if_neg (nI_nlt (by omega) (by omega)), B29_19 zt zf, ct, cf, mo 61 rfl rfl, mo 55 rfl rfl, x3, f3, h1]
    unfold chz
    by_cases hw : D < U t - U f
    · rw [if_neg (fun z => by have := eu.mp z; omega), B29_39, if_pos hw, hM]
    · have h30 : zq S 30 [.ref 55, .int (nI f), .int (nI t)] M J (some (.int (oI (cstF D (U t - U f) (e t) (lf (nxB e t)))))) M J := by
        refine s30 hD (by omega) (by omega) (by rw [mo 55 rfl rfl]; exact h1) x1 (by omega) (by rw [mo 61 rfl rfl]; exact f3) (by rw [mo 61 rfl rfl]; exact x3) (by rw [mo 62 rfl rfl]; exact et1) et2 ?_ (fun v hh => by have := hv _ v hh; omega)
        intro hh
        obtain ⟨n1, n2⟩ := hl t ht (by omega) hh
        refine ⟨n1, ?_⟩
        have hne : nxB e t ≠ f := by unfold nxB; split <;> omega
        rw [m63, pk_un hne]
        exact n2
      have hcb : ∀ v, cstF D (U t - U f) (e t) (lf (nxB e t)) = some v → v < 2 ^ 30 := by
        intro v hh
        have hsq : (D - (U t - U f)) * (D - (U t - U f)) ≤ 60 * 60 := Nat.mul_le_mul (by omega) (by omega)
        have hsq2 : (D - (U t - U f) - 2) * (D - (U t - U f) - 2) ≤ 60 * 60 := Nat.mul_le_mul (by omega) (by omega)
        unfold cstF at hh
        cases hlf : lf (nxB e t) with
        | none =>
          rw [hlf] at hh
          repeat' split at hh
          all_goals first | cases hh | skip
          all_goals omega
        | some r =>
          have := hv _ r hlf
          rw [hlf] at hh
          repeat' split at hh
          · cases hh
          · have hh' : r + (D - (U t - U f) - 2) * (D - (U t - U f) - 2) + 100 = v := Option.some.inj hh
            omega
          · cases hh
          · have hh' : 0 = v := Option.some.inj hh
            omega
          · have hh' : r + (D - (U t - U f)) * (D - (U t - U f)) = v := Option.some.inj hh
            omega
      rw [if_pos (eu.mpr (by omega)), B29_42 hb h30, B29_48, if_neg hw]
      have step : ∀ v, v < 2 ^ 30 → zd S 29 74 [some (.ref 55), some (.int (nI f)), some (.int (nI t)), some (.int (nI v))] [] M J k = zd S 29 11 [some (.ref 55), some (.int (nI f)), some (.int (nI (t + 1))), none] [] (uc (uc I 63 (upd (I 63) f (oI (some v)))) 64 (upd (I 64) f (nI t))) J k := by
        intro v hvv
        rw [B29_74 zf, cf, B29_81 zf, cf, B29_88, nI_1, ← hM, u2_uc rfl, u2uc, upd_upd, u2uc, upd_upd]
        rfl
      cases hcs : cstF D (U t - U f) (e t) (lf (nxB e t)) with
      | none =>
        rw [if_pos (show oI none = -1 from rfl), B29_88, nI_1, ← hM]
        exact ih (t + 1) b y (by omega) (by omega) hbd
      | some v =>
        have hvb := hcb v hcs
        have hvn : ¬ oI (some v) = -1 := fun z => by
          have := (oI_m (o := some v) (fun v' hh => by cases hh; omega)).mp z
          cases this
        rw [if_neg hvn, B29_54 zf, cf, m63, pk_us]
        cases b with
        | none =>
          rw [if_pos (show oI none = -1 from rfl)]
          refine (step v hvb).trans ?_
          exact ih (t + 1) (some v) (nI t) (by omega) (by omega) (fun v' hh => by cases hh; exact hvb)
        | some w =>
          have hwb := hbd w rfl
          have hwn : ¬ oI (some w) = -1 := fun z => by
            have := (oI_m (o := some w) (fun v' hh => by cases hh; omega)).mp z
            cases this
          have elt : oI (some w) < oI (some v) ↔ w < v := nI_ltI (by omega) (by omega)
          rw [if_neg hwn, B29_64 zf, cf, m63, pk_us]
          show _ = some (none, mk (uc (uc I 63 (upd (I 63) f (oI (if w < v then chz D U e lf f (t + 1) m (some w) y else chz D U e lf f (t + 1) m (some v) (nI t)).1))) 64 (upd (I 64) f (if w < v then chz D U e lf f (t + 1) m (some w) y else chz D U e lf f (t + 1) m (some v) (nI t)).2)) J, k)
          by_cases hwv : w < v
          · rw [if_pos (elt.mpr hwv), B29_88, nI_1, ← hM, if_pos hwv]
            exact ih (t + 1) (some w) y (by omega) (by omega) hbd
          · rw [if_neg (fun z => hwv (elt.mp z)), if_neg hwv]
            refine (step v hvb).trans ?_
            exact ih (t + 1) (some v) (nI t) (by omega) (by omega) (fun v' hh => by cases hh; exact hvb)
end CHOOSE
