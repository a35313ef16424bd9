/-! the cells of the four stories and of their parts -/
def flS (s : Nat) : List (Nat × Nat) := [(0, 0), (2, 8 + 12 * s), (2, 9 + 12 * s), (2, 10 + 12 * s), (2, 11 + 12 * s), (2, 12 + 12 * s), (2, 13 + 12 * s), (2, 14 + 12 * s), (0, 0), (0, 0), (0, 0), (0, 0), (0, 0), (0, 0), (0, 0), (0, 0), (0, 0), (1, 0)]
def flP (s p : Nat) : List (Nat × Nat) := [(2, 16 + 12 * s + 2 * p), (0, 0), (0, 0), (0, 0), (0, 0), (0, 0), (0, 0), (0, 0)]
theorem lt4 {P : Nat → Prop} (h0 : P 0) (h1 : P 1) (h2 : P 2) (h3 : P 3) {s : Nat} (hs : s < 4) : P s := match s, hs with
  | 0, _ => h0
  | 1, _ => h1
  | 2, _ => h2
  | 3, _ => h3
theorem lt2 {P : Nat → Prop} (h0 : P 0) (h1 : P 1) {s : Nat} (hs : s < 2) : P s := match s, hs with
  | 0, _ => h0
  | 1, _ => h1
theorem shS {s : Nat} (hs : s < 4) : zShL[7 + 12 * s]? = some (.inl (9, flS s)) := lt4 (P := fun s => zShL[7 + 12 * s]? = some (.inl (9, flS s))) rfl rfl rfl rfl hs
theorem shS1 {s : Nat} (hs : s < 4) : zShL[8 + 12 * s]? = some (.inr (.inl (0, 4))) := lt4 (P := fun s => zShL[8 + 12 * s]? = some (.inr (.inl (0, 4)))) rfl rfl rfl rfl hs
theorem shS2 {s : Nat} (hs : s < 4) : zShL[9 + 12 * s]? = some (.inr (.inl (0, 4))) := lt4 (P := fun s => zShL[9 + 12 * s]? = some (.inr (.inl (0, 4)))) rfl rfl rfl rfl hs
theorem shS3 {s : Nat} (hs : s < 4) : zShL[10 + 12 * s]? = some (.inr (.inl (0, 4))) := lt4 (P := fun s => zShL[10 + 12 * s]? = some (.inr (.inl (0, 4)))) rfl rfl rfl rfl hs
theorem shS4 {s : Nat} (hs : s < 4) : zShL[11 + 12 * s]? = some (.inr (.inl (0, 40))) := lt4 (P := fun s => zShL[11 + 12 * s]? = some (.inr (.inl (0, 40)))) rfl rfl rfl rfl hs
theorem shS5 {s : Nat} (hs : s < 4) : zShL[12 + 12 * s]? = some (.inr (.inl (0, 40))) := lt4 (P := fun s => zShL[12 + 12 * s]? = some (.inr (.inl (0, 40)))) rfl rfl rfl rfl hs
theorem shS6 {s : Nat} (hs : s < 4) : zShL[13 + 12 * s]? = some (.inr (.inl (0, 40))) := lt4 (P := fun s => zShL[13 + 12 * s]? = some (.inr (.inl (0, 40)))) rfl rfl rfl rfl hs
theorem shS7 {s : Nat} (hs : s < 4) : zShL[14 + 12 * s]? = some (.inr (.inr (5, [15 + 12 * s, 17 + 12 * s]))) := lt4 (P := fun s => zShL[14 + 12 * s]? = some (.inr (.inr (5, [15 + 12 * s, 17 + 12 * s])))) rfl rfl rfl rfl hs
theorem shP {s p : Nat} (hs : s < 4) (hp : p < 2) : zShL[15 + 12 * s + 2 * p]? = some (.inl (4, flP s p)) := lt4 (P := fun s => zShL[15 + 12 * s + 2 * p]? = some (.inl (4, flP s p))) (lt2 (P := fun p => zShL[15 + 12 * 0 + 2 * p]? = some (.inl (4, flP 0 p))) rfl rfl hp) (lt2 (P := fun p => zShL[15 + 12 * 1 + 2 * p]? = some (.inl (4, flP 1 p))) rfl rfl hp) (lt2 (P := fun p => zShL[15 + 12 * 2 + 2 * p]? = some (.inl (4, flP 2 p))) rfl rfl hp) (lt2 (P := fun p => zShL[15 + 12 * 3 + 2 * p]? = some (.inl (4, flP 3 p))) rfl rfl hp) hs
theorem shPa {s p : Nat} (hs : s < 4) (hp : p < 2) : zShL[16 + 12 * s + 2 * p]? = some (.inr (.inl (0, 4))) := lt4 (P := fun s => zShL[16 + 12 * s + 2 * p]? = some (.inr (.inl (0, 4)))) (lt2 (P := fun p => zShL[16 + 12 * 0 + 2 * p]? = some (.inr (.inl (0, 4)))) rfl rfl hp) (lt2 (P := fun p => zShL[16 + 12 * 1 + 2 * p]? = some (.inr (.inl (0, 4)))) rfl rfl hp) (lt2 (P := fun p => zShL[16 + 12 * 2 + 2 * p]? = some (.inr (.inl (0, 4)))) rfl rfl hp) (lt2 (P := fun p => zShL[16 + 12 * 3 + 2 * p]? = some (.inr (.inl (0, 4)))) rfl rfl hp) hs
