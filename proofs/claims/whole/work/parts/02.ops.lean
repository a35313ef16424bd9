/-! the instructions of the small machine -/
def i_c (v : Value) (nx : Nat) : zF := fun ls st w k => some (nx, ls, v :: st, w, k)
def i_il (i nx : Nat) : zF := fun ls st w k => match ls[i]? with
  | some (some (.int x)) => some (nx, ls, .int x :: st, w, k)
  | _ => none
def i_ll (i nx : Nat) : zF := fun ls st w k => match ls[i]? with
  | some (some (.long x)) => some (nx, ls, .long x :: st, w, k)
  | _ => none
def i_al (i nx : Nat) : zF := fun ls st w k => match ls[i]? with
  | some (some (.ref x)) => some (nx, ls, .ref x :: st, w, k)
  | some (some (.float x)) => some (nx, ls, .float x :: st, w, k)
  | _ => none
def zc2 : Value → Bool
  | .long _ => true
  | .double _ => true
  | _ => false
def zclr (ls : zL) (i : Nat) : zL := match i with
  | 0 => ls
  | i + 1 => match ls[i]? with
    | some (some v) => cond (zc2 v) (ls.set i none) ls
    | _ => ls
def i_is (i nx : Nat) : zF := fun ls st w k => match st with
  | .int x :: r => if i < ls.length then some (nx, (zclr ls i).set i (some (.int x)), r, w, k) else none
  | _ => none
def i_as (i nx : Nat) : zF := fun ls st w k => match st with
  | .ref x :: r => if i < ls.length then some (nx, (zclr ls i).set i (some (.ref x)), r, w, k) else none
  | _ => none
def i_ls (i nx : Nat) : zF := fun ls st w k => match st with
  | .long x :: r => if i + 1 < ls.length then some (nx, ((zclr ls i).set i (some (.long x))).set (i + 1) none, r, w, k) else none
  | _ => none
def i_in (i : Nat) (n : Int32) (nx : Nat) : zF := fun ls st w k => match ls[i]? with
  | some (some (.int x)) => some (nx, (zclr ls i).set i (some (.int (x + n))), st, w, k)
  | _ => none
def i_bi (f : Int32 → Int32 → Int32) (nx : Nat) : zF := fun ls st w k => match st with
  | .int y :: .int x :: r => some (nx, ls, .int (f x y) :: r, w, k)
  | _ => none
def i_bz (f : Int32 → Int32 → Int32) (nx : Nat) : zF := fun ls st w k => match st with
  | .int y :: .int x :: r => if y = 0 then none else some (nx, ls, .int (f x y) :: r, w, k)
  | _ => none
def i_ui (f : Int32 → Int32) (nx : Nat) : zF := fun ls st w k => match st with
  | .int x :: r => some (nx, ls, .int (f x) :: r, w, k)
  | _ => none
def i_i2l (nx : Nat) : zF := fun ls st w k => match st with
  | .int x :: r => some (nx, ls, .long x.toInt64 :: r, w, k)
  | _ => none
def i_l2i (nx : Nat) : zF := fun ls st w k => match st with
  | .long x :: r => some (nx, ls, .int x.toInt32 :: r, w, k)
  | _ => none
def i_bl (f : Int64 → Int64 → Int64) (nx : Nat) : zF := fun ls st w k => match st with
  | .long y :: .long x :: r => some (nx, ls, .long (f x y) :: r, w, k)
  | _ => none
def i_sl (f : Int64 → Int32 → Int64) (nx : Nat) : zF := fun ls st w k => match st with
  | .int y :: .long x :: r => some (nx, ls, .long (f x y) :: r, w, k)
  | _ => none
def i_cl (nx : Nat) : zF := fun ls st w k => match st with
  | .long y :: .long x :: r => some (nx, ls, .int (lg_cmp x y) :: r, w, k)
  | _ => none
def i_f1 (f : Int32 → Bool) (tg nx : Nat) : zF := fun ls st w k => match st with
  | .int x :: r => some (cond (f x) tg nx, ls, r, w, k)
  | _ => none
def i_f2 (f : Int32 → Int32 → Bool) (tg nx : Nat) : zF := fun ls st w k => match st with
  | .int y :: .int x :: r => some (cond (f x y) tg nx, ls, r, w, k)
  | _ => none
def i_go (tg : Nat) : zF := fun ls st w k => some (tg, ls, st, w, k)
def i_ts (lo hi : Int) (tg : List Nat) (d : Nat) : zF := fun ls st w k => match st with
  | .int x :: r => if x.toInt < lo ∨ hi < x.toInt then some (d, ls, r, w, k) else (match tg[(x.toInt - lo).toNat]? with
    | some t => some (t, ls, r, w, k)
    | none => none)
  | _ => none
def i_dup (nx : Nat) : zF := fun ls st w k => match st with
  | v :: r => if v.category = 1 then some (nx, ls, v :: v :: r, w, k) else none
  | _ => none
def i_pop (nx : Nat) : zF := fun ls st w k => match st with
  | v :: r => if v.category = 1 then some (nx, ls, r, w, k) else none
  | _ => none
def i_dx1 (nx : Nat) : zF := fun ls st w k => match st with
  | v :: u :: r => if v.category = 1 ∧ u.category = 1 then some (nx, ls, v :: u :: v :: r, w, k) else none
  | _ => none
def i_dx2 (nx : Nat) : zF := fun ls st w k => match st with
  | v :: u :: t :: r => if v.category = 1 ∧ u.category = 1 ∧ t.category = 1 then some (nx, ls, v :: u :: t :: v :: r, w, k) else none
  | _ => none
def i_d2 (nx : Nat) : zF := fun ls st w k => match st with
  | v :: u :: r => if v.category = 1 ∧ u.category = 1 then some (nx, ls, v :: u :: v :: u :: r, w, k) else none
  | _ => none
/-- fields -/
def i_gf (ci q nx : Nat) : zF := fun ls st w k => match st with
  | .ref a :: r => (match w[a]? with
    | some (.inr (c', fs)) => if c' = ci then (match fs[q]? with
      | some v => some (nx, ls, v :: r, w, k)
      | none => none) else none
    | _ => none)
  | _ => none
def i_pf (ci q : Nat) (ok : Value → Bool) (nx : Nat) : zF := fun ls st w k => match st with
  | v :: .ref a :: r => (match w[a]? with
    | some (.inr (c', fs)) => if c' = ci ∧ q < fs.length ∧ ok v = true then some (nx, ls, r, w.set a (.inr (c', fs.set q v)), k) else none
    | _ => none)
  | _ => none
def okI : Value → Bool
  | .int _ => true
  | _ => false
def okZ : Value → Bool
  | .int x => decide (x = 0 ∨ x = 1)
  | _ => false
def okJ : Value → Bool
  | .long _ => true
  | _ => false
def okR : Value → Bool
  | .ref _ => true
  | _ => false
/-- arrays: t the kind of their elements (0 int, 1 long, 2 char, 3 boolean; from 4 on references) -/
def zin (i : Int32) (n : Nat) : Bool := decide (0 ≤ i.toInt ∧ i.toInt < n)
def i_ga (t nx : Nat) : zF := fun ls st w k => match st with
  | .int i :: .ref a :: r => (match w[a]? with
    | some (.inl (t', n, .inl f)) => if t' = t ∧ zin i n = true then some (nx, ls, .int (f i.toNatClampNeg) :: r, w, k) else none
    | _ => none)
  | _ => none
def i_gl (nx : Nat) : zF := fun ls st w k => match st with
  | .int i :: .ref a :: r => (match w[a]? with
    | some (.inl (t', n, .inr (.inl f))) => if t' = 1 ∧ zin i n = true then some (nx, ls, .long (f i.toNatClampNeg) :: r, w, k) else none
    | _ => none)
  | _ => none
def i_gq (t nx : Nat) : zF := fun ls st w k => match st with
  | .int i :: .ref a :: r => (match w[a]? with
    | some (.inl (t', n, .inr (.inr (.inr (.inr f))))) => if t' = t ∧ zin i n = true then (match f i.toNatClampNeg with
      | some q => some (nx, ls, .ref q :: r, w, k)
      | none => none) else none
    | _ => none)
  | _ => none
def i_pa (t : Nat) (h : Int32 → Int32) (nx : Nat) : zF := fun ls st w k => match st with
  | .int x :: .int i :: .ref a :: r => (match w[a]? with
    | some (.inl (t', n, .inl f)) => if t' = t ∧ zin i n = true then some (nx, ls, r, w.set a (.inl (t', n, .inl (upd f i.toNatClampNeg (h x)))), k) else none
    | _ => none)
  | _ => none
def i_pl (nx : Nat) : zF := fun ls st w k => match st with
  | .long x :: .int i :: .ref a :: r => (match w[a]? with
    | some (.inl (t', n, .inr (.inl f))) => if t' = 1 ∧ zin i n = true then some (nx, ls, r, w.set a (.inl (t', n, .inr (.inl (vp_updL f i.toNatClampNeg x)))), k) else none
    | _ => none)
  | _ => none
def i_pq (t ci nx : Nat) : zF := fun ls st w k => match st with
  | .ref q :: .int i :: .ref a :: r => (match w[a]?, w[q]? with
    | some (.inl (t', n, .inr (.inr (.inr (.inr f))))), some (.inr (c', _)) => if t' = t ∧ c' = ci ∧ zin i n = true then some (nx, ls, r, w.set a (.inl (t', n, .inr (.inr (.inr (.inr (va_up f i.toNatClampNeg (some q))))))), k) else none
    | _, _ => none)
  | _ => none
def i_le (nx : Nat) : zF := fun ls st w k => match st with
  | .ref a :: r => (match w[a]? with
    | some (.inl (t', n, _)) => if t' = 0 then some (nx, ls, .int (Int32.ofNat n) :: r, w, k) else none
    | _ => none)
  | _ => none
/-- the script -/
def i_sg (L : Nat) (xs : Nat → Int32) (nx : Nat) : zF := fun ls st w k => match st with
  | .int i :: .float _ :: r => if zin i L = true then some (nx, ls, .int (xs i.toNatClampNeg) :: r, w, k) else none
  | _ => none
def i_sn (L : Nat) (nx : Nat) : zF := fun ls st w k => match st with
  | .float _ :: r => some (nx, ls, .int (Int32.ofNat L) :: r, w, k)
  | _ => none
/-- new cells; b: what the method may make -/
def i_nw (b : zK) (ci N : Nat) (fs : List Value) (nx : Nat) : zF := fun ls st w k =>
  if k.1 + 1 ≤ b.1 ∧ k.2 + N ≤ b.2 then some (nx, ls, .ref w.length :: st, w ++ [.inr (ci, fs)], (k.1 + 1, k.2 + N)) else none
def i_na (b : zK) (t : Nat) (x : (Nat → Int32) ⊕ (Nat → Int64) ⊕ (Nat → UInt32) ⊕ (Nat → UInt64) ⊕ (Nat → Option Nat)) (nx : Nat) : zF := fun ls st w k => match st with
  | .int n :: r => if 0 ≤ n.toInt ∧ n.toInt ≤ 65536 ∧ k.1 + 1 ≤ b.1 ∧ k.2 + n.toNatClampNeg ≤ b.2 then some (nx, ls, .ref w.length :: r, w ++ [.inl (t, n.toNatClampNeg, x)], (k.1 + 1, k.2 + n.toNatClampNeg)) else none
  | _ => none
/-- Object.<init> -/
def i_oi (nx : Nat) : zF := fun ls st w k => match st with
  | .ref _ :: r => if (r.map fun v => v.category).sum ≤ 8 then some (nx, ls, r, w, k) else none
  | _ => none
/-- Math.max, Math.min -/
def i_mm (b : zK) (f : Int32 → Int32 → Int32) (nx : Nat) : zF := fun ls st w k => match st with
  | .int y :: .int x :: r => if (r.map fun v => v.category).sum ≤ 8 ∧ k.1 ≤ b.1 ∧ k.2 ≤ b.2 then some (nx, ls, .int (f x y) :: r, w, k) else none
  | _ => none
/-- System.arraycopy of int-like arrays of one kind -/
def zfit (t : Nat) (x : Int32) : Bool := match t with
  | 0 => true
  | 2 => decide (0 ≤ x.toInt ∧ x.toInt < 65536)
  | _ => false
def i_cp (nx : Nat) : zF := fun ls st w k => match st with
  | .int n :: .int dp :: .ref a :: .int sp :: .ref q :: r => (match w[q]?, w[a]? with
    | some (.inl (t0, n0, .inl f)), some (.inl (t1, n1, .inl g)) => if t0 = t1 ∧ (t0 = 0 ∨ t0 = 2) ∧ 0 ≤ sp.toInt ∧ 0 ≤ dp.toInt ∧ 0 ≤ n.toInt ∧ sp.toNatClampNeg + n.toNatClampNeg ≤ n0 ∧ dp.toNatClampNeg + n.toNatClampNeg ≤ n1 ∧ (∀ i, i < n.toNatClampNeg → zfit t0 (f (sp.toNatClampNeg + i)) = true) ∧ (r.map fun v => v.category).sum ≤ 8 then some (nx, ls, r, w.set a (.inl (t1, n1, .inl (va_cpy f g sp.toNatClampNeg dp.toNatClampNeg n.toNatClampNeg))), k) else none
    | _, _ => none)
  | _ => none
/-- locals that are not needed any more are forgotten ahead of an instruction -/
def zkl : List Bool → zL → zL
  | true :: m, _ :: l => none :: zkl m l
  | false :: m, x :: l => x :: zkl m l
  | _, l => l
def i_k (m : List Bool) (g : zF) : zF := fun ls st w k => g (zkl m ls) st w k
