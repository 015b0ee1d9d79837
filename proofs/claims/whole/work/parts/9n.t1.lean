-- the tape: feed, end
theorem sh255 (v : BitVec 32) (s : Nat) (hs : s ≤ 24) : (v.sshiftRight s) &&& 255#32 = (v >>> s) &&& 255#32 := by
  apply BitVec.eq_of_getLsbD_eq
  intro i hi
  have h8 : (255#32).getLsbD i = decide (i < 8) := by
    have : ∀ i : Fin 32, (255#32).getLsbD i.val = decide (i.val < 8) := by decide
    exact this ⟨i, hi⟩
  rw [BitVec.getLsbD_and, BitVec.getLsbD_and, h8]
  by_cases q : i < 8
  · rw [BitVec.getLsbD_sshiftRight, BitVec.getLsbD_ushiftRight]
    have h1 : ¬ 32 ≤ i := by omega
    have h2 : s + i < 32 := by omega
    simp [h1, h2]
  · simp [q]
def bN (x : Int32) (i : Nat) : Int32 := (x >>> (jI (24 - 8 * (i : Int)) &&& 31)) &&& 255
theorem bN_u (x : Int32) (i : Nat) (hi : i < 4) : (x.toUInt32 >>> ((jI (24 - 8 * (i : Int))).toUInt32 &&& Int32.toUInt32 31)).toInt32 &&& 255 = bN x i := by
  have h4 : i = 0 ∨ i = 1 ∨ i = 2 ∨ i = 3 := by omega
  unfold bN
  apply Int32.toBitVec_inj.mp
  have key : ∀ s : Nat, s ≤ 24 → ∀ y : Int32, (y &&& 31).toBitVec.smod 32 = BitVec.ofNat 32 s → ((y.toUInt32 &&& Int32.toUInt32 31).toBitVec % 32 = BitVec.ofNat 32 s) → ((x.toUInt32 >>> (y.toUInt32 &&& Int32.toUInt32 31)).toInt32 &&& 255).toBitVec = ((x >>> (y &&& 31)) &&& 255).toBitVec := by
    intro s hs y e1 e2
    have h := sh255 x.toBitVec s hs
    have l : ((x.toUInt32 >>> (y.toUInt32 &&& Int32.toUInt32 31)).toInt32 &&& 255).toBitVec = (x.toBitVec >>> ((y.toUInt32 &&& Int32.toUInt32 31).toBitVec % 32)) &&& 255#32 := rfl
    have r : ((x >>> (y &&& 31)) &&& 255).toBitVec = (x.toBitVec.sshiftRight' ((y &&& 31).toBitVec.smod 32)) &&& 255#32 := rfl
    rw [l, r, e1, e2]
    have n1 : (BitVec.ofNat 32 s).toNat = s := by rw [BitVec.toNat_ofNat]; omega
    show x.toBitVec >>> (BitVec.ofNat 32 s).toNat &&& 255#32 = x.toBitVec.sshiftRight (BitVec.ofNat 32 s).toNat &&& 255#32
    rw [n1]
    exact h.symm
  rcases h4 with rfl | rfl | rfl | rfl
  · exact key 24 (by omega) _ (by decide) (by decide)
  · exact key 16 (by omega) _ (by decide) (by decide)
  · exact key 8 (by omega) _ (by decide) (by decide)
  · exact key 0 (by omega) _ (by decide) (by decide)
/-- how many bytes, the bytes -/
def Tp : Type := Nat × (Nat → Int32)
def Tp.n (T : Tp) : Nat := T.1
def Tp.b (T : Tp) : Nat → Int32 := T.2
def TK (σ : Mm) (T : Tp) : Prop := T.n ≤ 320 ∧ σ.1 6 1 = jI (T.n : Int) ∧ ∀ j, j < T.n → σ.1 7 j = T.b j
def TM (σ : Mm) (T : Tp) : Prop := T.n ≤ 320 ∧ σ.1 98 2 = jI (T.n : Int) ∧ ∀ j, j < T.n → σ.1 99 j = T.b j
def tPut (T : Tp) (v : Int32) : Tp := (T.n + 1, fun j => if j = T.n then v.toInt8.toInt32.toInt8.toInt32 else T.b j)
def tAdd (T : Tp) (v : Int32) : Tp := if v = 0 then T else tPut T v
def tI (T : Tp) (x : Int32) : Nat → Tp
  | 0 => T
  | i + 1 => tAdd (tI T x i) (bN x i)
def tC (x : Int32) : Nat → Nat
  | 0 => 0
  | i + 1 => tC x i + (if bN x i = 0 then 0 else 1)
theorem tI_n (T : Tp) (x : Int32) : ∀ i, (tI T x i).n = T.n + tC x i
  | 0 => rfl
  | i + 1 => by
    have h := tI_n T x i
    show (tAdd (tI T x i) (bN x i)).n = T.n + (tC x i + (if bN x i = 0 then 0 else 1))
    unfold tAdd
    by_cases q : bN x i = 0
    · rw [if_pos q, if_pos q]
      omega
    · rw [if_neg q, if_neg q]
      show (tI T x i).n + 1 = _
      omega
theorem tC_le (x : Int32) : ∀ i, tC x i ≤ i
  | 0 => Nat.le_refl _
  | i + 1 => by
    have := tC_le x i
    show tC x i + (if bN x i = 0 then 0 else 1) ≤ i + 1
    split <;> omega
theorem tC_mono (x : Int32) (i : Nat) : ∀ k, tC x i ≤ tC x (i + k)
  | 0 => Nat.le_refl _
  | k + 1 => by
    have := tC_mono x i k
    show tC x i ≤ tC x (i + k) + (if bN x (i + k) = 0 then 0 else 1)
    omega
section TPk
variable {l : Launch} {G : GT} {d : Nat} {σ : Mm} {Q : Po} {T : Tp}
theorem k_countBytes (x : Int32) (hq : Q (some (.int (jI (tC x 4 : Int)))) σ) : MW l G d mX9_countBytes [.ref 6, .int x] σ Q := by
  have key : ∀ (m i : Nat) (u v : Int32), i + m = 4 → u = jI (tC x i : Int) → v = jI (24 - 8 * (i : Int)) → Wp l G d mX9_countBytes 5 [(0, .ref 6), (1, .int x), (2, .int u), (3, .int v)] [] σ Q := by
    intro m
    induction m with
    | zero =>
      intro i u v hm hu hv
      obtain rfl : i = 4 := by omega
      refine wX9_countBytes [] 60 ?_
      refine brlt (24 - 8 * ((4 : Nat) : Int)) 0 (fun _ => ?_) (fun z => by omega) (hx := hv) (hy := rfl)
      rw [hu]
      exact hq
    | succ m ih =>
      intro i u v hm hu hv
      have hb := bN_u x i (by omega)
      rw [← hv] at hb
      have hc := tC_le x i
      have es : tC x (i + 1) = tC x i + (if bN x i = 0 then 0 else 1) := rfl
      refine wX9_countBytes [(5, [0, 1, 2, 3])] 60 ?_
      refine brlt (24 - 8 * (i : Int)) 0 (fun z => by omega) (fun _ => ?_) (hx := hv) (hy := rfl)
      refine And.intro (fun z => ?_) (fun z => ?_)
      · rw [hb] at z
        refine ih (i + 1) _ _ (by omega) ?_ (by rw [hv]; simp only [jlit, jneg, jadd, jsub]; congr 1; omega)
        rw [es, if_pos z, hu]
        first | rfl | assumption | (simp only [jlit, jneg, jadd, jsub, jmul]; done) | (simp only [jlit, jneg, jadd, jsub, jmul]; congr 1 <;> omega) | (congr 1 <;> omega)
      · rw [hb] at z
        refine ih (i + 1) _ _ (by omega) ?_ (by rw [hv]; simp only [jlit, jneg, jadd, jsub]; congr 1; omega)
        rw [es, if_neg z, hu]
        first | rfl | assumption | (simp only [jlit, jneg, jadd, jsub, jmul]; done) | (simp only [jlit, jneg, jadd, jsub, jmul]; congr 1 <;> omega) | (congr 1 <;> omega)
  refine vX9_countBytes [(5, [0, 1, 2, 3])] 60 ?_
  exact key 4 0 _ _ (by omega) rfl rfl
theorem k_addBytes (x : Int32) (hT : TK σ T) (hn : T.n + tC x 4 ≤ 320) (hq : ∀ τ : Mm, (∀ c, c ≠ 6 → c ≠ 7 → τ.1 c = σ.1 c) → τ.2 = σ.2 → TK τ (tI T x 4) → Q none τ) : MW l G d mX9_addBytes [.ref 6, .int x] σ Q := by
  have key : ∀ (m i : Nat) (τ : Mm) (v : Int32), i + m = 4 → v = jI (24 - 8 * (i : Int)) → (∀ c, c ≠ 6 → c ≠ 7 → τ.1 c = σ.1 c) → τ.2 = σ.2 → TK τ (tI T x i) → Wp l G d mX9_addBytes 3 [(0, .ref 6), (1, .int x), (2, .int v)] [] τ Q := by
    intro m
    induction m with
    | zero =>
      intro i τ v hm hv e1 e2 hI
      obtain rfl : i = 4 := by omega
      refine wX9_addBytes [] 60 ?_
      refine brlt (24 - 8 * ((4 : Nat) : Int)) 0 (fun _ => ?_) (fun z => by omega) (hx := hv) (hy := rfl)
      exact hq τ e1 e2 hI
    | succ m ih =>
      intro i τ v hm hv e1 e2 hI
      have hb := bN_u x i (by omega)
      rw [← hv] at hb
      have es : tI T x (i + 1) = tAdd (tI T x i) (bN x i) := rfl
      have en := tI_n T x i
      have em := tC_mono x (i + 1) (4 - (i + 1))
      rw [show i + 1 + (4 - (i + 1)) = 4 by omega] at em
      have ec : tC x (i + 1) = tC x i + (if bN x i = 0 then 0 else 1) := rfl
      obtain ⟨t1, t2, t3⟩ := hI
      refine wX9_addBytes [(3, [0, 1, 2])] 60 ?_
      refine brlt (24 - 8 * (i : Int)) 0 (fun z => by omega) (fun _ => ?_) (hx := hv) (hy := rfl)
      refine And.intro (fun z => ?_) (fun z => ?_)
      · rw [hb] at z
        refine ih (i + 1) τ _ (by omega) (by rw [hv]; simp only [jlit, jneg, jadd, jsub]; congr 1; omega) e1 e2 ?_
        rw [es]
        unfold tAdd
        rw [if_pos z]
        exact ⟨t1, t2, t3⟩
      · have z' := z
        rw [hb] at z'
        rw [if_neg z'] at ec
        refine brle 320 ((tI T x i).n : Int) (fun w => by omega) (fun _ => ?_) (hx := rfl) (hy := t2)
        refine stI 320 (tI T x i).n ?_ (hi := t2)
        refine ih (i + 1) _ _ (by omega) (by rw [hv]; simp only [jlit, jneg, jadd, jsub]; congr 1; omega) (fun c q1 q2 => by rw [uI_n q1, uI_n q2]; exact e1 c q1 q2) e2 ?_
        rw [es]
        unfold tAdd
        rw [if_neg z']
        refine ⟨show (tI T x i).n + 1 ≤ 320 by omega, ?_, fun j hj => ?_⟩
        · rw [uI_at, uI_n (by decide), t2]
          show _ = jI (((tI T x i).n + 1 : Nat) : Int)
          first | rfl | assumption | (simp only [jlit, jneg, jadd, jsub, jmul]; done) | (simp only [jlit, jneg, jadd, jsub, jmul]; congr 1 <;> omega) | (congr 1 <;> omega)
        · have hj : j < (tI T x i).n + 1 := hj
          show _ = (if j = (tI T x i).n then (bN x i).toInt8.toInt32.toInt8.toInt32 else (tI T x i).b j)
          rw [uI_n (by decide)]
          by_cases w : j = (tI T x i).n
          · rw [w, uI_at, if_pos rfl, hb]
          · rw [if_neg w, uI_ne (Or.inr w)]
            exact t3 j (by omega)
  refine vX9_addBytes [(3, [0, 1, 2])] 60 ?_
  exact key 4 0 σ _ (by omega) rfl (fun _ _ _ => rfl) rfl hT
theorem c_bytesOf (x : Int32) (hq : Q (some (.int (jI (tC x 4 : Int)))) σ) : MW l G d mX12_bytesOf [.int x] σ Q := by
  have sh : ∀ k : Nat, k < 4 → (x >>> ((8 * jI (k : Int)) &&& 31)) &&& 255 = bN x (3 - k) := fun k hk => by
    unfold bN
    have e : (8 : Int32) * jI (k : Int) = jI (24 - 8 * ((3 - k : Nat) : Int)) := by
      rw [show (8 : Int32) = jI 8 from rfl, jmul]
      congr 1
      omega
    rw [e]
  let z : Nat → Nat := fun i => if bN x i = 0 then 0 else 1
  have e4 : tC x 4 = z 3 + z 2 + z 1 + z 0 := by
    show 0 + z 0 + z 1 + z 2 + z 3 = _
    omega
  have hz : ∀ i, z i ≤ 1 := fun i => by show (if bN x i = 0 then 0 else 1) ≤ 1; split <;> omega
  have one : ∀ (k s : Nat) (u v : Int32), k < 4 → s ≤ 4 → u = jI (s : Int) → v = jI (k : Int) → (∀ u' v', u' = jI ((s + z (3 - k) : Nat) : Int) → v' = jI ((k + 1 : Nat) : Int) → Wp l G d mX12_bytesOf 4 [(0, .int x), (1, .int u'), (2, .int v')] [] σ Q) → Wp l G d mX12_bytesOf 4 [(0, .int x), (1, .int u), (2, .int v)] [] σ Q := by
    intro k s u v hk hs hu hv go
    have hb := sh k hk
    rw [← hv] at hb
    refine wX12_bytesOf [(4, [0, 1, 2])] 60 ?_
    refine brle 4 (k : Int) (fun w => by omega) (fun _ => ?_) (hx := rfl) (hy := hv)
    refine And.intro (fun w => ?_) (fun w => ?_)
    · rw [hb] at w
      refine go _ _ ?_ (by rw [hv]; simp only [jlit, jadd]; congr 1)
      rw [hu]
      have : z (3 - k) = 0 := if_pos w
      rw [this]
      first | rfl | assumption | (simp only [jlit, jneg, jadd, jsub, jmul]; done) | (simp only [jlit, jneg, jadd, jsub, jmul]; congr 1 <;> omega) | (congr 1 <;> omega)
    · rw [hb] at w
      refine go _ _ ?_ (by rw [hv]; simp only [jlit, jadd]; congr 1)
      rw [hu]
      have : z (3 - k) = 1 := if_neg w
      rw [this]
      first | rfl | assumption | (simp only [jlit, jneg, jadd, jsub, jmul]; done) | (simp only [jlit, jneg, jadd, jsub, jmul]; congr 1 <;> omega) | (congr 1 <;> omega)
  have h0 := hz 0
  have h1 := hz 1
  have h2 := hz 2
  have h3 := hz 3
  refine vX12_bytesOf [(4, [0, 1, 2])] 60 ?_
  refine one 0 0 _ _ (by omega) (by omega) rfl rfl (fun u1 v1 a1 b1 => ?_)
  refine one 1 (0 + z 3) u1 v1 (by omega) (by omega) a1 b1 (fun u2 v2 a2 b2 => ?_)
  refine one 2 (0 + z 3 + z 2) u2 v2 (by omega) (by omega) a2 b2 (fun u3 v3 a3 b3 => ?_)
  refine one 3 (0 + z 3 + z 2 + z 1) u3 v3 (by omega) (by omega) a3 b3 (fun u4 v4 a4 b4 => ?_)
  refine wX12_bytesOf [] 60 ?_
  refine brle 4 ((3 + 1 : Nat) : Int) (fun _ => ?_) (fun w => by omega) (hx := rfl) (hy := b4)
  rw [e4] at hq
  rw [a4, show 0 + z 3 + z 2 + z 1 + z (3 - 3) = z 3 + z 2 + z 1 + z 0 by show 0 + z 3 + z 2 + z 1 + z 0 = _; omega]
  exact hq
theorem c_brings (x : Int32) (hT : TM σ T) (hn : T.n + tC x 4 ≤ 320) (hq : ∀ τ : Mm, (∀ c, c ≠ 98 → c ≠ 99 → τ.1 c = σ.1 c) → τ.2 = σ.2 → (∀ k, k ≠ 2 → τ.1 98 k = σ.1 98 k) → TM τ (tI T x 4) → Q none τ) : MW l G d mX12_brings [.ref 98, .int x] σ Q := by
  have key : ∀ (m i : Nat) (τ : Mm) (v : Int32), i + m = 4 → v = jI (24 - 8 * (i : Int)) → (∀ c, c ≠ 98 → c ≠ 99 → τ.1 c = σ.1 c) → τ.2 = σ.2 → (∀ k, k ≠ 2 → τ.1 98 k = σ.1 98 k) → TM τ (tI T x i) → Wp l G d mX12_brings 3 [(0, .ref 98), (1, .int x), (2, .int v)] [] τ Q := by
    intro m
    induction m with
    | zero =>
      intro i τ v hm hv e1 e2 e3 hI
      obtain rfl : i = 4 := by omega
      refine wX12_brings [] 60 ?_
      refine brlt (24 - 8 * ((4 : Nat) : Int)) 0 (fun _ => ?_) (fun z => by omega) (hx := hv) (hy := rfl)
      exact hq τ e1 e2 e3 hI
    | succ m ih =>
      intro i τ v hm hv e1 e2 e3 hI
      have hb : (x >>> (v &&& 31)) &&& 255 = bN x i := by unfold bN; rw [hv]
      have es : tI T x (i + 1) = tAdd (tI T x i) (bN x i) := rfl
      have en := tI_n T x i
      have em := tC_mono x (i + 1) (4 - (i + 1))
      rw [show i + 1 + (4 - (i + 1)) = 4 by omega] at em
      have ec : tC x (i + 1) = tC x i + (if bN x i = 0 then 0 else 1) := rfl
      obtain ⟨t1, t2, t3⟩ := hI
      refine wX12_brings [(3, [0, 1, 2])] 60 ?_
      refine brlt (24 - 8 * (i : Int)) 0 (fun z => by omega) (fun _ => ?_) (hx := hv) (hy := rfl)
      refine And.intro (fun z => ?_) (fun z => ?_)
      · rw [hb] at z
        refine ih (i + 1) τ _ (by omega) (by rw [hv]; simp only [jlit, jneg, jadd, jsub]; congr 1; omega) e1 e2 e3 ?_
        rw [es]
        unfold tAdd
        rw [if_pos z]
        exact ⟨t1, t2, t3⟩
      · have z' := z
        rw [hb] at z'
        rw [if_neg z'] at ec
        refine stI 320 (tI T x i).n ?_ (hi := t2)
        refine ih (i + 1) _ _ (by omega) (by rw [hv]; simp only [jlit, jneg, jadd, jsub]; congr 1; omega) (fun c q1 q2 => by rw [uI_n q1, uI_n q2]; exact e1 c q1 q2) e2 (fun k hk => by rw [uI_ne (Or.inr hk), uI_n (by decide)]; exact e3 k hk) ?_
        rw [es]
        unfold tAdd
        rw [if_neg z']
        refine ⟨show (tI T x i).n + 1 ≤ 320 by omega, ?_, fun j hj => ?_⟩
        · rw [uI_at, uI_n (by decide), t2]
          show _ = jI (((tI T x i).n + 1 : Nat) : Int)
          first | rfl | assumption | (simp only [jlit, jneg, jadd, jsub, jmul]; done) | (simp only [jlit, jneg, jadd, jsub, jmul]; congr 1 <;> omega) | (congr 1 <;> omega)
        · have hj : j < (tI T x i).n + 1 := hj
          show _ = (if j = (tI T x i).n then (bN x i).toInt8.toInt32.toInt8.toInt32 else (tI T x i).b j)
          rw [uI_n (by decide)]
          by_cases w : j = (tI T x i).n
          · rw [w, uI_at, if_pos rfl, hb]
          · rw [if_neg w, uI_ne (Or.inr w)]
            exact t3 j (by omega)
  refine vX12_brings [(3, [0, 1, 2])] 60 ?_
  exact key 4 0 σ _ (by omega) rfl (fun _ _ _ => rfl) rfl (fun _ _ => rfl) hT
/-- five ints fed -/
def tFeed (T : Tp) (a b c e f : Int32) : Tp := tI (tI (tI (tI (tI T a 4) b 4) c 4) e 4) f 4
def tSum (a b c e f : Int32) : Nat := tC a 4 + tC b 4 + tC c 4 + tC e 4 + tC f 4
theorem k_feed (a b c e f : Int32) (hT : TK σ T) (hq1 : 320 < T.n + tSum a b c e f → Q (some (.int (-1))) σ) (hq : T.n + tSum a b c e f ≤ 320 → ∀ τ : Mm, (∀ c, c ≠ 6 → c ≠ 7 → τ.1 c = σ.1 c) → τ.2 = σ.2 → TK τ (tFeed T a b c e f) → Q (some (.int (jI ((tFeed T a b c e f).n : Int)))) τ) : MW l G (d + 1) mX11_feed [.ref 0, .int a, .int b, .int c, .int e, .int f] σ Q := by
  have ha := tC_le a 4
  have hb := tC_le b 4
  have hc := tC_le c 4
  have he := tC_le e 4
  have hf := tC_le f 4
  have hn := hT.1
  have n1 := tI_n T a 4
  have n2 := tI_n (tI T a 4) b 4
  have n3 := tI_n (tI (tI T a 4) b 4) c 4
  have n4 := tI_n (tI (tI (tI T a 4) b 4) c 4) e 4
  have n5 := tI_n (tI (tI (tI (tI T a 4) b 4) c 4) e 4) f 4
  unfold tSum at hq1 hq
  refine vX11_feed [] 90 ?_
  refine k_countBytes a ?_
  refine k_countBytes b ?_
  refine k_countBytes c ?_
  refine k_countBytes e ?_
  refine k_countBytes f ?_
  refine brle ((T.n + (tC a 4 + tC b 4 + tC c 4 + tC e 4 + tC f 4) : Nat) : Int) 320 (fun q => ?_) (fun q => hq1 (by omega)) (hx := by rw [hT.2.1]; simp only [jadd]; congr 1) (hy := rfl)
  have hq := hq (by omega)
  refine k_addBytes a hT (by omega) (fun τ1 f1 g1 t1 => ?_)
  refine k_addBytes b t1 (by omega) (fun τ2 f2 g2 t2 => ?_)
  refine k_addBytes c t2 (by omega) (fun τ3 f3 g3 t3 => ?_)
  refine k_addBytes e t3 (by omega) (fun τ4 f4 g4 t4 => ?_)
  refine k_addBytes f t4 (by omega) (fun τ5 f5 g5 t5 => ?_)
  have hq := hq τ5 (fun c q1 q2 => by rw [f5 c q1 q2, f4 c q1 q2, f3 c q1 q2, f2 c q1 q2, f1 c q1 q2]) (by rw [g5, g4, g3, g2, g1]) t5
  have e5 : τ5.1 6 1 = jI ((tFeed T a b c e f).n : Int) := t5.2.1
  rw [← e5] at hq
  exact hq
theorem c_feed (a b c e f : Int32) (hT : TM σ T) (hq1 : 320 < T.n + tSum a b c e f → Q (some (.int (-1))) (uI σ 98 0 0)) (hq : T.n + tSum a b c e f ≤ 320 → ∀ τ : Mm, (∀ c, c ≠ 98 → c ≠ 99 → τ.1 c = σ.1 c) → τ.2 = σ.2 → (∀ k, k ≠ 0 → k ≠ 2 → τ.1 98 k = σ.1 98 k) → TM τ (tFeed T a b c e f) → Q (some (.int (jI ((tFeed T a b c e f).n : Int)))) τ) : MW l G (d + 1) mX12_feed [.ref 98, .int a, .int b, .int c, .int e, .int f] σ Q := by
  have ha := tC_le a 4
  have hb := tC_le b 4
  have hc := tC_le c 4
  have he := tC_le e 4
  have hf := tC_le f 4
  have hn := hT.1
  have n1 := tI_n T a 4
  have n2 := tI_n (tI T a 4) b 4
  have n3 := tI_n (tI (tI T a 4) b 4) c 4
  have n4 := tI_n (tI (tI (tI T a 4) b 4) c 4) e 4
  have n5 := tI_n (tI (tI (tI (tI T a 4) b 4) c 4) e 4) f 4
  have T0 : TM (uI σ 98 0 0) T := ⟨hT.1, by rw [uI_ne (Or.inr (by decide))]; exact hT.2.1, fun j hj => by rw [uI_n (by decide)]; exact hT.2.2 j hj⟩
  unfold tSum at hq1 hq
  refine vX12_feed [] 90 ?_
  refine c_bytesOf a ?_
  refine c_bytesOf b ?_
  refine c_bytesOf c ?_
  refine c_bytesOf e ?_
  refine c_bytesOf f ?_
  refine brle ((T.n + (tC a 4 + tC b 4 + tC c 4 + tC e 4 + tC f 4) : Nat) : Int) 320 (fun q => ?_) (fun q => hq1 (by omega)) (hx := by rw [T0.2.1]; simp only [jadd]; congr 1; omega) (hy := rfl)
  have hq := hq (by omega)
  refine c_brings a T0 (by omega) (fun τ1 f1 g1 k1 t1 => ?_)
  refine c_brings b t1 (by omega) (fun τ2 f2 g2 k2 t2 => ?_)
  refine c_brings c t2 (by omega) (fun τ3 f3 g3 k3 t3 => ?_)
  refine c_brings e t3 (by omega) (fun τ4 f4 g4 k4 t4 => ?_)
  refine c_brings f t4 (by omega) (fun τ5 f5 g5 k5 t5 => ?_)
  have hq := hq τ5 (fun c q1 q2 => by rw [f5 c q1 q2, f4 c q1 q2, f3 c q1 q2, f2 c q1 q2, f1 c q1 q2, uI_n q1]) (by rw [g5, g4, g3, g2, g1]; rfl) (fun k q1 q2 => by rw [k5 k q2, k4 k q2, k3 k q2, k2 k q2, k1 k q2, uI_ne (Or.inr q1)]) t5
  have e5 : τ5.1 98 2 = jI ((tFeed T a b c e f).n : Int) := t5.2.1
  rw [← e5] at hq
  exact hq
theorem k_end {x : Int32} (n : Int) (rn : R31 n) (hT : TK σ T) (hq1 : ¬ (0 ≤ n ∧ n ≤ (T.n : Int)) → Q (some (.int 0)) σ) (hq : 0 ≤ n ∧ n ≤ (T.n : Int) → ∀ τ : Mm, (∀ c, c ≠ 6 → τ.1 c = σ.1 c) → τ.2 = σ.2 → TK τ (n.toNat, T.b) → Q (some (.int 1)) τ) (ex : x = jI n := by first | rfl | assumption | (simp only [jlit, jneg, jadd, jsub, jmul]; done) | (simp only [jlit, jneg, jadd, jsub, jmul]; congr 1 <;> omega) | (congr 1 <;> omega)) : MW l G d mX11_end [.ref 0, .int x] σ Q := by
  have h1 := hT.1
  refine vX11_end [] 60 ?_
  refine brlt n 0 (fun q => ⟨Or.inl rfl, hq1 (by omega)⟩) (fun q1 => ?_)
  refine brle n (T.n : Int) (fun q2 => ?_) (fun q => ⟨Or.inl rfl, hq1 (by omega)⟩) (hx := ex) (hy := hT.2.1)
  refine And.intro (Or.inr rfl) ?_
  refine hq ⟨q1, q2⟩ _ (fun c hc => by rw [uI_n hc]) rfl ⟨show n.toNat ≤ 320 by omega, ?_, fun j hj => ?_⟩
  · rw [uI_at, ex]
    show jI n = jI (n.toNat : Int)
    congr 1
    omega
  · have hj : j < n.toNat := hj
    rw [uI_n (by decide)]
    exact hT.2.2 j (by omega)
theorem c_end {x : Int32} (n : Int) (rn : R31 n) (hT : TM σ T) (hq1 : ¬ (0 ≤ n ∧ n ≤ (T.n : Int)) → Q (some (.int 0)) (uI σ 98 0 0)) (hq : 0 ≤ n ∧ n ≤ (T.n : Int) → ∀ τ : Mm, (∀ c, c ≠ 98 → τ.1 c = σ.1 c) → τ.2 = σ.2 → (∀ k, k ≠ 0 → k ≠ 2 → τ.1 98 k = σ.1 98 k) → TM τ (n.toNat, T.b) → Q (some (.int 1)) τ) (ex : x = jI n := by first | rfl | assumption | (simp only [jlit, jneg, jadd, jsub, jmul]; done) | (simp only [jlit, jneg, jadd, jsub, jmul]; congr 1 <;> omega) | (congr 1 <;> omega)) : MW l G d mX12_end [.ref 98, .int x] σ Q := by
  have h1 := hT.1
  have e2 : (uI σ 98 0 0).1 98 2 = jI (T.n : Int) := by rw [uI_ne (Or.inr (by decide))]; exact hT.2.1
  refine vX12_end [] 60 ?_
  refine brlt n 0 (fun q => ⟨Or.inl rfl, hq1 (by omega)⟩) (fun q1 => ?_)
  refine brle n (T.n : Int) (fun q2 => ?_) (fun q => ⟨Or.inl rfl, hq1 (by omega)⟩) (hx := ex) (hy := e2)
  refine And.intro (Or.inr rfl) ?_
  refine hq ⟨q1, q2⟩ _ (fun c hc => by rw [uI_n hc, uI_n hc]) rfl (fun k k1 k2 => by rw [uI_ne (Or.inr k2), uI_ne (Or.inr k1)]) ⟨show n.toNat ≤ 320 by omega, ?_, fun j hj => ?_⟩
  · rw [uI_at, ex]
    show jI n = jI (n.toNat : Int)
    congr 1
    omega
  · have hj : j < n.toNat := hj
    rw [uI_n (by decide), uI_n (by decide)]
    exact hT.2.2 j (by omega)
end TPk
