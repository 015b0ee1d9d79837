-- unlike: the reference
def SV (f g : Nat → Int32) (n : Nat) : Prop := ∀ v : Int32, (∃ j, j < n ∧ f j = v) ↔ (∃ j, j < n ∧ g j = v)
def Srt (f : Nat → Int32) (m : Nat) : Prop := ∀ j, j + 1 < m → (f j).toInt ≤ (f (j + 1)).toInt
theorem SV.tr {f g h : Nat → Int32} {n : Nat} (a : SV f g n) (b : SV g h n) : SV f h n := fun v => (a v).trans (b v)
theorem SV_eq {f g : Nat → Int32} {n : Nat} (h : ∀ j, j < n → f j = g j) : SV f g n := fun v => ⟨fun ⟨j, a, b⟩ => ⟨j, a, by rw [← h j a]; exact b⟩, fun ⟨j, a, b⟩ => ⟨j, a, by rw [h j a]; exact b⟩⟩
/-- a hole that held v moves from i to k -/
theorem SV_hole {f : Nat → Int32} {n i k : Nat} {v : Int32} (hi : i < n) (hk : k < n) (hne : k ≠ i) : SV (upd (upd f i (f k)) k v) (upd f i v) n := fun w => by
  constructor
  · rintro ⟨j, a, b⟩
    by_cases e : j = k
    · rw [e, upd_s] at b
      exact ⟨i, hi, by rw [upd_s]; exact b⟩
    · rw [upd_n e] at b
      by_cases e2 : j = i
      · rw [e2, upd_s] at b
        exact ⟨k, hk, by rw [upd_n hne]; exact b⟩
      · rw [upd_n e2] at b
        exact ⟨j, a, by rw [upd_n e2]; exact b⟩
  · rintro ⟨j, a, b⟩
    by_cases e2 : j = i
    · rw [e2, upd_s] at b
      exact ⟨k, hk, by rw [upd_s]; exact b⟩
    · rw [upd_n e2] at b
      by_cases e : j = k
      · exact ⟨i, hi, by rw [upd_n (fun z => hne z.symm), upd_s, ← e]; exact b⟩
      · exact ⟨j, a, by rw [upd_n e, upd_n e2]; exact b⟩
theorem vsB_iff (s : Nat → Int) (v : Nat) : ∀ n, vsB s n v = true ↔ ∃ j, j < n ∧ (v : Int) = s j
  | 0 => ⟨fun h => absurd (show false = true from h) (by decide), fun ⟨j, h, _⟩ => by omega⟩
  | n + 1 => by
    show (vsB s n v || decide ((v : Int) = s n)) = true ↔ _
    rw [Bool.or_eq_true, decide_eq_true_iff, vsB_iff s v n]
    constructor
    · rintro (⟨j, a, b⟩ | h)
      · exact ⟨j, by omega, b⟩
      · exact ⟨n, by omega, h⟩
    · rintro ⟨j, a, b⟩
      by_cases e : j = n
      · exact Or.inr (by rw [← e]; exact b)
      · exact Or.inl ⟨j, by omega, b⟩
theorem vsB_SV {f g : Nat → Int32} {n : Nat} (h : SV f g n) (v : Nat) : vsB (fun j => (f j).toInt) n v = vsB (fun j => (g j).toInt) n v := by
  have e : ∀ x : Int32, (v : Int) = x.toInt → jI (v : Int) = x := fun x q => by rw [q]; exact jI_of x
  rw [Bool.eq_iff_iff, vsB_iff, vsB_iff]
  constructor
  · rintro ⟨j, a, b⟩
    obtain ⟨j', a', b'⟩ := (h (f j)).mp ⟨j, a, rfl⟩
    exact ⟨j', a', by rw [b']; exact b⟩
  · rintro ⟨j, a, b⟩
    obtain ⟨j', a', b'⟩ := (h (g j)).mpr ⟨j, a, rfl⟩
    exact ⟨j', a', by rw [b']; exact b⟩
theorem Srt_le {f : Nat → Int32} {n : Nat} (h : Srt f n) : ∀ (m j : Nat), j + m < n → (f j).toInt ≤ (f (j + m)).toInt
  | 0, j, _ => Int.le_refl _
  | m + 1, j, hj => Int.le_trans (Srt_le h m j (by omega)) (h (j + m) (by omega))
section MUn
variable {l : Launch} {G : GT} {d : Nat} {σ : Mm} {Q : Po}
theorem c_unlike {x : Int32} {M : Nat} (n : Nat) (hM : M = 163840) (hn : n ≤ 4096) (hv : ∀ j, j < n → 0 ≤ (σ.1 119 j).toInt ∧ (σ.1 119 j).toInt < 163840) (hq : ∀ τ : Mm, (∀ a, a ≠ 119 → τ.1 a = σ.1 a) → τ.2 = σ.2 → Q (some (.int (jI (cntB (vsB (fun j => (σ.1 119 j).toInt) n) M : Int)))) τ) (ex : x = jI (n : Int) := by first | rfl | assumption | (simp only [jlit, jneg, jadd, jsub, jmul]; done) | (simp only [jlit, jneg, jadd, jsub, jmul]; congr 1 <;> omega) | (congr 1 <;> omega)) : MW l G d mX12_unlike [.ref 98, .int x] σ Q := by
  -- counting
  have count : ∀ (τ : Mm), (∀ a, a ≠ 119 → τ.1 a = σ.1 a) → τ.2 = σ.2 → SV (τ.1 119) (σ.1 119) n → Srt (τ.1 119) n → ∀ (m j : Nat) (u c : Int32), j + m = n → u = jI (j : Int) → c = jI (cntB (vsB (fun q => (τ.1 119 q).toInt) j) M : Int) → Wp l G d mX12_unlike 101 [(0, .ref 98), (1, .int x), (2, .int c), (3, .int u)] [] τ Q := by
    intro τ F1 F2 hS hO m
    have hb : ∀ j, j < n → 0 ≤ (τ.1 119 j).toInt ∧ (τ.1 119 j).toInt < 163840 := fun j hj => by
      obtain ⟨j', a, b⟩ := (hS (τ.1 119 j)).mp ⟨j, hj, rfl⟩
      rw [← b]
      exact hv j' a
    induction m with
    | zero =>
      intro j u c hm hu hc
      refine wX12_unlike [] 40 ?_
      refine brle (n : Int) (j : Int) (fun _ => ?_) (fun z => by omega) (hx := ex) (hy := hu)
      have hq := hq τ F1 F2
      rw [← cntB_same M (fun v _ => vsB_SV hS v), show n = j by omega, ← hc] at hq
      exact hq
    | succ m ih =>
      intro j u c hm hu hc
      have nxt : ∀ c', c' = jI (cntB (vsB (fun q => (τ.1 119 q).toInt) (j + 1)) M : Int) → Wp l G d mX12_unlike 101 [(0, .ref 98), (1, .int x), (2, .int c'), (3, .int (u + 1))] [] τ Q := fun c' hc' => ih (j + 1) _ _ (by omega) (by rw [hu]; simp only [jlit, jadd]; congr 1) hc'
      obtain ⟨s, hs⟩ : ∃ s : Nat, (τ.1 119 j).toInt = (s : Int) := ⟨((τ.1 119 j).toInt).toNat, by have := hb j (by omega); omega⟩
      have hs2 := hb j (by omega)
      have new : (∀ i, i < j → (τ.1 119 i).toInt < (τ.1 119 j).toInt) → cntB (vsB (fun q => (τ.1 119 q).toInt) (j + 1)) M = cntB (vsB (fun q => (τ.1 119 q).toInt) j) M + 1 := fun h => by
        have e : vsB (fun q => (τ.1 119 q).toInt) j s = false := by
          cases e : vsB (fun q => (τ.1 119 q).toInt) j s with
          | false => rfl
          | true =>
            obtain ⟨i, a, b⟩ := (vsB_iff _ _ _).mp e
            have := h i a
            have b : (s : Int) = (τ.1 119 i).toInt := b
            omega
        rw [← cntB_new e M (by omega)]
        refine cntB_same M (fun v _ => ?_)
        show (vsB (fun q => (τ.1 119 q).toInt) j v || decide ((v : Int) = (τ.1 119 j).toInt)) = _
        rw [hs]
        congr 1
        by_cases q : v = s
        · rw [decide_eq_true q, decide_eq_true (by omega)]
        · rw [decide_eq_false q, decide_eq_false (by omega)]
      refine wX12_unlike [(101, [0, 1, 2, 3])] 60 ?_
      refine brle (n : Int) (j : Int) (fun z => by omega) (fun _ => ?_) (hx := ex) (hy := hu)
      refine breq (j : Int) 0 (fun z => ?_) (fun z => ?_) (hx := hu) (hy := rfl)
      · refine nxt _ ?_
        rw [new (fun i hi => by omega), hc]
        simp only [jlit, jadd]
        congr 1
      · refine ldI 4096 j rfl ?_ (hi := hu)
        refine ldI 4096 (j - 1) rfl ?_ (hi := by rw [hu]; simp only [jlit, jsub]; congr 1; omega)
        have ho := hO (j - 1) (by omega)
        rw [show j - 1 + 1 = j by omega] at ho
        refine breq (τ.1 119 j).toInt (τ.1 119 (j - 1)).toInt (fun e => ?_) (fun e => ?_) (hx := (jI_of _).symm) (hy := (jI_of _).symm) (ra := jI_R _) (rb := jI_R _)
        · refine nxt _ ?_
          rw [hc, cntB_same (S := vsB (fun q => (τ.1 119 q).toInt) j) (T := vsB (fun q => (τ.1 119 q).toInt) (j + 1)) M (fun v _ => ?_)]
          · simp only [jlit, jadd, Int.add_zero]
          · rw [Bool.eq_iff_iff, vsB_iff, vsB_iff]
            constructor
            · rintro ⟨i, a, b⟩
              by_cases ei : i = j
              · rw [ei] at b
                exact ⟨j - 1, by omega, by show (v : Int) = (τ.1 119 (j - 1)).toInt; rw [← e]; exact b⟩
              · exact ⟨i, by omega, b⟩
            · rintro ⟨i, a, b⟩
              exact ⟨i, by omega, b⟩
        · refine nxt _ ?_
          rw [new (fun i hi => ?_), hc]
          · simp only [jlit, jadd]
            congr 1
          · have := Srt_le hO (j - 1 - i) i (by omega)
            rw [show i + (j - 1 - i) = j - 1 by omega] at this
            omega
  -- the gaps
  have gaps : ∀ (fu g : Nat) (τ : Mm) (w : Int32) (c : Int32), g < fu → g ≤ 2048 → w = jI (g : Int) → c = 0 → (∀ a, a ≠ 119 → τ.1 a = σ.1 a) → τ.2 = σ.2 → SV (τ.1 119) (σ.1 119) n → (g = 0 → Srt (τ.1 119) n) → Wp l G d mX12_unlike 6 [(0, .ref 98), (1, .int x), (2, .int c), (3, .int w)] [] τ Q := by
    intro fu
    induction fu with
    | zero => intro g τ w c h; omega
    | succ fu ih =>
      intro g τ w c hg hg2 hw hc F1 F2 hS hO
      refine wX12_unlike [(13, [0, 1, 2, 3, 4]), (101, [0, 1, 2, 3])] 60 ?_
      refine brle (g : Int) 0 (fun z => ?_) (fun z => ?_) (hx := hw) (hy := rfl)
      · refine count τ F1 F2 hS (hO (by omega)) n 0 _ _ (by omega) rfl ?_
        rw [hc]
        show (0 : Int32) = jI ((cntB (fun _ => false) M : Nat) : Int)
        rw [cntB_0]
        rfl
      · -- the rows
        have rows : ∀ (m k : Nat) (ρ : Mm) (u : Int32), k + m = n ∨ (m = 0 ∧ n ≤ k ∧ k ≤ 2048) → g ≤ k → u = jI (k : Int) → (∀ a, a ≠ 119 → ρ.1 a = σ.1 a) → ρ.2 = σ.2 → SV (ρ.1 119) (σ.1 119) n → (g = 1 → Srt (ρ.1 119) (min k n)) → Wp l G d mX12_unlike 13 [(0, .ref 98), (1, .int x), (2, .int c), (3, .int w), (4, .int u)] [] ρ Q := by
          intro m
          induction m with
          | zero =>
            intro k ρ u hm hk hu E1 E2 eS eO
            refine wX12_unlike [(6, [0, 1, 2, 3])] 40 ?_
            refine brle (n : Int) (k : Int) (fun _ => ?_) (fun z => by omega) (hx := ex) (hy := hu)
            refine And.intro (by decide) ?_
            refine ih (g / 2) ρ _ _ (by omega) (by omega) (by rw [hw, show (2 : Int32) = jI 2 from rfl, jdiv (by omega) (by omega) (by omega) (by omega)]; congr 1) hc E1 E2 eS (fun z0 => ?_)
            have := eO (by omega)
            rw [show min k n = n by omega] at this
            exact this
          | succ m ihm =>
            intro k ρ u hm hk hu E1 E2 eS eO
            have kn : k < n := by omega
            -- the hole
            have hole : ∀ (fi i : Nat) (π : Mm) (y v : Int32), i < fi → i ≤ k → y = jI (i : Int) → (∀ a, a ≠ 119 → π.1 a = σ.1 a) → π.2 = σ.2 → SV (upd (π.1 119) i v) (σ.1 119) n → (g = 1 → (i = k ∧ Srt (π.1 119) k) ∨ (i < k ∧ Srt (π.1 119) (k + 1) ∧ v.toInt ≤ (π.1 119 i).toInt)) → Wp l G d mX12_unlike 32 [(0, .ref 98), (1, .int x), (2, .int c), (3, .int w), (4, .int u), (5, .int v), (6, .int y)] [] π Q := by
              intro fi
              induction fi with
              | zero => intro i π y v h; omega
              | succ fi ihi =>
                intro i π y v hfi hik hy G1 G2 gS gO
                -- putting it down
                have put : (g = 1 → i = 0 ∨ (π.1 119 (i - 1)).toInt ≤ v.toInt) → Wp l G d mX12_unlike 77 [(0, .ref 98), (1, .int x), (2, .int c), (3, .int w), (4, .int u), (5, .int v), (6, .int y)] [] π Q := by
                  intro hp
                  refine wX12_unlike [(13, [0, 1, 2, 3, 4])] 40 ?_
                  refine stI 4096 i ?_ (hi := hy)
                  refine ihm (k + 1) _ _ (by omega) (by omega) (by rw [hu]; simp only [jlit, jadd]; congr 1) (fun a ha => by rw [uI_n ha]; exact G1 a ha) G2 (by rw [uI_s]; exact gS) (fun g1 => ?_)
                  rw [uI_s, show min (k + 1) n = k + 1 by omega]
                  intro j hj
                  have hp := hp g1
                  rcases gO g1 with ⟨a, b⟩ | ⟨a, b, b2⟩
                  · by_cases e : j + 1 = i
                    · rw [e, upd_s, upd_n (by omega), show j = i - 1 by omega]
                      omega
                    · rw [upd_n e, upd_n (by omega)]
                      exact b j (by omega)
                  · by_cases e : j + 1 = i
                    · rw [e, upd_s, upd_n (by omega), show j = i - 1 by omega]
                      omega
                    · rw [upd_n e]
                      by_cases e2 : j = i
                      · rw [e2, upd_s]
                        have := b i (by omega)
                        omega
                      · rw [upd_n e2]
                        exact b j (by omega)
                refine wX12_unlike [(32, [0, 1, 2, 3, 4, 5, 6]), (77, [0, 1, 2, 3, 4, 5, 6])] 60 ?_
                refine brlt (i : Int) (g : Int) (fun z1 => ?_) (fun z1 => ?_) (hx := hy) (hy := hw)
                · exact put (fun g1 => Or.inl (by omega))
                · have hyg : y - w = jI ((i - g : Nat) : Int) := by rw [hy, hw, jsub]; congr 1; omega
                  refine ldI 4096 (i - g) rfl ?_ (hi := hyg)
                  refine brle (π.1 119 (i - g)).toInt v.toInt (fun e => ?_) (fun e => ?_) (hx := (jI_of _).symm) (hy := (jI_of _).symm) (ra := jI_R _) (rb := jI_R _)
                  · exact put (fun g1 => Or.inr (by rw [← g1]; exact e))
                  · refine ldI 4096 (i - g) rfl ?_ (hi := hyg)
                    refine stI 4096 i ?_ (hi := hy)
                    refine ihi (i - g) _ _ _ (by omega) (by omega) hyg (fun a ha => by rw [uI_n ha]; exact G1 a ha) G2 (by rw [uI_s]; exact (SV_hole (by omega) (by omega) (by omega)).tr gS) (fun g1 => Or.inr ⟨by omega, ?_, ?_⟩)
                    · rw [uI_s]
                      intro j hj
                      rcases gO g1 with ⟨a, b⟩ | ⟨a, b, b2⟩
                      · by_cases e : j + 1 = i
                        · rw [e, upd_s, upd_n (by omega), show i - g = j by omega]
                          exact Int.le_refl _
                        · rw [upd_n e, upd_n (by omega)]
                          exact b j (by omega)
                      · by_cases e : j + 1 = i
                        · rw [e, upd_s, upd_n (by omega), show i - g = j by omega]
                          exact Int.le_refl _
                        · rw [upd_n e]
                          by_cases e2 : j = i
                          · rw [e2, upd_s]
                            have h1 := b (i - 1) (by omega)
                            have h2 := b i (by omega)
                            rw [show i - 1 + 1 = i by omega] at h1
                            rw [g1]
                            omega
                          · rw [upd_n e2]
                            exact b j (by omega)
                    · rw [uI_s, upd_n (by omega)]
                      omega
            refine wX12_unlike [(32, [0, 1, 2, 3, 4, 5, 6])] 40 ?_
            refine brle (n : Int) (k : Int) (fun z => by omega) (fun _ => ?_) (hx := ex) (hy := hu)
            refine ldI 4096 k rfl ?_ (hi := hu)
            refine hole (k + 1) k ρ _ _ (by omega) (by omega) hu E1 E2 ?_ (fun g1 => Or.inl ⟨rfl, ?_⟩)
            · refine (SV_eq (fun j hj => ?_)).tr eS
              by_cases e : j = k
              · rw [e, upd_s]
              · rw [upd_n e]
            · have := eO g1
              rw [show min k n = k by omega] at this
              exact this
        by_cases qn : g ≤ n
        · refine rows (n - g) g τ _ (Or.inl (by omega)) (Nat.le_refl _) hw F1 F2 hS (fun g1 => ?_)
          intro j hj
          omega
        · exact rows 0 g τ _ (Or.inr ⟨rfl, by omega, by omega⟩) (Nat.le_refl _) hw F1 F2 hS (fun g1 j hj => by omega)
  refine vX12_unlike [(6, [0, 1, 2, 3])] 40 ?_
  refine And.intro (by decide) ?_
  refine gaps (n + 1) (n / 2) σ _ _ (by omega) (by omega) (by rw [ex, show (2 : Int32) = jI 2 from rfl, jdiv (by omega) (by omega) (by omega) (by omega)]; congr 1) rfl (fun _ _ => rfl) rfl (fun v => Iff.rfl) (fun z j hj => by omega)
end MUn
