-- the law from its loop on
section LAl
variable {p : Program} {l : Launch} {e : Env} {s : State} {m : MethodId} {below : List Frame} {meth : Method} {c : Code} {b L : Nat} {xs : Nat → Int32} {G : GT} {σ : Mm} {X : Xw}
theorem law_all (C : Lcx G p s m meth c b L xs) (hfl : l.stackTraces = false) (hG : GX G) (hZ : GR G) (cc ss : Nat) (hc : cc ≤ 600000) (hs : ss ≤ 7200000) (hK : KS σ X) (hM : MS σ X) (hX : XI 0 X) : LB p l e s m below meth c b G cc ss 23 (lv0 0) [] σ := by
  have hL := C.2.2.2.2
  refine law_loop C hG 1 6 (fun cc ss i N σ X hi hN hb hK hM hX nxt => ?_) 512 0 cc ss 0 σ X (by omega) (by omega) (by omega) (by omega) (by omega) hK hM hX
  exact lc_rate C hfl hZ hi hb hK hM hX nxt
end LAl
