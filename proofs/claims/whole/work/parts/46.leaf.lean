/-! THE REFERENCE'S LEAVES: what they answer -/
section LEAF
variable {X : zX} {d : Nat} {rf mem : zF} {Q : Int → zF → Prop}
theorem t_is (hR : zall rf zRK = true) {a b c : Int} (ha : inI a) (hb : inI b) (hc : inI c) (k : Q (if b ≤ a ∧ a ≤ c then 1 else 0) mem) : Ci X d 194 [(0, a), (0, b), (0, c)] rf mem Q :=
  s_m_is hR ⟨⟨ha, hb⟩, fun q => by rwa [if_neg (by omega)] at k, fun q => ⟨⟨ha, hc⟩, fun q2 => by rwa [if_neg (by omega)] at k, fun q2 => by rwa [if_pos (by omega)] at k⟩⟩
end LEAF
