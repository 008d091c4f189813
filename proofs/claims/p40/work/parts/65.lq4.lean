/-! the law's questions: unification -/
section LQ4
variable {t : Nat} {σ : St} {Q : Res → St → Prop} {P : Pg} {xs : List Int} {lim : Int}
end LQ4

