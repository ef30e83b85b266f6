theorem zNe {x y : Int32} (h : ¬ x = y) (k : Int) (hk : y.toInt = k) : x.toInt ≠ k := fun z => h (Int32.toInt_inj.mp (z.trans hk.symm))
