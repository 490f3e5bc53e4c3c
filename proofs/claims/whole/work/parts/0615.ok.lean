theorem am_k14 : (List.range 11).all (fun k => am_okM (173 + k)) = true := by decide +kernel
