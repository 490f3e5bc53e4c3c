theorem am_k25 : (List.range 5).all (fun k => am_okM (253 + k)) = true := by decide +kernel
