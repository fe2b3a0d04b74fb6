import java.util.Objects;

/** Shelves (terms 6) that hold the host's own rows; what the host throws is what the document names. */
final class PlainShelves {
    interface Work {
        long run();
    }

    private final Object[] shelves = new Object[6];

    private static boolean isShelf(int shelf) {
        return shelf >= 0 && shelf < 6;
    }

    private static long asTheHostHasIt(Work work) {
        try {
            return work.run();
        } catch (NullPointerException e) {
            return -11;
        } catch (ClassCastException | ArrayStoreException e) {
            return -12;
        } catch (IndexOutOfBoundsException e) {
            return -13;
        } catch (NegativeArraySizeException e) {
            return -14;
        }
    }

    void keep(int shelf, PlainBodies.Stone stone) {
        shelves[shelf] = stone;
    }

    int row(int shelf, int sort, int n) {
        if (!isShelf(shelf) || sort < 0 || sort > 4 || n > 60) {
            return -1;
        }
        return (int) asTheHostHasIt(() -> {
            Object[] rows = {null, null, null, null, null};
            switch (sort) {
                case 0: rows[0] = new byte[n]; break;
                case 1: rows[1] = new short[n]; break;
                case 2: rows[2] = new int[n]; break;
                case 3: rows[3] = new long[n]; break;
                default: rows[4] = new boolean[n];
            }
            shelves[shelf] = rows[sort];
            return 1;
        });
    }

    int set(int shelf, int i, long v) {
        if (!isShelf(shelf)) {
            return -1;
        }
        return (int) asTheHostHasIt(() -> {
            Object row = Objects.requireNonNull(shelves[shelf]);
            if (row instanceof byte[] bytes) {
                bytes[i] = (byte) v;
            } else if (row instanceof short[] shorts) {
                shorts[i] = (short) v;
            } else if (row instanceof int[] ints) {
                ints[i] = (int) v;
            } else if (row instanceof long[] longs) {
                longs[i] = v;
            } else {
                ((boolean[]) row)[i] = v != 0;
            }
            return 1;
        });
    }

    long element(int shelf, int i) {
        long[] found = {Long.MIN_VALUE};
        if (isShelf(shelf)) {
            asTheHostHasIt(() -> found[0] = elementOf(Objects.requireNonNull(shelves[shelf]), i));
        }
        return found[0];
    }

    private static long elementOf(Object row, int i) {
        if (row instanceof byte[] bytes) {
            return bytes[i];
        } else if (row instanceof short[] shorts) {
            return shorts[i];
        } else if (row instanceof int[] ints) {
            return ints[i];
        } else if (row instanceof long[] longs) {
            return longs[i];
        }
        return ((boolean[]) row)[i] ? 1 : 0;
    }

    int shift(int shelf, int i, int other, int j, int n) {
        if (!isShelf(shelf) || !isShelf(other)) {
            return -1;
        }
        return (int) asTheHostHasIt(() -> {
            System.arraycopy(shelves[shelf], i, shelves[other], j, n);
            return n;
        });
    }

    int taken(int shelf, int k) {
        if (!isShelf(shelf) || k < 0 || k > 7) {
            return -1;
        }
        return (int) asTheHostHasIt(() -> {
            Object held = Objects.requireNonNull(shelves[shelf]);
            return ((PlainBodies.Stone) PlainBodies.KINDS[k].cast(held)).kind;
        });
    }

    int things(int shelf, int i, int n, PlainAsked keep) {
        if (!isShelf(shelf) || n < 1 || n > 15) {
            return -1;
        }
        int[] done = {0};
        long end = asTheHostHasIt(() -> {
            byte[] row = (byte[]) shelves[shelf];
            for (int at = i; done[0] < n; at += 4) {
                if (keep.put(row[at], row[at + 1], row[at + 2], row[at + 3]) < 0) {
                    break;
                }
                done[0]++;
            }
            return 0;
        });
        return end == -12 ? -12 : done[0];
    }
}
