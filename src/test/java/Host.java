/**
 * The shelves and the acts once more, as Java itself has them: rows are Java's arrays, refusals what the machine
 * throws, and bodies of acts methods of classes that stand under one another. What WholeTest compares the class with.
 */
final class Host {
    private static final int[] TRACED = new int[100];
    private static int ran = 0;

    private final Object[] shelves = new Object[6];

    private static void begun(int body) {
        TRACED[ran] = body;
        ran++;
    }

    // ---- acts

    interface Sends {
        int number();

        default int sends(int x) {
            begun(1);
            return x + number();
        }
    }

    interface Tells {
        int asks(int x);

        int owes(int x);

        default int tells(int x) {
            begun(2);
            return asks(x) - owes(1);
        }
    }

    static class Way implements Sends, Tells {
        final int number;

        Way(int number) {
            this.number = number;
        }

        @Override
        public int number() {
            return number;
        }

        @Override
        public int asks(int x) {
            begun(10);
            return sends(x) * 2;
        }

        @Override
        public int owes(int x) {
            begun(11);
            return x ^ number;
        }
    }

    static class Lantern extends Way {
        Lantern(int number) {
            super(number);
        }

        @Override
        public int sends(int x) {
            begun(20);
            return super.sends(x) / 2;
        }
    }

    static class Stick extends Way {
        Stick(int number) {
            super(number);
        }

        @Override
        public int owes(int x) {
            begun(30);
            return super.owes(x) + sends(2);
        }
    }

    static class Ring extends Way {
        Ring(int number) {
            super(number);
        }

        @Override
        public int asks(int x) {
            begun(40);
            return super.asks(x) - 1;
        }
    }

    static class Stone extends Ring {
        Stone(int number) {
            super(number);
        }

        @Override
        public int sends(int x) {
            begun(50);
            return super.sends(x) * 3;
        }
    }

    static class Sums extends Ring {
        Sums(int number) {
            super(number);
        }

        @Override
        public int tells(int x) {
            begun(60);
            return super.tells(x) ^ 5;
        }

        @Override
        public int owes(int x) {
            begun(61);
            return super.owes(x + 1);
        }
    }

    static class Loose extends Stick {
        Loose(int number) {
            super(number);
        }

        @Override
        public int owes(int x) {
            begun(70);
            return -super.owes(x);
        }
    }

    static class Pale extends Stone {
        Pale(int number) {
            super(number);
        }

        @Override
        public int asks(int x) {
            begun(80);
            return super.asks(x) + super.sends(x);
        }
    }

    static class Hasty extends Sums {
        Hasty(int number) {
            super(number);
        }

        @Override
        public int tells(int x) {
            begun(90);
            return super.tells(x) * 2;
        }
    }

    private static final Class<?>[] KINDS = {Way.class, Lantern.class, Stick.class, Ring.class, Stone.class,
        Sums.class, Loose.class, Pale.class, Hasty.class};

    static Way way(int kind, int number) {
        return switch (kind) {
            case 0 -> new Way(number);
            case 1 -> new Lantern(number);
            case 2 -> new Stick(number);
            case 3 -> new Ring(number);
            case 4 -> new Stone(number);
            case 5 -> new Sums(number);
            case 6 -> new Loose(number);
            case 7 -> new Pale(number);
            default -> new Hasty(number);
        };
    }

    static int kindOf(Way way) {
        for (int kind = 0; kind < 9; kind++) {
            if (KINDS[kind] == way.getClass()) {
                return kind;
            }
        }
        return -1;
    }

    /** The answer; then the bodies that ran in their order. */
    static int[] act(Way way, int act, int x) {
        ran = 0;
        int answer = act == 0 ? way.sends(x) : act == 1 ? way.asks(x) : act == 2 ? way.owes(x) : way.tells(x);
        int[] told = new int[ran + 1];
        told[0] = answer;
        System.arraycopy(TRACED, 0, told, 1, ran);
        return told;
    }

    // ---- shelves

    void keep(int shelf, Way way) {
        shelves[shelf] = way;
    }

    int row(int shelf, int sort, int n) {
        try {
            shelves[shelf] = switch (sort) {
                case 0 -> new byte[n];
                case 1 -> new short[n];
                case 2 -> new int[n];
                case 3 -> new long[n];
                default -> new boolean[n];
            };
            return 1;
        } catch (NegativeArraySizeException e) {
            return -14;
        }
    }

    private static void noRow(Object o) {
        if (o == null) {
            throw new NullPointerException();
        }
        throw new ClassCastException();
    }

    int put(int shelf, int i, long v) {
        Object o = shelves[shelf];
        try {
            if (o instanceof byte[] row) {
                row[i] = (byte) v;
            } else if (o instanceof short[] row) {
                row[i] = (short) v;
            } else if (o instanceof int[] row) {
                row[i] = (int) v;
            } else if (o instanceof long[] row) {
                row[i] = v;
            } else if (o instanceof boolean[] row) {
                row[i] = v != 0;
            } else {
                noRow(o);
            }
            return 1;
        } catch (NullPointerException e) {
            return -11;
        } catch (ClassCastException e) {
            return -12;
        } catch (ArrayIndexOutOfBoundsException e) {
            return -13;
        }
    }

    long element(int shelf, int i) {
        Object o = shelves[shelf];
        try {
            if (o instanceof boolean[] row) {
                return row[i] ? 1 : 0;
            }
            return java.lang.reflect.Array.getLong(o, i);
        } catch (NullPointerException | IllegalArgumentException | ArrayIndexOutOfBoundsException e) {
            return Long.MIN_VALUE;
        }
    }

    int shift(int shelf, int i, int other, int j, int n) {
        try {
            System.arraycopy(shelves[shelf], i, shelves[other], j, n);
            return n;
        } catch (NullPointerException e) {
            return -11;
        } catch (ArrayStoreException e) {
            return -12;
        } catch (IndexOutOfBoundsException e) {
            return -13;
        }
    }

    int taken(int shelf, int k) {
        try {
            if (shelves[shelf] == null) {
                return -11;
            }
            return kindOf((Way) KINDS[k].cast(shelves[shelf]));
        } catch (ClassCastException e) {
            return -12;
        }
    }

    boolean isEmpty(int shelf) {
        return shelves[shelf] == null;
    }

    short[] shorts(int shelf) {
        return shelves[shelf] instanceof short[] row ? row : null;
    }
}
