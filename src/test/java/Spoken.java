import java.util.ArrayList;
import java.util.List;

/** The KINDS as the document tells them, each a class under another one, with super as Java has it. */
class Spoken {
    /** The LINE's number. */
    int n;
    int m;
    final List<Integer> trace = new ArrayList<>();

    static Spoken of(int kind, int m, int n) {
        Spoken spoken = switch (kind) {
            case 1 -> new Near();
            case 2 -> new Far();
            case 3 -> new Turned();
            case 4 -> new Laughed();
            case 5 -> new Named();
            case 6 -> new Breathed();
            default -> new Spoken();
        };
        spoken.m = m;
        spoken.n = n;
        return spoken;
    }

    /** Whether it is of a KIND, or of one under it. */
    boolean is(int kind) {
        return of(kind, 0, 0).getClass().isInstance(this);
    }

    int act(int act, int x) {
        return act == 0 ? fits(x) : act == 1 ? says(x) : act == 2 ? ends(x) : tells(x);
    }

    /** SEEN. */
    int seen(int v) {
        return v;
    }

    /** ENDS. */
    int endsBy(int v) {
        return v;
    }

    int fits(int x) {
        trace.add(10);
        return x + n;
    }

    int says(int x) {
        trace.add(11);
        return fits(x) * 2;
    }

    int ends(int x) {
        trace.add(12);
        return x - m;
    }

    int tells(int x) {
        trace.add(13);
        return says(x) ^ ends(x);
    }

    private static class Near extends Spoken {
        @Override
        int seen(int v) {
            return 2 * v;
        }

        @Override
        int endsBy(int v) {
            return 3 * v;
        }

        @Override
        int fits(int x) {
            trace.add(20);
            return super.fits(x) * 3;
        }
    }

    private static class Far extends Spoken {
        @Override
        int seen(int v) {
            return v / 2;
        }

        @Override
        int says(int x) {
            trace.add(30);
            return super.says(x) - ends(1);
        }
    }

    private static class Turned extends Spoken {
        @Override
        int seen(int v) {
            return 0;
        }

        @Override
        int endsBy(int v) {
            return Math.max(0, super.endsBy(v) - 1);
        }

        @Override
        int ends(int x) {
            trace.add(40);
            return -super.ends(x);
        }
    }

    private static final class Laughed extends Near {
        @Override
        int seen(int v) {
            return super.seen(v) + m;
        }

        @Override
        int endsBy(int v) {
            return v > 1 ? super.endsBy(v) : 0;
        }

        @Override
        int tells(int x) {
            trace.add(50);
            return super.tells(x) - fits(2);
        }
    }

    private static final class Named extends Far {
        @Override
        int seen(int v) {
            return super.seen(v) < m ? 0 : super.seen(v);
        }

        @Override
        int endsBy(int v) {
            return super.endsBy(v) + m;
        }

        @Override
        int says(int x) {
            trace.add(60);
            return super.says(x + 1);
        }
    }

    private static final class Breathed extends Turned {
        @Override
        int seen(int v) {
            return super.seen(v) + (v != 0 ? 1 : 0);
        }

        @Override
        int endsBy(int v) {
            return super.endsBy(v) / 2;
        }

        @Override
        int ends(int x) {
            trace.add(70);
            return super.ends(x) ^ n;
        }

        @Override
        int tells(int x) {
            trace.add(71);
            return says(x) - super.tells(x);
        }
    }
}
