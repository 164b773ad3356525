import java.util.List;

/** The bodies of the document as Java's own classes, so that the language itself picks who acts. */
final class PlainBodies {
    interface Falls {
        int number();

        List<Integer> trace();

        default int falls(int x) {
            trace().add(1);
            return x + number();
        }
    }

    interface Tells {
        List<Integer> trace();

        int runs(int x);

        int thinks(int x);

        default int tells(int x) {
            trace().add(2);
            int first = runs(x);
            return first - thinks(1);
        }
    }

    static class Drop implements Falls, Tells {
        final int n;
        final List<Integer> trace;

        Drop(int n, List<Integer> trace) {
            this.n = n;
            this.trace = trace;
        }

        public int number() {
            return n;
        }

        public List<Integer> trace() {
            return trace;
        }

        public int runs(int x) {
            trace.add(10);
            return falls(x) * 2;
        }

        public int thinks(int x) {
            trace.add(11);
            return x ^ n;
        }
    }

    static class Fern extends Drop {
        Fern(int n, List<Integer> trace) {
            super(n, trace);
        }

        @Override public int falls(int x) {
            trace.add(20);
            return super.falls(x) + 3;
        }
    }

    static class Basin extends Drop {
        Basin(int n, List<Integer> trace) {
            super(n, trace);
        }

        @Override public int runs(int x) {
            trace.add(30);
            return -super.runs(x);
        }
    }

    static class Porter extends Basin {
        Porter(int n, List<Integer> trace) {
            super(n, trace);
        }

        @Override public int thinks(int x) {
            trace.add(40);
            return super.thinks(x) * 3;
        }

        @Override public int runs(int x) {
            trace.add(41);
            return super.runs(x + 1);
        }
    }

    static class Nurse extends Fern {
        Nurse(int n, List<Integer> trace) {
            super(n, trace);
        }

        @Override public int tells(int x) {
            trace.add(50);
            return super.tells(x) ^ 5;
        }
    }

    static class Smoker extends Porter {
        Smoker(int n, List<Integer> trace) {
            super(n, trace);
        }

        @Override public int thinks(int x) {
            trace.add(60);
            int above = super.thinks(x);
            return above - falls(2);
        }

        @Override public int tells(int x) {
            trace.add(61);
            return super.tells(x) + 1;
        }
    }

    static class Lamp extends Drop {
        Lamp(int n, List<Integer> trace) {
            super(n, trace);
        }

        @Override public int falls(int x) {
            trace.add(70);
            return super.falls(x) * 2;
        }
    }

    static class Cord extends Lamp {
        Cord(int n, List<Integer> trace) {
            super(n, trace);
        }

        @Override public int runs(int x) {
            trace.add(80);
            int above = super.runs(x);
            return above + thinks(2);
        }

        @Override public int falls(int x) {
            trace.add(81);
            return super.falls(x) - 1;
        }
    }

    private PlainBodies() {
    }

    static Drop made(int kind, int n, List<Integer> trace) {
        switch (kind) {
            case 0: return new Drop(n, trace);
            case 1: return new Fern(n, trace);
            case 2: return new Basin(n, trace);
            case 3: return new Porter(n, trace);
            case 4: return new Nurse(n, trace);
            case 5: return new Smoker(n, trace);
            case 6: return new Lamp(n, trace);
            default: return new Cord(n, trace);
        }
    }

    static boolean isA(Drop body, int kind) {
        switch (kind) {
            case 0: return true;
            case 1: return body instanceof Fern;
            case 2: return body instanceof Basin;
            case 3: return body instanceof Porter;
            case 4: return body instanceof Nurse;
            case 5: return body instanceof Smoker;
            case 6: return body instanceof Lamp;
            default: return body instanceof Cord;
        }
    }

    static int kindOf(Drop body) {
        Class<?>[] kinds = {Drop.class, Fern.class, Basin.class, Porter.class, Nurse.class, Smoker.class, Lamp.class, Cord.class};
        for (int k = 0; k < kinds.length; k++) {
            if (body.getClass() == kinds[k]) {
                return k;
            }
        }
        return -1;
    }

    static int act(Drop body, int act, int x) {
        switch (act) {
            case 0: return body.falls(x);
            case 1: return body.runs(x);
            case 2: return body.thinks(x);
            default: return body.tells(x);
        }
    }
}
