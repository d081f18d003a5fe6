import java.util.ArrayList;
import java.util.List;

/**
 * What can be learned of an object by asking it. Most asking changes the object, so the object is
 * made anew for each way of asking; two runs of calls that leave the same state behind have the
 * same view.
 */
final class View {
    /** A run of calls on a new object. */
    interface Run {
        void on(ProcessHeaps x);
    }

    /** The last call of a run. */
    interface Call {
        int on(ProcessHeaps x);
    }

    private static final int[] PATHS = {0, -1, 0x55555555, 0xAAAAAAAA};

    private View() {
    }

    /** The call must answer that, and leave everything as the run before it did. */
    static void changesNothing(Run before, int answer, Call call) {
        List<Integer> without = of(before);
        comparesTo(without, before, answer, call);
    }

    /** Like changesNothing, for many calls after one run. */
    static void changeNothing(Run before, int answer, List<Call> calls) {
        List<Integer> without = of(before);
        for (Call call : calls) {
            comparesTo(without, before, answer, call);
        }
    }

    /** The call must answer that, and leave behind what the other call does. */
    static void changesLike(Run before, int answer, Call call, Call other) {
        List<Integer> wanted = of(x -> {
            before.on(x);
            other.on(x);
        });
        comparesTo(wanted, before, answer, call);
    }

    private static void comparesTo(List<Integer> wanted, Run before, int answer, Call call) {
        List<Integer> got = of(x -> {
            before.on(x);
            Due.due(answer, call.on(x));
        });
        if (!wanted.equals(got)) {
            Due.tell("the state afterwards is another one:\n  " + got + "\n  due is\n  " + wanted);
        }
    }

    static List<Integer> of(Run run) {
        List<Integer> seen = new ArrayList<>();
        registers(made(run), seen);
        freeIds(made(run), seen);
        collected(made(run), seen);
        room(made(run), seen);
        mail(made(run), seen);
        mailRoom(made(run), seen);
        for (int path : PATHS) {
            registerPaths(made(run), path, seen);
            mailPaths(made(run), path, seen);
        }
        return seen;
    }

    private static ProcessHeaps made(Run run) {
        ProcessHeaps x = new ProcessHeaps();
        run.on(x);
        return x;
    }

    private static void registers(ProcessHeaps x, List<Integer> seen) {
        for (int process = 0; process < 3; process++) {
            for (int register = 0; register < 4; register++) {
                seen.add(x.kind(process, register));
                seen.add(x.value(process, register));
                for (int other = 0; other < register; other++) {
                    seen.add(x.same(process, other, register));
                }
            }
            seen.add(x.pairs(process));
        }
        seen.add(x.blobs());
    }

    private static void freeIds(ProcessHeaps x, List<Integer> seen) {
        for (int process = 0; process < 3; process++) {
            for (int register = 0; register < 4; register++) {
                seen.add(x.blob(process, register));
            }
        }
    }

    private static void collected(ProcessHeaps x, List<Integer> seen) {
        for (int process = 0; process < 3; process++) {
            seen.add(x.collect(process));
            seen.add(x.blobs());
        }
    }

    private static void room(ProcessHeaps x, List<Integer> seen) {
        for (int process = 0; process < 3; process++) {
            for (int i = 0; i < 21; i++) {
                seen.add(x.pair(process, 3, 3, 0));
                seen.add(x.pairs(process));
            }
        }
    }

    private static void mail(ProcessHeaps x, List<Integer> seen) {
        for (int process = 0; process < 3; process++) {
            for (int i = 0; i < 4; i++) {
                seen.add(x.receive(process, 3));
                seen.add(x.kind(process, 3));
                seen.add(x.value(process, 3));
                for (int register = 0; register < 3; register++) {
                    seen.add(x.same(process, 3, register));
                }
            }
        }
    }

    private static void mailRoom(ProcessHeaps x, List<Integer> seen) {
        for (int process = 0; process < 3; process++) {
            seen.add(x.nil(process, 3));
            for (int i = 0; i < 4; i++) {
                seen.add(x.send(process, 3, process));
            }
        }
    }

    private static void registerPaths(ProcessHeaps x, int path, List<Integer> seen) {
        for (int process = 0; process < 3; process++) {
            for (int register = 0; register < 4; register++) {
                goDown(x, process, register, path, seen);
            }
        }
    }

    private static void mailPaths(ProcessHeaps x, int path, List<Integer> seen) {
        for (int process = 0; process < 3; process++) {
            for (int i = 0; i < 4; i++) {
                seen.add(x.receive(process, 2));
                goDown(x, process, 2, path, seen);
            }
        }
    }

    private static void goDown(ProcessHeaps x, int process, int register, int path, List<Integer> seen) {
        int steps = 0;
        // no way down is longer than a heap, unless something is wrong
        while (steps <= 20 && x.part(process, register, register, (path >> steps & 1) == 0) == 0) {
            steps++;
        }
        seen.add(steps);
        seen.add(x.kind(process, register));
        seen.add(x.value(process, register));
    }
}
