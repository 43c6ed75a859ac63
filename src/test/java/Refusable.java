import java.util.ArrayList;
import java.util.Arrays;
import java.util.List;
import java.util.function.Consumer;

/** A call with arguments that are not refused, and each cause for which the document has it refused. */
final class Refusable {
    static final int UNKNOWN = 0, OUTSIDE = 1, STATE = 2, FULL = 3;
    private static final int NO_ARGUMENT = -1;
    private static final Consumer<EdgesFit> NOTHING = x -> { };

    /** The call, with its arguments as longs. */
    interface Asking {
        long ask(EdgesFit x, long[] arguments);
    }

    /** An argument that is wrong, or something that has been done before; kinds are told in order of refusals. */
    private record Cause(int kind, int argument, long value, String why, Consumer<EdgesFit> doing) {
        boolean goesWith(Cause other) {
            return this != other && (argument == NO_ARGUMENT || argument != other.argument);
        }
    }

    private final String name;
    private final Asking asking;
    private final long[] good;
    private final List<Cause> causes = new ArrayList<>();
    private final List<Cause> allowed = new ArrayList<>();
    private long[] refusals = {EdgesFit.UNKNOWN, EdgesFit.OUTSIDE, EdgesFit.STATE, EdgesFit.FULL};

    Refusable(String name, Asking asking, long... good) {
        this.name = name;
        this.asking = asking;
        this.good = good;
    }

    /** What the call answers to the four kinds, if that is its own. */
    Refusable answering(long... own) {
        refusals = own;
        return this;
    }

    /** An int from low to high: these are the last ones that are not refused. */
    Refusable range(int kind, int argument, int low, int high) {
        allow(kind, argument, low, high);
        return wrong(kind, argument, low - 1, high + 1, Integer.MIN_VALUE, Integer.MAX_VALUE);
    }

    Refusable wrong(int kind, int argument, long... values) {
        for (long value : values) {
            causes.add(new Cause(kind, argument, value, "", NOTHING));
        }
        return this;
    }

    Refusable allow(int kind, int argument, long... values) {
        for (long value : values) {
            allowed.add(new Cause(kind, argument, value, "", NOTHING));
        }
        return this;
    }

    Refusable after(int kind, String why, Consumer<EdgesFit> doing) {
        causes.add(new Cause(kind, NO_ARGUMENT, 0, " after " + why, doing));
        return this;
    }

    /** Looks at the call as it should be, with the last arguments allowed, with each cause, and with each two. */
    void look(Check check, java.util.function.Supplier<EdgesFit> world) {
        check.due(name + Arrays.toString(good) + " is refused", isRefusal(asking.ask(world.get(), good)) ? 1 : 0, 0);
        for (Cause last : allowed) {
            long[] arguments = with(last);
            boolean refused = asking.ask(world.get(), arguments) == refusals[last.kind];
            check.due(name + Arrays.toString(arguments) + " is refused", refused ? 1 : 0, 0);
        }
        for (int i = 0; i < causes.size(); i++) {
            lookAt(check, world, causes.get(i));
            for (int j = i + 1; j < causes.size(); j++) {
                if (causes.get(i).goesWith(causes.get(j))) {
                    lookAt(check, world, causes.get(i), causes.get(j));
                }
            }
        }
    }

    private void lookAt(Check check, java.util.function.Supplier<EdgesFit> world, Cause... both) {
        int first = FULL;
        StringBuilder told = new StringBuilder(name).append(Arrays.toString(with(both)));
        for (Cause cause : both) {
            first = Math.min(first, cause.kind);
            told.append(cause.why);
        }
        EdgesFit x = prepared(world.get(), both);
        check.due(told.toString(), asking.ask(x, with(both)), refusals[first]);
        check.due("first answer that is another one behind " + told, Witness.firstDifference(x, prepared(world.get(), both)), -1);
    }

    private static EdgesFit prepared(EdgesFit x, Cause... both) {
        for (int kind = FULL; kind >= UNKNOWN; kind--) {
            for (Cause cause : both) {
                if (cause.kind == kind) {
                    cause.doing.accept(x);
                }
            }
        }
        return x;
    }

    private long[] with(Cause... both) {
        long[] arguments = good.clone();
        for (Cause cause : both) {
            if (cause.argument != NO_ARGUMENT) {
                arguments[cause.argument] = cause.value;
            }
        }
        return arguments;
    }

    private boolean isRefusal(long answer) {
        for (long refusal : refusals) {
            if (answer == refusal) {
                return true;
            }
        }
        return false;
    }
}
