import java.util.ArrayList;
import java.util.List;
import java.util.Random;

/** A run of random calls on one object, which can be made again on another one. */
final class Walk {
    static final int CALLS = 22;
    private static final int NONE = -6;
    private static final int[] FAR = {-1, 12, 32, NONE, 255, Integer.MAX_VALUE, Integer.MIN_VALUE};
    private static final String SIGNS = "+-ovcxm;;ABCDEL0123459z";

    private final Random random;
    private final List<long[]> calls = new ArrayList<>();

    Walk(long seed) {
        random = new Random(seed);
    }

    /** Chooses the next call: its number, and up to three arguments. */
    long[] next(ProxyVotes x) {
        int members = x.count(1);
        int items = x.count(2);
        int number = random.nextInt(CALLS);
        if (members < 4 && random.nextInt(3) > 0) {
            number = 1;
        } else if (items < 2 && random.nextInt(3) > 0) {
            number = 2;
        } else if (number == 4 && x.count(4) != NONE && random.nextInt(3) > 0) {
            number = 11;
        }
        long[] call = {number, any(members), any(items), any(members)};
        switch (number) {
            case 0:
                call[1] = any(6);
                call[2] = call[1] == 2 ? any(300) : call[1] < 2 ? any(101) : any(5);
                break;
            case 1:
                call[1] = any(10);
                call[2] = any(4);
                break;
            case 2:
                call[1] = any(3);
                call[2] = random.nextBoolean() ? 0 : any(16);
                break;
            case 6:
                call[3] = any(2);
                call[2] = call[1];
                call[1] = random.nextInt(8) == 0 ? any(1000) : x.count(0) + any(20);
                break;
            case 7:
                call[2] = random.nextInt(3) == 0 ? call[2] : NONE;
                break;
            case 8:
                call[3] = random.nextInt(6) == 0 ? NONE : any(3);
                break;
            case 9:
                call[3] = any(2);
                break;
            case 11:
                call[2] = any(3);
                break;
            case 13:
                call[1] = 1 + any(2);
                break;
            case 14:
                call[1] = random.nextInt(3) == 0 ? any(601) : any(30);
                break;
            case 15:
                call[1] = text(members, items);
                break;
            case 19:
            case 20:
                call[1] = any(2);
                break;
            case 10:
                call[1] = any(items);
                break;
            default:
                break;
        }
        calls.add(call);
        return call;
    }

    /** Mostly a number from 0 on below the bound, sometimes one that is out of all ranges. */
    private int any(int bound) {
        if (random.nextInt(40) == 0) {
            return FAR[random.nextInt(FAR.length)];
        }
        return bound <= 0 ? random.nextInt(2) : random.nextInt(bound);
    }

    /** Mostly an order, sometimes any signs. */
    private long text(int members, int items) {
        StringBuilder text = new StringBuilder();
        if (random.nextInt(4) == 0) {
            for (int length = random.nextInt(9); length > 0; length--) {
                text.append(SIGNS.charAt(random.nextInt(SIGNS.length())));
            }
            return Check.packed(text.toString());
        }
        char member = (char) ('A' + random.nextInt(Math.max(1, members)));
        switch (random.nextInt(7)) {
            case 0:
                text.append('+').append(member);
                break;
            case 1:
                text.append('-').append(member);
                break;
            case 2:
                text.append('o').append(random.nextInt(Math.max(1, items)));
                break;
            case 3:
                text.append('v').append(member).append(random.nextInt(3));
                break;
            case 4:
                text.append('c');
                break;
            case 5:
                text.append('x').append(1 + random.nextInt(2));
                break;
            default:
                text.append('m').append(random.nextInt(40));
                break;
        }
        if (random.nextBoolean()) {
            text.append(';');
        }
        return Check.packed(text.toString());
    }

    static int make(ProxyVotes x, long[] call) {
        int a = (int) call[1];
        int b = (int) call[2];
        int c = (int) call[3];
        switch ((int) call[0]) {
            case 0:
                return x.set(a, b);
            case 1:
                return x.member(a, b);
            case 2:
                return x.item(a, b);
            case 3:
                return x.chair(a);
            case 4:
                return x.come(a);
            case 5:
                return x.go(a);
            case 6:
                return x.later(a, b, c);
            case 7:
                return x.proxy(a, b, c);
            case 8:
                return x.tell(a, b, c);
            case 9:
                return x.recuse(a, b, c);
            case 10:
                return x.open(a);
            case 11:
                return x.vote(a, b);
            case 12:
                return x.close();
            case 13:
                return x.cast(a);
            case 14:
                return x.pass(a);
            case 15:
                return x.put(call[1]);
            case 16:
                return x.wipe();
            case 17:
                return x.carryOut();
            case 18:
                return x.undo();
            case 19:
                return x.save(a);
            case 20:
                return x.restore(a);
            default:
                return x.come(a);
        }
    }

    /** Whether a call is one of those that the document names a change. */
    static boolean isChange(long[] call) {
        return call[0] != 15 && call[0] != 16 && call[0] != 18 && call[0] != 19;
    }

    /** Another object with which the same was done. */
    ProxyVotes twin() {
        ProxyVotes twin = new ProxyVotes();
        for (long[] call : calls) {
            make(twin, call);
        }
        return twin;
    }

    static String told(long[] call) {
        String[] names = {"set", "member", "item", "chair", "come", "go", "later", "proxy", "tell", "recuse", "open",
            "vote", "close", "cast", "pass", "put", "wipe", "carryOut", "undo", "save", "restore", "come"};
        return names[(int) call[0]] + "(" + call[1] + ", " + call[2] + ", " + call[3] + ")";
    }
}
