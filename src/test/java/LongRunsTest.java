import java.lang.reflect.Method;
import java.util.ArrayList;
import java.util.Arrays;
import java.util.List;
import java.util.Map;
import java.util.Random;
import java.util.TreeMap;
import java.util.stream.Collectors;
import java.util.stream.LongStream;

/**
 * Promises 1 to 33 behind long runs: each run asks one object as often as an object is used, changes and questions
 * mixed, and each answer is the one that the Model gives to the same call. Behind a part of some runs, everything that
 * there is to see is looked at, on as many objects with the same calls as this takes.
 */
public final class LongRunsTest {
    private static final int RUNS = 250, CALLS = 512, LOOKED_AROUND = 50;
    private static final int NONE = -6;
    private static final int[] FAR = {-1, 12, 13, 31, 32, 33, NONE, -5, 64, 255, Integer.MAX_VALUE, Integer.MIN_VALUE};
    // Often enough present, with an item that is open, and not undone at once: else little comes of a run.
    private static final String[] CHANGES = {"come", "vote", "proxy", "open", "put", "tell", "later", "close", "set",
        "go", "pass", "carryOut", "cast", "recuse", "chair", "undo", "save", "restore", "member", "item", "wipe"};
    private static final int[] LIKED = {14, 14, 18, 8, 8, 6, 6, 4, 5, 5, 4, 5, 4, 3, 2, 2, 2, 1, 1, 1, 1};
    private static final String[] QUESTIONS = {"ofMember", "ofItem", "at", "count", "wouldBe", "decisive", "needed",
        "power", "quorumAt", "bestHolder", "fault"};
    // What brings to light what the questions alone do not show: the history, the slots, the movements and the pad.
    private static final String[] ENDINGS = {"", "undo", "undo undo", "undo undo undo", "undo undo undo undo",
        "undo undo undo undo undo", "undo undo undo undo undo undo", "restore0", "restore1", "restore1 undo", "pass5",
        "pass600", "carryOut", "carryOut undo"};
    private static final Check CHECK = new Check();
    // How often each method gave each kind of answer, so that the runs are seen to come by all of them.
    private static final Map<String, Integer> SEEN = new TreeMap<>();

    private final Random random;
    private final ProxyVotes program = new ProxyVotes();
    private final Model model = new Model();
    private final List<Call> calls = new ArrayList<>();
    private final int mostMembers;
    private final int mostItems;
    private final int questions;
    private final int faults;
    private final int slowness;
    private final int[] liking = new int[CHANGES.length];

    /** A call of a method that both have. */
    private record Call(String name, long... arguments) {
        int on(Object asked) throws ReflectiveOperationException {
            Class<?>[] types = new Class<?>[arguments.length];
            Object[] values = new Object[arguments.length];
            for (int i = 0; i < arguments.length; i++) {
                types[i] = name.equals("put") ? long.class : int.class;
                values[i] = name.equals("put") ? (Object) arguments[i] : (Object) (int) arguments[i];
            }
            Method method = asked.getClass().getDeclaredMethod(name, types);
            return (int) method.invoke(asked, values);
        }

        @Override
        public String toString() {
            return name + LongStream.of(arguments).mapToObj(Long::toString).collect(Collectors.joining(", ", "(", ")"));
        }
    }

    private LongRunsTest(int seed) {
        random = new Random(seed);
        mostMembers = 1 + random.nextInt(13);
        mostItems = 1 + random.nextInt(13);
        questions = 10 + random.nextInt(70);
        faults = random.nextInt(8);
        slowness = 1 + random.nextInt(12);
        // Each run likes other calls, so that some come to states that calls taken evenly seldom reach.
        for (int call = 0; call < liking.length; call++) {
            liking[call] = random.nextInt(20) == 0 ? 40 : random.nextInt(2 * LIKED[call] + 1);
        }
    }

    public static void main(String[] args) throws ReflectiveOperationException {
        int runs = args.length > 0 ? Integer.parseInt(args[0]) : RUNS;
        for (int run = 0; run < runs && CHECK.wrongOnes() < 5; run++) {
            new LongRunsTest(run).run(run);
        }
        allKindsAreSeen();
        CHECK.end();
    }

    private void run(int seed) throws ReflectiveOperationException {
        int before = CHECK.wrongOnes();
        while (calls.size() < CALLS && CHECK.wrongOnes() == before) {
            next("run " + seed);
        }
        if (seed % (RUNS / LOOKED_AROUND) == 0 && CHECK.wrongOnes() == before) {
            lookAround("run " + seed);
        }
        if (CHECK.wrongOnes() > before) {
            System.out.println(calls);
        }
    }

    private void next(String run) throws ReflectiveOperationException {
        int members = model.count(1);
        int items = model.count(2);
        if (members < mostMembers && random.nextInt(3) == 0) {
            ask(run, "member", any(9) + 1, any(4));
        } else if (items < mostItems && random.nextInt(3) == 0) {
            ask(run, "item", any(3), random.nextInt(3) == 0 ? any(16) : 0);
        } else if (members == 1 && random.nextBoolean()) {
            ask(run, "set", any(2), any(60));
        } else if (random.nextInt(100) < questions) {
            question(run, QUESTIONS[random.nextInt(QUESTIONS.length)], members, items);
        } else {
            change(run, liked(), members, items);
        }
    }

    private String liked() {
        int sum = 0;
        for (int likes : liking) {
            sum += likes;
        }
        int left = random.nextInt(sum);
        int call = 0;
        while (left >= liking[call]) {
            left -= liking[call];
            call++;
        }
        return CHANGES[call];
    }

    /** Mostly a number below the bound, sometimes one that may be out of all ranges. */
    private int any(int bound) {
        if (random.nextInt(100) < faults) {
            return random.nextBoolean() ? bound : FAR[random.nextInt(FAR.length)];
        }
        return bound <= 0 ? 0 : random.nextInt(bound);
    }

    private int choiceOrNone() {
        return random.nextInt(5) == 0 ? NONE : any(3);
    }

    private void question(String run, String name, int members, int items) throws ReflectiveOperationException {
        switch (name) {
            case "ofMember":
                ask(run, name, any(members), any(6));
                break;
            case "ofItem":
                ask(run, name, any(items), any(12));
                break;
            case "at":
                ask(run, name, any(members), any(items), any(7));
                break;
            case "count":
                ask(run, name, any(22));
                break;
            case "needed":
                ask(run, name, pending(items), any(2));
                break;
            case "power":
                ask(run, name, any(members));
                break;
            case "bestHolder":
                ask(run, name, mostly(0, members), any(items));
                break;
            case "fault":
                ask(run, name);
                break;
            default:
                ask(run, name, pending(items));
                break;
        }
    }

    /** An item, mostly one that can still be voted for. */
    private int pending(int items) {
        if (model.count(4) != NONE && random.nextInt(3) > 0) {
            return model.count(4);
        }
        int item = any(items);
        for (int tries = 0; tries < 5 && model.ofItem(item, 2) > ProxyVotes.OPEN; tries++) {
            item = any(items);
        }
        return item;
    }

    /** Mostly a member who is absent (0) or present (1). */
    private int mostly(int present, int members) {
        int member = any(members);
        for (int tries = 0; tries < 5 && model.ofMember(member, 2) == 1 - present; tries++) {
            member = any(members);
        }
        return member;
    }

    private void change(String run, String name, int members, int items) throws ReflectiveOperationException {
        switch (name) {
            case "set":
                set(run);
                break;
            case "member":
                ask(run, name, any(9) + 1, any(4));
                break;
            case "item":
                ask(run, name, any(3), any(16));
                break;
            case "later":
                int ahead = random.nextInt(6) == 0 ? any(602) : 1 + any(30);
                ask(run, name, model.count(0) + ahead, any(members), any(2));
                break;
            case "proxy":
                ask(run, name, any(members), random.nextInt(3) == 0 ? any(items) : NONE,
                    random.nextInt(8) == 0 ? NONE : any(members));
                break;
            case "tell":
                ask(run, name, any(members), pending(items), choiceOrNone());
                break;
            case "recuse":
                ask(run, name, any(members), pending(items), any(2));
                break;
            case "vote":
                ask(run, name, mostly(1, members), any(3));
                break;
            case "open":
                ask(run, name, any(items));
                break;
            case "cast":
                ask(run, name, 1 + any(2));
                break;
            case "pass":
                ask(run, name, random.nextInt(slowness) == 0 ? any(602) : 1 + any(20));
                break;
            case "put":
                put(run, members, items);
                break;
            case "carryOut":
                ask(run, model.fault() == NONE || random.nextInt(3) == 0 ? name : "wipe");
                break;
            case "save":
            case "restore":
                ask(run, name, any(2));
                break;
            case "chair":
            case "come":
            case "go":
                ask(run, name, any(members));
                break;
            default:
                ask(run, name);
                break;
        }
    }

    private void set(String run) throws ReflectiveOperationException {
        int setting = any(6);
        int[] bounds = {101, 101, 601, 7, 2, 2};
        boolean low = random.nextInt(3) > 0;
        int bound = setting < 0 || setting > 5 ? 1000 : low && setting < 3 ? bounds[setting] / 3 : bounds[setting];
        ask(run, "set", setting, any(bound));
    }

    /** Mostly orders, sometimes with a sign that may be wrong, or any characters. */
    private void put(String run, int members, int items) throws ReflectiveOperationException {
        if (random.nextInt(100) < 2 * faults) {
            ask(run, "put", random.nextLong() >> random.nextInt(64));
            return;
        }
        StringBuilder text = new StringBuilder(model.count(14) > 0 ? ";" : "");
        int orders = 1 + random.nextInt(5);
        for (int order = 0; order < orders; order++) {
            text.append(order == 0 ? "" : ";").append(order(members, items));
        }
        if (random.nextInt(100) < 3 * faults) {
            text.append("+-ovcxm;ABLM0123z".charAt(random.nextInt(17)));
        }
        if (random.nextInt(100) < 2 * faults) {
            text.setLength(1 + random.nextInt(text.length()));
        }
        for (int from = 0; from < text.length() && calls.size() < CALLS; from += 8) {
            ask(run, "put", Check.packed(text.substring(from, Math.min(text.length(), from + 8))));
        }
    }

    private String order(int members, int items) {
        char member = (char) ('A' + random.nextInt(Math.max(1, members)));
        switch (random.nextInt(7)) {
            case 0:
                return "+" + member;
            case 1:
                return "-" + member;
            case 2:
                return "o" + random.nextInt(Math.max(1, items));
            case 3:
                return "v" + member + random.nextInt(3);
            case 4:
                return "c";
            case 5:
                return "x" + (random.nextInt(300) < faults ? 0 : 1 + random.nextInt(2));
            default:
                String zero = random.nextInt(300) < faults ? "0" : "";
                return "m" + zero + random.nextInt(random.nextInt(8) == 0 ? 1001 : 12);
        }
    }

    /** Makes the call on both. */
    private void ask(String run, String name, long... arguments) throws ReflectiveOperationException {
        Call call = new Call(name, arguments);
        calls.add(call);
        int due = call.on(model);
        CHECK.due(run + ", call " + calls.size() + ", " + call, due, call.on(program));
        SEEN.merge(name + (due < 0 ? due : ""), 1, Integer::sum);
    }

    private void lookAround(String run) throws ReflectiveOperationException {
        List<Call> beginning = calls.subList(0, random.nextInt(CALLS - 100));
        for (String ending : ENDINGS) {
            List<Call> made = new ArrayList<>(beginning);
            for (String call : ending.isEmpty() ? new String[0] : ending.split(" ")) {
                String name = call.replaceAll("[0-9]", "");
                String number = call.replaceAll("[^0-9]", "");
                made.add(number.isEmpty() ? new Call(name) : new Call(name, Long.parseLong(number)));
            }
            lookAt(run + ", " + beginning.size() + " calls, then " + ending, made);
        }
    }

    private static void lookAt(String run, List<Call> made) throws ReflectiveOperationException {
        Model due = new Model();
        for (Call call : made) {
            call.on(due);
        }
        List<Call> questions = questions(due.count(1), due.count(2));
        int atOnce = CALLS - made.size();
        for (int from = 0; from < questions.size(); from += atOnce) {
            ProxyVotes asked = new ProxyVotes();
            for (Call call : made) {
                call.on(asked);
            }
            for (Call question : questions.subList(from, Math.min(questions.size(), from + atOnce))) {
                CHECK.due(run + ", " + question, question.on(due), question.on(asked));
            }
        }
    }

    /** All that there is to see. */
    private static List<Call> questions(int members, int items) {
        List<Call> questions = new ArrayList<>(Arrays.asList(new Call("fault")));
        for (int what = 0; what < 22; what++) {
            questions.add(new Call("count", what));
        }
        for (int member = 0; member < members; member++) {
            for (int what = 0; what < 6; what++) {
                questions.add(new Call("ofMember", member, what));
            }
        }
        for (int item = 0; item < items; item++) {
            questions.add(new Call("quorumAt", item));
            for (int what = 0; what < 12; what++) {
                questions.add(new Call("ofItem", item, what));
            }
            for (int member = 0; member < members; member++) {
                for (int what = 0; what < 7; what++) {
                    questions.add(new Call("at", member, item, what));
                }
            }
        }
        return questions;
    }

    private static void allKindsAreSeen() {
        String[] kinds = {"set", "set-2", "member", "member-2", "member-4", "item", "item-2", "item-4", "chair",
            "chair-1", "come", "come-1", "come-5", "go", "go-1", "go-5", "later", "later-1", "later-2", "later-4",
            "proxy", "proxy-1", "proxy-6", "tell", "tell-1", "tell-2", "tell-5", "tell-6", "recuse", "recuse-1",
            "recuse-2", "recuse-5", "open", "open-1", "open-5", "vote", "vote-1", "vote-2", "vote-5", "vote-6", "close",
            "close-5", "cast", "cast-2", "cast-5", "pass", "pass-2", "pass-5", "ofMember", "ofMember-1", "ofMember-2",
            "ofMember-6", "ofItem", "ofItem-1", "ofItem-2", "ofItem-6", "at", "at-1", "at-2", "at-6", "count",
            "count-2", "count-6", "wouldBe", "wouldBe-1", "wouldBe-5", "decisive", "decisive-1", "decisive-5",
            "needed", "needed-1", "needed-2", "needed-5", "needed-6", "power", "power-1", "quorumAt", "quorumAt-1",
            "quorumAt-6", "bestHolder", "bestHolder-1", "bestHolder-5", "bestHolder-6", "put", "put-2", "put-4",
            "wipe", "fault", "fault-6", "carryOut", "carryOut-3", "undo", "undo-5", "save", "save-2", "restore",
            "restore-2", "restore-5"};
        for (String kind : kinds) {
            CHECK.that("the runs come by " + kind, SEEN.containsKey(kind));
        }
        CHECK.due("and by no other", kinds.length, SEEN.size());
    }
}
