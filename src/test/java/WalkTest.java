import java.util.ArrayList;
import java.util.Arrays;
import java.util.List;
import java.util.regex.Matcher;
import java.util.regex.Pattern;

/**
 * Random runs of calls. What the document says of every state is looked at after the calls, and what a forecast tells
 * is compared with what comes of it when it is done on a twin.
 */
public final class WalkTest {
    private static final int NOT_POSSIBLE = -5, NONE = -6;
    private static final int RUNS = 150, CALLS = 300;
    private static final Pattern TEXT = Pattern.compile(order() + "(;" + order() + ")*");
    private static final Check CHECK = new Check();

    public static void main(String[] args) {
        for (int run = 0; run < RUNS && CHECK.wrongOnes() < 20; run++) {
            walk(run);
        }
        CHECK.end();
    }

    private static String order() {
        String number = "(0|[1-9][0-9]?[0-9]?)";
        return "([+-][A-L]|o" + number + "|v[A-L][012]|c|x[12]|m" + number + ")";
    }

    private static void walk(int run) {
        Walk walk = new Walk(run);
        ProxyVotes x = new ProxyVotes();
        StringBuilder pad = new StringBuilder();
        List<List<Integer>> history = new ArrayList<>();
        List<List<Integer>> slots = new ArrayList<>(Arrays.asList(null, null));
        for (int number = 0; number < CALLS; number++) {
            List<Integer> before = Check.all(x);
            List<Integer> state = Check.state(x);
            long[] call = walk.next(x);
            String told = "run " + run + ", call " + number + ", " + Walk.told(call);
            int would = x.count(4) == NONE ? NOT_POSSIBLE : x.wouldBe(x.count(4));
            int quorum = x.count(4) == NONE ? 0 : x.ofItem(x.count(4), 11);
            List<Integer> sums = x.count(4) == NONE ? null : Check.sums(x, x.count(4));
            int open = x.count(4);
            int answer = Walk.make(x, call);
            boolean failed = answer < 0 && answer != NONE;
            if (failed) {
                CHECK.same(told + " failed and changes nothing", before, Check.all(x));
            } else if (Walk.isChange(call)) {
                history.add(state);
                if (history.size() > 6) {
                    history.remove(0);
                }
            }
            if (!failed && call[0] == 12) {
                CHECK.due(told + ": as it would be", quorum == 1 ? would : ProxyVotes.WAITING, answer);
                if (quorum == 1) {
                    CHECK.same(told + ": the sums stay", sums, Check.sums(x, open));
                }
            }
            if (!failed && call[0] == 15) {
                append(pad, call[1]);
            }
            if (!failed && (call[0] == 16 || call[0] == 17)) {
                pad.setLength(0);
            }
            if (!failed && call[0] == 18) {
                CHECK.same(told, history.remove(history.size() - 1), Check.state(x));
            }
            if (!failed && call[0] == 19) {
                slots.set((int) call[1], state);
            }
            if (!failed && call[0] == 20) {
                CHECK.same(told, slots.get((int) call[1]), Check.state(x));
            }
            CHECK.due(told + ": the history", history.size(), x.count(15));
            CHECK.due(told + ": the pad", pad.length(), x.count(14));
            CHECK.due(told + ": the fault of " + pad, fault(pad.toString()), x.fault());
            everything(told, x);
            if (number % 25 == 24) {
                forecasts(told, x, walk.twin());
            }
        }
    }

    private static void append(StringBuilder pad, long characters) {
        int from = pad.length();
        for (long rest = characters; rest != 0; rest >>>= 8) {
            pad.insert(from, (char) (rest & 255));
        }
    }

    private static int fault(String text) {
        for (int i = 0; i <= text.length(); i++) {
            Matcher matcher = TEXT.matcher(text.substring(0, i));
            // Where the matcher came to the end of the beginning, more could make it a text.
            if (i > 0 && !matcher.matches() && !matcher.hitEnd()) {
                return i - 1;
            }
        }
        return TEXT.matcher(text).matches() ? NONE : text.length();
    }

    private static void everything(String told, ProxyVotes x) {
        int members = x.count(1);
        for (int item = 0; item < x.count(2); item++) {
            int[] speakers = speakers(x, item);
            int[] sums = new int[6];
            int there = 0;
            for (int member = 0; member < members; member++) {
                CHECK.due(told + ": who speaks for " + member + ", " + item, speakers[member], x.at(member, item, 0));
                int way = way(x, item, member, speakers[member]);
                CHECK.due(told + ": how " + member + " counts for " + item, way, x.at(member, item, 3));
                sums[way] += x.ofMember(member, 0);
                boolean present = x.ofMember(member, 2) == 1;
                there += present || speakers[member] != NONE ? x.ofMember(member, 0) : 0;
                int set = 0;
                for (int other = 0; other < members; other++) {
                    set |= speakers[other] == member && x.ofMember(other, 2) == 0 ? 1 << other : 0;
                }
                CHECK.due(told + ": for whom " + member + " speaks", set, x.at(member, item, 6));
            }
            boolean late = x.count(0) >= x.count(18);
            boolean quorum = 100 * there >= x.count(7) * x.count(late ? 17 : 16);
            CHECK.due(told + ": the quorum for " + item, quorum ? 1 : 0, x.ofItem(item, 11));
            int state = x.ofItem(item, 2);
            if (state == ProxyVotes.WAITING || state == ProxyVotes.OPEN) {
                for (int sum = 0; sum < 6; sum++) {
                    CHECK.due(told + ": sum " + sum + " of " + item, sums[sum], x.ofItem(item, 3 + sum));
                }
                CHECK.due(told + ": would be", state(x, item, sums), x.wouldBe(item));
            } else {
                CHECK.due(told + ": would be", NOT_POSSIBLE, x.wouldBe(item));
            }
        }
    }

    private static boolean recused(ProxyVotes x, int item, int member) {
        return x.at(member, item, 5) == 1;
    }

    private static int end(ProxyVotes x, int item, int member) {
        List<Integer> met = new ArrayList<>();
        int reached = member;
        while (x.ofMember(reached, 2) == 0) {
            if (met.contains(reached) || met.size() == 1 && x.count(20) == 0) {
                return NONE;
            }
            met.add(reached);
            int holder = x.at(reached, item, 4);
            reached = holder == NONE ? x.ofMember(reached, 3) : holder;
            if (reached == NONE) {
                return NONE;
            }
        }
        return recused(x, item, reached) ? NONE : reached;
    }

    private static int[] speakers(ProxyVotes x, int item) {
        int[] speakers = new int[x.count(1)];
        int[] taken = new int[x.count(1)];
        for (int member = 0; member < speakers.length; member++) {
            speakers[member] = recused(x, item, member) ? NONE : end(x, item, member);
            boolean absent = x.ofMember(member, 2) == 0;
            if (absent && speakers[member] != NONE && ++taken[speakers[member]] > x.count(19)) {
                speakers[member] = NONE;
            }
        }
        return speakers;
    }

    private static int way(ProxyVotes x, int item, int member, int speaker) {
        boolean absent = x.ofMember(member, 2) == 0;
        int vote = x.at(member, item, 1);
        int told = x.at(member, item, 2);
        if (recused(x, item, member)) {
            return 5;
        }
        if (vote != NONE || !absent) {
            return vote != NONE ? vote : 3;
        }
        if (speaker == NONE) {
            return 4;
        }
        int his = x.at(speaker, item, 1);
        return told != NONE ? told : his != NONE ? his : 3;
    }

    private static int state(ProxyVotes x, int item, int[] sums) {
        boolean carried;
        switch (x.ofItem(item, 0)) {
            case 0:
                if (sums[1] == sums[2]) {
                    return x.count(21) == 1 ? ProxyVotes.TIED : ProxyVotes.LOST;
                }
                carried = sums[1] > sums[2];
                break;
            case 1:
                carried = sums[1] > 0 && sums[1] >= 2 * sums[2];
                break;
            default:
                carried = sums[1] > 0 && sums[0] + sums[2] == 0;
                break;
        }
        return carried ? ProxyVotes.CARRIED : ProxyVotes.LOST;
    }

    /** Does on the twin what the forecasts are about. */
    private static void forecasts(String told, ProxyVotes x, ProxyVotes twin) {
        CHECK.same(told + ": the twin", Check.all(x), Check.all(twin));
        powers(told, x);
        List<Integer> before = Check.all(x);
        for (int item = 0; item < x.count(2); item++) {
            twin.save(0);
            CHECK.due(told + ": quorumAt " + item, quorumAt(twin, item), x.quorumAt(item));
            twin.restore(0);
            for (int member = 0; member < x.count(1); member++) {
                int best = best(twin, member, item);
                CHECK.due(told + ": bestHolder " + member + ", " + item, best, x.bestHolder(member, item));
            }
            int state = x.ofItem(item, 2);
            if (state != ProxyVotes.WAITING && state != ProxyVotes.OPEN) {
                CHECK.due(told + ": decisive " + item, NOT_POSSIBLE, x.decisive(item));
                CHECK.due(told + ": needed " + item, NOT_POSSIBLE, x.needed(item, 0));
                continue;
            }
            openAtLast(twin, item);
            CHECK.due(told + ": decisive " + item, decisive(twin, item), x.decisive(item));
            int needed = needed(twin, item);
            CHECK.due(told + ": needed " + item, needed, x.needed(item, 1));
            CHECK.due(told + ": needed " + item, needed == NONE ? NONE : Integer.bitCount(needed), x.needed(item, 0));
            twin.restore(0);
        }
        CHECK.same(told + ": nothing changes", before, Check.all(x));
    }

    private static void openAtLast(ProxyVotes twin, int item) {
        twin.set(ProxyVotes.QUORUM, 0);
        twin.set(ProxyVotes.LATE_QUORUM, 0);
        if (twin.count(4) != item) {
            twin.close();
            twin.open(item);
        }
        CHECK.due("the twin opens it", item, twin.count(4));
    }

    private static void powers(String told, ProxyVotes x) {
        int members = x.count(1);
        int all = x.count(7);
        for (int member = 0; member < members; member++) {
            int sets = 0;
            for (int set = 0; set < 1 << members; set++) {
                int weight = 0;
                for (int other = 0; other < members; other++) {
                    weight += (set >> other & 1) * x.ofMember(other, 0);
                }
                int with = weight + x.ofMember(member, 0);
                sets += (set >> member & 1) == 0 && 2 * weight <= all && 2 * with > all ? 1 : 0;
            }
            CHECK.due(told + ": power " + member, sets, x.power(member));
        }
    }

    private static int quorumAt(ProxyVotes twin, int item) {
        while (twin.ofItem(item, 11) == 0) {
            if (twin.count(13) == 0 && twin.count(0) >= twin.count(18)) {
                return NONE;
            }
            twin.pass(1);
        }
        return twin.count(0);
    }

    private static int best(ProxyVotes twin, int member, int item) {
        if (twin.ofMember(member, 2) == 1 || recused(twin, item, member) || twin.at(member, item, 4) != NONE) {
            return NOT_POSSIBLE;
        }
        twin.save(1);
        int best = NONE;
        int fewest = 99;
        for (int holder = 0; holder < twin.count(1); holder++) {
            if (twin.ofMember(holder, 2) == 1 && !recused(twin, item, holder)) {
                twin.proxy(member, NONE, holder);
                int burden = Integer.bitCount(twin.at(holder, item, 6));
                if (twin.at(member, item, 0) != NONE && burden < fewest) {
                    best = holder;
                    fewest = burden;
                }
            }
        }
        twin.restore(1);
        return best;
    }

    private static int decisive(ProxyVotes twin, int item) {
        int before = twin.wouldBe(item);
        twin.save(1);
        int set = 0;
        for (int member = 0; member < twin.count(1); member++) {
            for (int choice = 0; choice <= 2; choice++) {
                twin.vote(member, choice);
                set |= twin.wouldBe(item) != before ? 1 << member : 0;
            }
            twin.restore(1);
        }
        return set;
    }

    private static int needed(ProxyVotes twin, int item) {
        int free = 0;
        for (int member = 0; member < twin.count(1); member++) {
            boolean could = twin.ofMember(member, 2) == 1 && !recused(twin, item, member);
            free |= could && twin.at(member, item, 1) == NONE ? 1 << member : 0;
        }
        twin.save(1);
        for (int size = 0; size <= Integer.bitCount(free); size++) {
            for (int set = 0; set <= free; set++) {
                if ((set & ~free) != 0 || Integer.bitCount(set) != size) {
                    continue;
                }
                for (int member = 0; member < twin.count(1); member++) {
                    if ((set >> member & 1) == 1) {
                        twin.vote(member, 1);
                    }
                }
                int would = twin.wouldBe(item);
                twin.restore(1);
                if (would == ProxyVotes.CARRIED) {
                    return set;
                }
            }
        }
        return NONE;
    }
}
