import java.util.ArrayList;
import java.util.HashMap;
import java.util.List;
import java.util.Map;
import java.util.function.Predicate;
import java.util.regex.Matcher;
import java.util.regex.Pattern;

/**
 * The document once more, written another way for ModelTest: nothing is kept that can be found out
 * again, all pairings are tried, rules are trees.
 */
final class Model {
    private record Trial(int accusing, int defending, List<Integer> judges) {}

    private record Round(List<Trial> trials, int bye) {}

    private record Ballot(int round, int t, int judge, int accusing, int defending, int known) {}

    private record Asked(int fact, boolean cross, boolean stated, boolean implied, boolean asked) {}

    private record Rule(int kind, Predicate<Asked> cond) {}

    private final List<Boolean> there = new ArrayList<>();
    private int judges;
    private final List<List<Integer>> kin = new ArrayList<>();
    private int rooms = 7;
    private final List<Round> rounds = new ArrayList<>();
    private final List<Ballot> ballots = new ArrayList<>();
    private final List<Integer> witnesses = new ArrayList<>();
    private final List<int[]> implications = new ArrayList<>();
    private final List<List<Integer>> questions = new ArrayList<>();
    private String tape = "";
    private List<Rule> rules = new ArrayList<>();
    private int fault = -1;
    private int status;

    private int said(int answer, boolean refused) {
        status = refused ? answer : 0;
        return answer;
    }

    private static boolean in(int number, int many) {
        return number >= 0 && number < many;
    }

    private static boolean hour(int known) {
        return in(known, 100001);
    }

    int school() {
        if (there.size() == 14) {
            return said(-5, true);
        }
        there.add(true);
        return said(there.size() - 1, false);
    }

    int gone(int school, boolean is) {
        if (!in(school, there.size())) {
            return said(-2, true);
        }
        there.set(school, !is);
        return said(0, false);
    }

    int judge() {
        return judges == 20 ? said(-5, true) : said(judges++, false);
    }

    int kin(int judge, int school) {
        if (!in(judge, judges) || !in(school, there.size())) {
            return said(-2, true);
        }
        if (!kin.contains(List.of(judge, school))) {
            if (kin.size() == 60) {
                return said(-5, true);
            }
            kin.add(List.of(judge, school));
        }
        return said(kin.size(), false);
    }

    int rooms(int many) {
        if (many < 1 || many > 7) {
            return said(-1, true);
        }
        int before = rooms;
        rooms = many;
        return said(before, false);
    }

    private List<Integer> standings(int known) {
        List<Integer> all = new ArrayList<>();
        for (int s = 0; s < there.size(); s++) {
            if (there.get(s)) {
                all.add(s);
            }
        }
        Map<Integer, int[]> keys = new HashMap<>();
        for (int s : all) {
            keys.put(s, new int[] {wins(s, known), halves(s, known), metWins(s, known), margins(s, known)});
        }
        all.sort((a, b) -> {
            for (int i = 0; i < 4; i++) {
                if (keys.get(a)[i] != keys.get(b)[i]) {
                    return keys.get(b)[i] - keys.get(a)[i];
                }
            }
            return a - b;
        });
        return all;
    }

    private Ballot counting(int round, int t, int judge, int known) {
        Ballot last = null;
        for (Ballot b : ballots) {
            if (b.round == round && b.t == t && b.judge == judge && b.known <= known) {
                last = b;
            }
        }
        return last;
    }

    private static int halvesOf(Ballot b, boolean accusing) {
        int more = accusing ? b.accusing - b.defending : b.defending - b.accusing;
        return 1 + Integer.signum(more);
    }

    private int trialHalves(int round, int t, boolean accusing, int known) {
        int sum = 0;
        for (int judge : rounds.get(round).trials.get(t).judges) {
            Ballot b = counting(round, t, judge, known);
            sum += b == null ? 0 : halvesOf(b, accusing);
        }
        return sum;
    }

    private interface Seen {
        int of(int round, int t, boolean accusing, int other);
    }

    private int overTrials(int school, Seen seen) {
        int sum = 0;
        for (int r = 0; r < rounds.size(); r++) {
            for (int t = 0; t < rounds.get(r).trials.size(); t++) {
                Trial trial = rounds.get(r).trials.get(t);
                if (trial.accusing == school) {
                    sum += seen.of(r, t, true, trial.defending);
                } else if (trial.defending == school) {
                    sum += seen.of(r, t, false, trial.accusing);
                }
            }
        }
        return sum;
    }

    private int wins(int school, int known) {
        return 2 * byes(school) + overTrials(school, (r, t, accusing, other) -> {
            int own = trialHalves(r, t, accusing, known);
            int its = trialHalves(r, t, !accusing, known);
            return own + its == 0 ? 0 : 1 + Integer.signum(own - its);
        });
    }

    private int halves(int school, int known) {
        return overTrials(school, (r, t, accusing, other) -> trialHalves(r, t, accusing, known));
    }

    private int metWins(int school, int known) {
        return overTrials(school, (r, t, accusing, other) -> wins(other, known));
    }

    private int margins(int school, int known) {
        return overTrials(school, (r, t, accusing, other) -> {
            int sum = 0;
            for (int judge : rounds.get(r).trials.get(t).judges) {
                Ballot b = counting(r, t, judge, known);
                if (b != null) {
                    int size = Math.abs(b.accusing - b.defending) * 1000 / span(judge, known);
                    sum += (halvesOf(b, accusing) - 1) * size;
                }
            }
            return sum;
        });
    }

    private int accused(int school) {
        return overTrials(school, (r, t, accusing, other) -> accusing ? 1 : 0);
    }

    private int byes(int school) {
        int many = 0;
        for (Round round : rounds) {
            many += round.bye == school ? 1 : 0;
        }
        return many;
    }

    int pair(int known) {
        if (!hour(known)) {
            return said(-1, true);
        }
        List<Integer> line = standings(known);
        if (line.size() < 2) {
            return said(-3, true);
        }
        if (rounds.size() == 8 || line.size() / 2 > rooms) {
            return said(-5, true);
        }
        int bye = -1;
        if (line.size() % 2 == 1) {
            bye = line.get(line.size() - 1);
            for (int s : line) {
                bye = byes(s) == 0 ? s : bye;
            }
            line.remove(Integer.valueOf(bye));
        }
        best = null;
        int[] wins = new int[14];
        boolean[][] have = new boolean[14][14];
        for (int a : line) {
            wins[a] = wins(a, known);
            for (int b : line) {
                have[a][b] = met(a, b) > 0;
            }
        }
        tryAll(line, new ArrayList<>(), 0, 0, wins, have);
        Round round = new Round(new ArrayList<>(), bye);
        for (int i = 0; i < best.size(); i += 2) {
            int a = best.get(i);
            int b = best.get(i + 1);
            boolean turn = accused(b) < accused(a);
            round.trials.add(new Trial(turn ? b : a, turn ? a : b, seat(round, a, b)));
        }
        rounds.add(round);
        return said(rounds.size() - 1, false);
    }

    private List<Integer> best;
    private int bestMet;
    private int bestSquares;

    /** Comes by all pairings, the first in the document's order first. */
    private void tryAll(List<Integer> left, List<Integer> pairs, int met, int squares, int[] wins, boolean[][] have) {
        if (left.isEmpty()) {
            if (best == null || met < bestMet || met == bestMet && squares < bestSquares) {
                best = new ArrayList<>(pairs);
                bestMet = met;
                bestSquares = squares;
            }
            return;
        }
        int a = left.get(0);
        for (int i = 1; i < left.size(); i++) {
            int b = left.get(i);
            List<Integer> rest = new ArrayList<>(left);
            rest.remove(i);
            rest.remove(0);
            pairs.add(a);
            pairs.add(b);
            int more = wins[a] - wins[b];
            tryAll(rest, pairs, met + (have[a][b] ? 1 : 0), squares + more * more, wins, have);
            pairs.remove(pairs.size() - 1);
            pairs.remove(pairs.size() - 1);
        }
    }

    private List<Integer> seat(Round now, int a, int b) {
        List<Integer> seated = new ArrayList<>();
        for (int j = 0; j < judges; j++) {
            boolean free = !kin.contains(List.of(j, a)) && !kin.contains(List.of(j, b));
            for (Trial trial : now.trials) {
                free &= !trial.judges.contains(j);
            }
            for (Round round : rounds) {
                for (Trial trial : round.trials) {
                    boolean one = trial.accusing == a || trial.accusing == b || trial.defending == a || trial.defending == b;
                    free &= !(one && trial.judges.contains(j));
                }
            }
            if (free && seated.size() < 2) {
                seated.add(j);
            }
        }
        return seated;
    }

    int trial(int round, int t, int what) {
        if (!in(round, rounds.size())) {
            return -1;
        }
        Round r = rounds.get(round);
        if (t == -1) {
            return what == 0 ? r.trials.size() : what == 1 ? r.bye : -1;
        }
        if (!in(t, r.trials.size()) || !in(what, 5)) {
            return -1;
        }
        Trial trial = r.trials.get(t);
        if (what >= 3) {
            return what - 3 < trial.judges.size() ? trial.judges.get(what - 3) : -1;
        }
        return what == 0 ? trial.accusing : what == 1 ? trial.defending : t;
    }

    int ballot(int round, int t, int judge, int accusing, int defending, int known) {
        if (!in(accusing, 101) || !in(defending, 101) || !hour(known)) {
            return said(-1, true);
        }
        if (!in(round, rounds.size()) || !in(t, rounds.get(round).trials.size()) || !in(judge, judges)) {
            return said(-2, true);
        }
        if (!rounds.get(round).trials.get(t).judges.contains(judge)) {
            return said(-3, true);
        }
        if (ballots.size() == 400) {
            return said(-5, true);
        }
        ballots.add(new Ballot(round, t, judge, accusing, defending, known));
        return said(ballots.size(), false);
    }

    int counts(int round, int t, int judge, int side, int known) {
        Ballot b = hour(known) ? counting(round, t, judge, known) : null;
        return b == null || !in(side, 2) ? -1 : side == 0 ? b.accusing : b.defending;
    }

    int of(int school, int known, int what) {
        if (!in(school, there.size()) || !hour(known) || !in(what, 7)) {
            return -1000000;
        }
        switch (what) {
            case 0: return wins(school, known);
            case 1: return halves(school, known);
            case 2: return metWins(school, known);
            case 3: return margins(school, known);
            case 4: return standings(known).indexOf(school);
            case 5: return accused(school);
            default: return byes(school);
        }
    }

    int at(int place, int known) {
        return hour(known) && in(place, standings(known).size()) ? standings(known).get(place) : -1;
    }

    int span(int judge, int known) {
        if (!in(judge, judges) || !hour(known)) {
            return -1;
        }
        List<Integer> points = new ArrayList<>();
        for (Ballot b : ballots) {
            if (b.judge == judge && b == counting(b.round, b.t, judge, known)) {
                points.add(b.accusing);
                points.add(b.defending);
            }
        }
        points.sort(null);
        return points.isEmpty() ? 1 : Math.max(1, points.get(points.size() - 1) - points.get(0));
    }

    int met(int a, int b) {
        if (!in(a, there.size()) || !in(b, there.size())) {
            return -1;
        }
        return overTrials(a, (r, t, accusing, other) -> other == b ? 1 : 0);
    }

    int witness(int stated) {
        if (witnesses.size() == 10) {
            return said(-5, true);
        }
        witnesses.add(stated);
        return said(witnesses.size() - 1, false);
    }

    int implies(int of, int fact) {
        if (!in(fact, 32)) {
            return said(-1, true);
        }
        if (implications.size() == 40) {
            return said(-5, true);
        }
        implications.add(new int[] {of, fact});
        return said(implications.size(), false);
    }

    int implied(int witness) {
        if (!in(witness, witnesses.size())) {
            return 0;
        }
        int all = witnesses.get(witness);
        for (int i = 0; i < implications.size(); i++) {
            int[] one = implications.get(i);
            if ((all & one[0]) == one[0] && (all >>> one[1] & 1) == 0) {
                all |= 1 << one[1];
                i = -1;
            }
        }
        return all;
    }

    int feed(int... numbers) {
        if (tape.length() > 380) {
            return -1;
        }
        for (int n : numbers) {
            tape += "" + (char) (n >>> 24) + (char) (n >>> 16 & 255) + (char) (n >>> 8 & 255) + (char) (n & 255);
        }
        return tape.length();
    }

    int end(int n) {
        if (n < 0 || n > tape.length()) {
            return -1;
        }
        tape = tape.substring(0, n);
        return n;
    }

    /** What a text's reading fails with: the place. */
    private static final class Fault extends RuntimeException {
        private static final long serialVersionUID = 1;
        final int place;

        Fault(int place) {
            this.place = place;
        }
    }

    private List<String> tokens;
    private List<Integer> places;
    private int now;

    int rules() {
        tokens = new ArrayList<>();
        places = new ArrayList<>();
        Matcher m = Pattern.compile("[a-z]+|[0-9]+|[^ ]", Pattern.DOTALL).matcher(tape);
        while (m.find()) {
            tokens.add(m.group());
            places.add(m.start());
        }
        tokens.add("");
        places.add(tape.length());
        now = 0;
        tape = "";
        try {
            rules = read();
            fault = -1;
            return said(rules.size(), false);
        } catch (Fault f) {
            fault = f.place;
            return said(-6, true);
        }
    }

    private Fault here() {
        return new Fault(places.get(now));
    }

    private boolean skip(String token) {
        boolean is = tokens.get(now).equals(token);
        now += is ? 1 : 0;
        return is;
    }

    private void must(String token) {
        if (!skip(token)) {
            throw here();
        }
    }

    private List<Rule> read() {
        List<Rule> all = new ArrayList<>();
        if (tokens.size() == 1) {
            return all;
        }
        do {
            if (all.size() == 20) {
                throw here();
            }
            must("sustain");
            int kind = List.of("leading", "hearsay", "stretch", "relevance").indexOf(tokens.get(now));
            if (kind < 0) {
                throw here();
            }
            now++;
            all.add(new Rule(kind, skip("if") ? cond(0) : a -> true));
        } while (skip(";"));
        if (now != tokens.size() - 1) {
            throw here();
        }
        return all;
    }

    private Predicate<Asked> cond(int depth) {
        Predicate<Asked> all = and(depth);
        while (skip("or")) {
            all = all.or(and(depth));
        }
        return all;
    }

    private Predicate<Asked> and(int depth) {
        Predicate<Asked> all = not(depth);
        while (skip("and")) {
            all = all.and(not(depth));
        }
        return all;
    }

    private Predicate<Asked> not(int depth) {
        String token = tokens.get(now);
        if (depth == 8 && (token.equals("not") || token.equals("("))) {
            throw here();
        }
        if (skip("not")) {
            return not(depth + 1).negate();
        }
        if (skip("(")) {
            Predicate<Asked> inside = cond(depth + 1);
            must(")");
            return inside;
        }
        if (skip("fact")) {
            if (!tokens.get(now).matches("0*([0-9]|[12][0-9]|3[01])")) {
                throw here();
            }
            int fact = Integer.parseInt(tokens.get(now++));
            return a -> a.fact == fact;
        }
        switch (token) {
            case "cross": now++; return a -> a.cross;
            case "stated": now++; return a -> a.stated;
            case "implied": now++; return a -> a.implied;
            case "asked": now++; return a -> a.asked;
            default: throw here();
        }
    }

    int fault() {
        return fault;
    }

    int object(int kind, int witness, int fact, boolean cross) {
        if (!in(kind, 4) || !in(witness, witnesses.size()) || !in(fact, 32)) {
            return -1;
        }
        Asked asked = new Asked(fact, cross, (witnesses.get(witness) >>> fact & 1) == 1,
            (implied(witness) >>> fact & 1) == 1, questions.contains(List.of(witness, fact)));
        for (Rule rule : rules) {
            if (rule.kind == kind && rule.cond.test(asked)) {
                return 1;
            }
        }
        return 0;
    }

    int ask(int witness, int fact) {
        if (!in(fact, 32)) {
            return said(-1, true);
        }
        if (!in(witness, witnesses.size())) {
            return said(-2, true);
        }
        int before = 0;
        for (List<Integer> q : questions) {
            before += q.equals(List.of(witness, fact)) ? 1 : 0;
        }
        questions.add(List.of(witness, fact));
        return said(before, false);
    }

    int count(int what) {
        int present = 0;
        for (boolean is : there) {
            present += is ? 1 : 0;
        }
        int[] all = {there.size(), present, judges, kin.size(), rounds.size(), ballots.size(), witnesses.size(),
            implications.size(), rules.size(), tape.length(), questions.size()};
        return in(what, all.length) ? all[what] : -1;
    }

    int status() {
        return status;
    }
}
