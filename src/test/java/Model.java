import java.util.ArrayList;
import java.util.HashMap;
import java.util.HashSet;
import java.util.List;
import java.util.Map;
import java.util.NoSuchElementException;
import java.util.Set;

/**
 * The document once more, written as plainly as the Java library allows: sheets in stock and plates
 * are texts with the states that they show, and nothing is kept that can be found again.
 */
final class Model {
    private static final class ModelJob {
        char binding;
        List<Integer> shown = new ArrayList<>();
        Map<Integer, List<String>> stock = new HashMap<>();
    }

    private static final class ModelLot {
        int copies;
        List<Integer> shown;
        List<Integer> states;
    }

    private final List<Integer> states = new ArrayList<>();
    private final Set<Integer> approved = new HashSet<>();
    private final List<ModelJob> jobs = new ArrayList<>();
    private final List<ModelLot> lots = new ArrayList<>();
    private final Set<String> plates = new HashSet<>();
    private final List<Integer> makereadies = new ArrayList<>();
    private String pressFront = "nothing";
    private String pressBack = "nothing";
    private String pressBinding = "nothing";
    private long waste = 0;
    private long printed = 0;

    int addContent() {
        if (states.size() == 12) {
            throw new IllegalStateException();
        }
        states.add(0);
        return states.size() - 1;
    }

    boolean approve(int content) {
        content(content);
        return !approved.add(content);
    }

    int correct(int content) {
        content(content);
        if (states.get(content) == 99) {
            throw new IllegalStateException();
        }
        int gone = 0;
        for (ModelJob job : jobs) {
            for (int sheet : new ArrayList<>(job.stock.keySet())) {
                if (shownOn(job, sheet).contains(content)) {
                    gone += job.stock.remove(sheet).size();
                }
            }
        }
        states.set(content, states.get(content) + 1);
        approved.remove(content);
        waste += gone;
        return gone;
    }

    int state(int content) {
        content(content);
        return states.get(content);
    }

    int addJob(char binding) {
        if ("spw".indexOf(binding) < 0) {
            throw new IllegalArgumentException();
        }
        if (jobs.size() == 4) {
            throw new IllegalStateException();
        }
        ModelJob job = new ModelJob();
        job.binding = binding;
        jobs.add(job);
        return jobs.size() - 1;
    }

    int addPage(int job, int content) {
        ModelJob found = job(job);
        content(content);
        if (found.shown.size() == 16) {
            throw new IllegalStateException();
        }
        for (List<String> pile : found.stock.values()) {
            waste += pile.size();
        }
        found.stock.clear();
        found.shown.add(content);
        return found.shown.size();
    }

    int pages(int job) {
        return job(job).shown.size();
    }

    int sheets(int job) {
        return layout(complete(job)).size();
    }

    int pageAt(int job, int sheet, int place) {
        List<Integer> pages = sheet(complete(job), sheet);
        if (place < 0 || place >= pages.size()) {
            throw new NoSuchElementException();
        }
        return pages.get(place);
    }

    int sheetOf(int job, int page) {
        List<List<Integer>> all = layout(complete(job));
        for (int sheet = 0; sheet < all.size(); sheet++) {
            if (all.get(sheet).contains(page)) {
                return sheet;
            }
        }
        throw new NoSuchElementException();
    }

    int print(int job, int sheet, int count) {
        ModelJob found = complete(job);
        sheet(found, sheet);
        range(count);
        List<String> pile = found.stock.getOrDefault(sheet, new ArrayList<>());
        if (!approved.containsAll(shownOn(found, sheet)) || pile.size() + count > 9999) {
            throw new UnsupportedOperationException();
        }
        int minutes = makeready(job, sheet);
        pressFront = plate(found, sheet, 0);
        pressBack = plate(found, sheet, 1);
        pressBinding = "" + found.binding;
        plates.add(pressFront);
        plates.add(pressBack);
        for (int i = 0; i < count; i++) {
            pile.add(pressFront + pressBack);
        }
        found.stock.put(sheet, pile);
        makereadies.add(minutes);
        printed += count;
        return minutes;
    }

    int makeready(int job, int sheet) {
        ModelJob found = complete(job);
        sheet(found, sheet);
        return minutes(found, sheet, pressFront, pressBack, pressBinding);
    }

    int leastMakeready(int job) {
        ModelJob found = complete(job);
        List<Integer> left = new ArrayList<>();
        for (int sheet = 0; sheet < layout(found).size(); sheet++) {
            left.add(sheet);
        }
        return least(found, left, pressFront, pressBack, pressBinding);
    }

    int leastByTrying(int job) {
        if (layout(complete(job)).size() > 6) {
            throw new UnsupportedOperationException();
        }
        return leastMakeready(job);
    }

    int stock(int job, int sheet) {
        ModelJob found = complete(job);
        sheet(found, sheet);
        return found.stock.getOrDefault(sheet, List.of()).size();
    }

    int plates() {
        return plates.size();
    }

    int platesNeeded(int job) {
        ModelJob found = complete(job);
        Set<String> needed = new HashSet<>();
        for (int sheet = 0; sheet < layout(found).size(); sheet++) {
            needed.add(plate(found, sheet, 0));
            needed.add(plate(found, sheet, 1));
        }
        needed.removeAll(plates);
        return needed.size();
    }

    int bind(int job, int copies) {
        ModelJob found = job(job);
        range(copies);
        complete(job);
        if (lots.size() == 100) {
            throw new IllegalStateException();
        }
        if (lacks(job, copies) > 0) {
            throw new UnsupportedOperationException();
        }
        for (List<String> pile : found.stock.values()) {
            pile.subList(0, copies).clear();
        }
        ModelLot lot = new ModelLot();
        lot.copies = copies;
        lot.shown = new ArrayList<>(found.shown);
        lot.states = new ArrayList<>();
        for (int content : found.shown) {
            lot.states.add(states.get(content));
        }
        lots.add(lot);
        return lots.size() - 1;
    }

    int lacks(int job, int copies) {
        job(job);
        range(copies);
        ModelJob found = complete(job);
        int sum = 0;
        for (int sheet = 0; sheet < layout(found).size(); sheet++) {
            sum += Math.max(0, copies - stock(job, sheet));
        }
        return sum;
    }

    int lots() {
        return lots.size();
    }

    int copies(int lot) {
        return lot(lot).copies;
    }

    int stateIn(int lot, int page) {
        ModelLot found = lot(lot);
        if (page < 1 || page > found.states.size()) {
            throw new NoSuchElementException();
        }
        return found.states.get(page - 1);
    }

    int outdated(int content) {
        content(content);
        int sum = 0;
        for (ModelLot lot : lots) {
            int page = lot.shown.indexOf(content);
            if (page >= 0 && !lot.states.get(page).equals(states.get(content))) {
                sum += lot.copies;
            }
        }
        return sum;
    }

    long waste() {
        return waste;
    }

    float wasteShare() {
        if (printed == 0) {
            throw new ArithmeticException();
        }
        return (float) waste / (float) printed;
    }

    double meanMakeready() {
        if (makereadies.isEmpty()) {
            throw new ArithmeticException();
        }
        long sum = 0;
        for (int minutes : makereadies) {
            sum += minutes;
        }
        return (double) sum / (double) makereadies.size();
    }

    // ---- what the calls need

    private void content(int content) {
        if (content < 0 || content >= states.size()) {
            throw new IndexOutOfBoundsException();
        }
    }

    private ModelJob job(int job) {
        if (job < 0 || job >= jobs.size()) {
            throw new IndexOutOfBoundsException();
        }
        return jobs.get(job);
    }

    private ModelJob complete(int job) {
        ModelJob found = job(job);
        int places = found.binding == 'w' ? 2 : 4;
        if (found.shown.isEmpty() || found.shown.size() % places != 0) {
            throw new IllegalStateException();
        }
        return found;
    }

    private static List<Integer> sheet(ModelJob job, int sheet) {
        List<List<Integer>> all = layout(job);
        if (sheet < 0 || sheet >= all.size()) {
            throw new NoSuchElementException();
        }
        return all.get(sheet);
    }

    private static void range(int count) {
        if (count < 1 || count > 500) {
            throw new IllegalArgumentException();
        }
    }

    private ModelLot lot(int lot) {
        if (lot < 0 || lot >= lots.size()) {
            throw new IndexOutOfBoundsException();
        }
        return lots.get(lot);
    }

    private static List<List<Integer>> layout(ModelJob job) {
        int p = job.shown.size();
        List<List<Integer>> all = new ArrayList<>();
        for (int n = 0; n < (job.binding == 'w' ? p / 2 : p / 4); n++) {
            switch (job.binding) {
                case 's' -> all.add(List.of(p - 2 * n, 2 * n + 1, 2 * n + 2, p - 2 * n - 1));
                case 'p' -> all.add(List.of(4 * n + 4, 4 * n + 1, 4 * n + 2, 4 * n + 3));
                default -> all.add(List.of(2 * n + 1, 2 * n + 2));
            }
        }
        return all;
    }

    private static List<Integer> shownOn(ModelJob job, int sheet) {
        List<Integer> shown = new ArrayList<>();
        for (int page : layout(job).get(sheet)) {
            shown.add(job.shown.get(page - 1));
        }
        return shown;
    }

    private String plate(ModelJob job, int sheet, int side) {
        List<Integer> shown = shownOn(job, sheet);
        int half = shown.size() / 2;
        StringBuilder plate = new StringBuilder();
        for (int content : shown.subList(side * half, side * half + half)) {
            plate.append(content).append('@').append(states.get(content)).append(' ');
        }
        return plate.toString();
    }

    private int minutes(ModelJob job, int sheet, String front, String back, String binding) {
        return (plate(job, sheet, 0).equals(front) ? 0 : 20)
                + (plate(job, sheet, 1).equals(back) ? 0 : 20)
                + (binding.equals("" + job.binding) ? 0 : 15);
    }

    private int least(ModelJob job, List<Integer> left, String front, String back, String binding) {
        int least = left.isEmpty() ? 0 : Integer.MAX_VALUE;
        for (int sheet : left) {
            List<Integer> rest = new ArrayList<>(left);
            rest.remove(Integer.valueOf(sheet));
            least = Math.min(least, minutes(job, sheet, front, back, binding)
                    + least(job, rest, plate(job, sheet, 0), plate(job, sheet, 1), "" + job.binding));
        }
        return least;
    }
}
